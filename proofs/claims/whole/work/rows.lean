section
-- ===== PART A: goes FIRST, ahead of the names: the tables' words, and 'selects' of the private methods out of them =====
/-- a private method of a class that the tables say can be made, by its rows of tables_1 -/
def lw_okq (q : MethodName × Nat) : Prop := (q.1.cls ≠ "java/lang/invoke/MethodHandle" ∧ q.1.cls ≠ "java/lang/invoke/VarHandle") ∧ Cond.instantiable q.1.cls q.2 ∈ tables_1 ∧ Cond.privateMethod q.1 ∈ tables_1 ∧ Cond.instanceMethod q.1 ∈ tables_1
theorem lw_p0 : lw_okq (⟨"LedgerTwice$Journal", "put", "(I)V"⟩, 7) := ⟨⟨by decide +kernel, by decide +kernel⟩, List.mem_of_getElem? (i := 210) (by decide +kernel), List.mem_of_getElem? (i := 434) (by decide +kernel), List.mem_of_getElem? (i := 435) (by decide +kernel)⟩
theorem lw_p1 : lw_okq (⟨"LedgerTwice$Journal", "checkOf", "(II)I"⟩, 7) := ⟨⟨by decide +kernel, by decide +kernel⟩, List.mem_of_getElem? (i := 210) (by decide +kernel), List.mem_of_getElem? (i := 439) (by decide +kernel), List.mem_of_getElem? (i := 440) (by decide +kernel)⟩
theorem lw_p2 : lw_okq (⟨"LedgerTwice$Accounts", "putByCode", "(I)V"⟩, 10) := ⟨⟨by decide +kernel, by decide +kernel⟩, List.mem_of_getElem? (i := 32) (by decide +kernel), List.mem_of_getElem? (i := 464) (by decide +kernel), List.mem_of_getElem? (i := 465) (by decide +kernel)⟩
theorem lw_p3 : lw_okq (⟨"LedgerTwice", "writePlain", "(LLedgerTwice$Lines;II)I"⟩, 8) := ⟨⟨by decide +kernel, by decide +kernel⟩, List.mem_of_getElem? (i := 18) (by decide +kernel), List.mem_of_getElem? (i := 557) (by decide +kernel), List.mem_of_getElem? (i := 558) (by decide +kernel)⟩
theorem lw_p4 : lw_okq (⟨"LedgerTwice$Books", "hasShut", "(LLedgerTwice$Lines;)Z"⟩, 5) := ⟨⟨by decide +kernel, by decide +kernel⟩, List.mem_of_getElem? (i := 26) (by decide +kernel), List.mem_of_getElem? (i := 577) (by decide +kernel), List.mem_of_getElem? (i := 578) (by decide +kernel)⟩
theorem lw_p5 : lw_okq (⟨"LedgerTwice$Books", "refusesUnjudged", "(LLedgerTwice$Lines;)I"⟩, 5) := ⟨⟨by decide +kernel, by decide +kernel⟩, List.mem_of_getElem? (i := 26) (by decide +kernel), List.mem_of_getElem? (i := 581) (by decide +kernel), List.mem_of_getElem? (i := 582) (by decide +kernel)⟩
theorem lw_p6 : lw_okq (⟨"LedgerTwice$Books", "goesOver", "(LLedgerTwice$Lines;)Z"⟩, 5) := ⟨⟨by decide +kernel, by decide +kernel⟩, List.mem_of_getElem? (i := 26) (by decide +kernel), List.mem_of_getElem? (i := 585) (by decide +kernel), List.mem_of_getElem? (i := 586) (by decide +kernel)⟩
theorem lw_p7 : lw_okq (⟨"LedgerTwice$Books", "fillClosing", "(ILLedgerTwice$Lines;)V"⟩, 5) := ⟨⟨by decide +kernel, by decide +kernel⟩, List.mem_of_getElem? (i := 26) (by decide +kernel), List.mem_of_getElem? (i := 665) (by decide +kernel), List.mem_of_getElem? (i := 666) (by decide +kernel)⟩
theorem lw_p8 : lw_okq (⟨"LedgerTwice$Books", "isClosedOut", "(I)Z"⟩, 5) := ⟨⟨by decide +kernel, by decide +kernel⟩, List.mem_of_getElem? (i := 26) (by decide +kernel), List.mem_of_getElem? (i := 681) (by decide +kernel), List.mem_of_getElem? (i := 682) (by decide +kernel)⟩
theorem lw_p9 : lw_okq (⟨"LedgerTwice", "refusesShare", "(IJ)I"⟩, 8) := ⟨⟨by decide +kernel, by decide +kernel⟩, List.mem_of_getElem? (i := 18) (by decide +kernel), List.mem_of_getElem? (i := 718) (by decide +kernel), List.mem_of_getElem? (i := 719) (by decide +kernel)⟩
theorem lw_p10 : lw_okq (⟨"LedgerTwice", "shareOut", "(IJ)V"⟩, 8) := ⟨⟨by decide +kernel, by decide +kernel⟩, List.mem_of_getElem? (i := 18) (by decide +kernel), List.mem_of_getElem? (i := 729) (by decide +kernel), List.mem_of_getElem? (i := 730) (by decide +kernel)⟩
theorem lw_p11 : lw_okq (⟨"LedgerTwice$Shares", "giveRest", "(J)V"⟩, 4) := ⟨⟨by decide +kernel, by decide +kernel⟩, List.mem_of_getElem? (i := 301) (by decide +kernel), List.mem_of_getElem? (i := 752) (by decide +kernel), List.mem_of_getElem? (i := 753) (by decide +kernel)⟩
theorem lw_p12 : lw_okq (⟨"LedgerTwice$Shares", "withGreatestRemainder", "()I"⟩, 4) := ⟨⟨by decide +kernel, by decide +kernel⟩, List.mem_of_getElem? (i := 301) (by decide +kernel), List.mem_of_getElem? (i := 757) (by decide +kernel), List.mem_of_getElem? (i := 758) (by decide +kernel)⟩
theorem lw_p13 : lw_okq (⟨"LedgerTwice$Recovery", "redo", "(II)Z"⟩, 6) := ⟨⟨by decide +kernel, by decide +kernel⟩, List.mem_of_getElem? (i := 245) (by decide +kernel), List.mem_of_getElem? (i := 811) (by decide +kernel), List.mem_of_getElem? (i := 812) (by decide +kernel)⟩
theorem lw_p14 : lw_okq (⟨"LedgerTwice$Recovery", "redoAccount", "()Z"⟩, 6) := ⟨⟨by decide +kernel, by decide +kernel⟩, List.mem_of_getElem? (i := 245) (by decide +kernel), List.mem_of_getElem? (i := 816) (by decide +kernel), List.mem_of_getElem? (i := 817) (by decide +kernel)⟩
theorem lw_p15 : lw_okq (⟨"LedgerTwice$Recovery", "nextInt", "()I"⟩, 6) := ⟨⟨by decide +kernel, by decide +kernel⟩, List.mem_of_getElem? (i := 245) (by decide +kernel), List.mem_of_getElem? (i := 820) (by decide +kernel), List.mem_of_getElem? (i := 821) (by decide +kernel)⟩
def lw_privs_1 : List (MethodName × Nat) := [(⟨"LedgerTwice$Journal", "put", "(I)V"⟩, 7), (⟨"LedgerTwice$Journal", "checkOf", "(II)I"⟩, 7), (⟨"LedgerTwice$Accounts", "putByCode", "(I)V"⟩, 10), (⟨"LedgerTwice", "writePlain", "(LLedgerTwice$Lines;II)I"⟩, 8), (⟨"LedgerTwice$Books", "hasShut", "(LLedgerTwice$Lines;)Z"⟩, 5), (⟨"LedgerTwice$Books", "refusesUnjudged", "(LLedgerTwice$Lines;)I"⟩, 5), (⟨"LedgerTwice$Books", "goesOver", "(LLedgerTwice$Lines;)Z"⟩, 5), (⟨"LedgerTwice$Books", "fillClosing", "(ILLedgerTwice$Lines;)V"⟩, 5), (⟨"LedgerTwice$Books", "isClosedOut", "(I)Z"⟩, 5), (⟨"LedgerTwice", "refusesShare", "(IJ)I"⟩, 8), (⟨"LedgerTwice", "shareOut", "(IJ)V"⟩, 8), (⟨"LedgerTwice$Shares", "giveRest", "(J)V"⟩, 4), (⟨"LedgerTwice$Shares", "withGreatestRemainder", "()I"⟩, 4), (⟨"LedgerTwice$Recovery", "redo", "(II)Z"⟩, 6), (⟨"LedgerTwice$Recovery", "redoAccount", "()Z"⟩, 6), (⟨"LedgerTwice$Recovery", "nextInt", "()I"⟩, 6)]
theorem lw_r1 : ∀ q ∈ lw_privs_1, lw_okq q := List.forall_mem_cons.mpr ⟨lw_p0, List.forall_mem_cons.mpr ⟨lw_p1, List.forall_mem_cons.mpr ⟨lw_p2, List.forall_mem_cons.mpr ⟨lw_p3, List.forall_mem_cons.mpr ⟨lw_p4, List.forall_mem_cons.mpr ⟨lw_p5, List.forall_mem_cons.mpr ⟨lw_p6, List.forall_mem_cons.mpr ⟨lw_p7, List.forall_mem_cons.mpr ⟨lw_p8, List.forall_mem_cons.mpr ⟨lw_p9, List.forall_mem_cons.mpr ⟨lw_p10, List.forall_mem_cons.mpr ⟨lw_p11, List.forall_mem_cons.mpr ⟨lw_p12, List.forall_mem_cons.mpr ⟨lw_p13, List.forall_mem_cons.mpr ⟨lw_p14, List.forall_mem_cons.mpr ⟨lw_p15, fun _ h => absurd h List.not_mem_nil⟩⟩⟩⟩⟩⟩⟩⟩⟩⟩⟩⟩⟩⟩⟩⟩
theorem lw_p16 : lw_okq (⟨"LedgerTwice$Recovery", "nextNumber", "()J"⟩, 6) := ⟨⟨by decide +kernel, by decide +kernel⟩, List.mem_of_getElem? (i := 245) (by decide +kernel), List.mem_of_getElem? (i := 824) (by decide +kernel), List.mem_of_getElem? (i := 825) (by decide +kernel)⟩
theorem lw_p17 : lw_okq (⟨"LedgerTwice$Recovery", "nextFlag", "()Z"⟩, 6) := ⟨⟨by decide +kernel, by decide +kernel⟩, List.mem_of_getElem? (i := 245) (by decide +kernel), List.mem_of_getElem? (i := 828) (by decide +kernel), List.mem_of_getElem? (i := 829) (by decide +kernel)⟩
theorem lw_p18 : lw_okq (⟨"LedgerTwice$Recovery", "isReadWhole", "()Z"⟩, 6) := ⟨⟨by decide +kernel, by decide +kernel⟩, List.mem_of_getElem? (i := 245) (by decide +kernel), List.mem_of_getElem? (i := 832) (by decide +kernel), List.mem_of_getElem? (i := 833) (by decide +kernel)⟩
theorem lw_p19 : lw_okq (⟨"LedgerTwice$Recovery", "redoShut", "()Z"⟩, 6) := ⟨⟨by decide +kernel, by decide +kernel⟩, List.mem_of_getElem? (i := 245) (by decide +kernel), List.mem_of_getElem? (i := 838) (by decide +kernel), List.mem_of_getElem? (i := 839) (by decide +kernel)⟩
theorem lw_p20 : lw_okq (⟨"LedgerTwice$Recovery", "redoPeriod", "()Z"⟩, 6) := ⟨⟨by decide +kernel, by decide +kernel⟩, List.mem_of_getElem? (i := 245) (by decide +kernel), List.mem_of_getElem? (i := 844) (by decide +kernel), List.mem_of_getElem? (i := 845) (by decide +kernel)⟩
theorem lw_p21 : lw_okq (⟨"LedgerTwice$Recovery", "redoOwner", "()Z"⟩, 6) := ⟨⟨by decide +kernel, by decide +kernel⟩, List.mem_of_getElem? (i := 245) (by decide +kernel), List.mem_of_getElem? (i := 850) (by decide +kernel), List.mem_of_getElem? (i := 851) (by decide +kernel)⟩
theorem lw_p22 : lw_okq (⟨"LedgerTwice$Recovery", "redoPost", "()Z"⟩, 6) := ⟨⟨by decide +kernel, by decide +kernel⟩, List.mem_of_getElem? (i := 245) (by decide +kernel), List.mem_of_getElem? (i := 856) (by decide +kernel), List.mem_of_getElem? (i := 857) (by decide +kernel)⟩
theorem lw_p23 : lw_okq (⟨"LedgerTwice$Recovery", "readLines", "()Z"⟩, 6) := ⟨⟨by decide +kernel, by decide +kernel⟩, List.mem_of_getElem? (i := 245) (by decide +kernel), List.mem_of_getElem? (i := 860) (by decide +kernel), List.mem_of_getElem? (i := 861) (by decide +kernel)⟩
theorem lw_p24 : lw_okq (⟨"LedgerTwice$Recovery", "redoBack", "()Z"⟩, 6) := ⟨⟨by decide +kernel, by decide +kernel⟩, List.mem_of_getElem? (i := 245) (by decide +kernel), List.mem_of_getElem? (i := 869) (by decide +kernel), List.mem_of_getElem? (i := 870) (by decide +kernel)⟩
theorem lw_p25 : lw_okq (⟨"LedgerTwice$Recovery", "redoClose", "()Z"⟩, 6) := ⟨⟨by decide +kernel, by decide +kernel⟩, List.mem_of_getElem? (i := 245) (by decide +kernel), List.mem_of_getElem? (i := 875) (by decide +kernel), List.mem_of_getElem? (i := 876) (by decide +kernel)⟩
theorem lw_p26 : lw_okq (⟨"LedgerTwice$Recovery", "redoReopen", "()Z"⟩, 6) := ⟨⟨by decide +kernel, by decide +kernel⟩, List.mem_of_getElem? (i := 245) (by decide +kernel), List.mem_of_getElem? (i := 881) (by decide +kernel), List.mem_of_getElem? (i := 882) (by decide +kernel)⟩
theorem lw_p27 : lw_okq (⟨"LedgerTwice$Accounts", "isUnder", "(II)Z"⟩, 10) := ⟨⟨by decide +kernel, by decide +kernel⟩, List.mem_of_getElem? (i := 32) (by decide +kernel), List.mem_of_getElem? (i := 914) (by decide +kernel), List.mem_of_getElem? (i := 915) (by decide +kernel)⟩
theorem lw_p28 : lw_okq (⟨"LedgerTwice$Sheet", "writeLeaves", "()V"⟩, 4) := ⟨⟨by decide +kernel, by decide +kernel⟩, List.mem_of_getElem? (i := 325) (by decide +kernel), List.mem_of_getElem? (i := 977) (by decide +kernel), List.mem_of_getElem? (i := 978) (by decide +kernel)⟩
theorem lw_p29 : lw_okq (⟨"LedgerTwice$Sheet", "writeRow", "(I)V"⟩, 4) := ⟨⟨by decide +kernel, by decide +kernel⟩, List.mem_of_getElem? (i := 325) (by decide +kernel), List.mem_of_getElem? (i := 984) (by decide +kernel), List.mem_of_getElem? (i := 985) (by decide +kernel)⟩
theorem lw_p30 : lw_okq (⟨"LedgerTwice$Sheet", "put", "(I)V"⟩, 4) := ⟨⟨by decide +kernel, by decide +kernel⟩, List.mem_of_getElem? (i := 325) (by decide +kernel), List.mem_of_getElem? (i := 988) (by decide +kernel), List.mem_of_getElem? (i := 989) (by decide +kernel)⟩
theorem lw_p31 : lw_okq (⟨"LedgerTwice$Sheet", "putMoney", "(J)V"⟩, 4) := ⟨⟨by decide +kernel, by decide +kernel⟩, List.mem_of_getElem? (i := 325) (by decide +kernel), List.mem_of_getElem? (i := 994) (by decide +kernel), List.mem_of_getElem? (i := 995) (by decide +kernel)⟩
def lw_privs_2 : List (MethodName × Nat) := [(⟨"LedgerTwice$Recovery", "nextNumber", "()J"⟩, 6), (⟨"LedgerTwice$Recovery", "nextFlag", "()Z"⟩, 6), (⟨"LedgerTwice$Recovery", "isReadWhole", "()Z"⟩, 6), (⟨"LedgerTwice$Recovery", "redoShut", "()Z"⟩, 6), (⟨"LedgerTwice$Recovery", "redoPeriod", "()Z"⟩, 6), (⟨"LedgerTwice$Recovery", "redoOwner", "()Z"⟩, 6), (⟨"LedgerTwice$Recovery", "redoPost", "()Z"⟩, 6), (⟨"LedgerTwice$Recovery", "readLines", "()Z"⟩, 6), (⟨"LedgerTwice$Recovery", "redoBack", "()Z"⟩, 6), (⟨"LedgerTwice$Recovery", "redoClose", "()Z"⟩, 6), (⟨"LedgerTwice$Recovery", "redoReopen", "()Z"⟩, 6), (⟨"LedgerTwice$Accounts", "isUnder", "(II)Z"⟩, 10), (⟨"LedgerTwice$Sheet", "writeLeaves", "()V"⟩, 4), (⟨"LedgerTwice$Sheet", "writeRow", "(I)V"⟩, 4), (⟨"LedgerTwice$Sheet", "put", "(I)V"⟩, 4), (⟨"LedgerTwice$Sheet", "putMoney", "(J)V"⟩, 4)]
theorem lw_r2 : ∀ q ∈ lw_privs_2, lw_okq q := List.forall_mem_cons.mpr ⟨lw_p16, List.forall_mem_cons.mpr ⟨lw_p17, List.forall_mem_cons.mpr ⟨lw_p18, List.forall_mem_cons.mpr ⟨lw_p19, List.forall_mem_cons.mpr ⟨lw_p20, List.forall_mem_cons.mpr ⟨lw_p21, List.forall_mem_cons.mpr ⟨lw_p22, List.forall_mem_cons.mpr ⟨lw_p23, List.forall_mem_cons.mpr ⟨lw_p24, List.forall_mem_cons.mpr ⟨lw_p25, List.forall_mem_cons.mpr ⟨lw_p26, List.forall_mem_cons.mpr ⟨lw_p27, List.forall_mem_cons.mpr ⟨lw_p28, List.forall_mem_cons.mpr ⟨lw_p29, List.forall_mem_cons.mpr ⟨lw_p30, List.forall_mem_cons.mpr ⟨lw_p31, fun _ h => absurd h List.not_mem_nil⟩⟩⟩⟩⟩⟩⟩⟩⟩⟩⟩⟩⟩⟩⟩⟩
theorem lw_p32 : lw_okq (⟨"LedgerTwice$Sheet", "writeUnder", "(III)V"⟩, 4) := ⟨⟨by decide +kernel, by decide +kernel⟩, List.mem_of_getElem? (i := 325) (by decide +kernel), List.mem_of_getElem? (i := 1000) (by decide +kernel), List.mem_of_getElem? (i := 1001) (by decide +kernel)⟩
theorem lw_p33 : lw_okq (⟨"LedgerTwice$Sheet", "writeKinds", "()V"⟩, 4) := ⟨⟨by decide +kernel, by decide +kernel⟩, List.mem_of_getElem? (i := 325) (by decide +kernel), List.mem_of_getElem? (i := 1004) (by decide +kernel), List.mem_of_getElem? (i := 1005) (by decide +kernel)⟩
theorem lw_p34 : lw_okq (⟨"LedgerTwice$Sheet", "writeTotal", "(CJ)V"⟩, 4) := ⟨⟨by decide +kernel, by decide +kernel⟩, List.mem_of_getElem? (i := 325) (by decide +kernel), List.mem_of_getElem? (i := 1014) (by decide +kernel), List.mem_of_getElem? (i := 1015) (by decide +kernel)⟩
theorem lw_p35 : lw_okq (⟨"LedgerTwice", "countOfBooks", "(I)I"⟩, 8) := ⟨⟨by decide +kernel, by decide +kernel⟩, List.mem_of_getElem? (i := 18) (by decide +kernel), List.mem_of_getElem? (i := 1033) (by decide +kernel), List.mem_of_getElem? (i := 1034) (by decide +kernel)⟩
theorem lw_p36 : lw_okq (⟨"LedgerTwiceModel", "isAccount", "(I)Z"⟩, 49) := ⟨⟨by decide +kernel, by decide +kernel⟩, List.mem_of_getElem? (i := 1037) (by decide +kernel), List.mem_of_getElem? (i := 1196) (by decide +kernel), List.mem_of_getElem? (i := 1197) (by decide +kernel)⟩
theorem lw_p37 : lw_okq (⟨"LedgerTwiceModel", "isTold", "(I)Z"⟩, 49) := ⟨⟨by decide +kernel, by decide +kernel⟩, List.mem_of_getElem? (i := 1037) (by decide +kernel), List.mem_of_getElem? (i := 1205) (by decide +kernel), List.mem_of_getElem? (i := 1206) (by decide +kernel)⟩
theorem lw_p38 : lw_okq (⟨"LedgerTwiceModel", "begin", "()V"⟩, 49) := ⟨⟨by decide +kernel, by decide +kernel⟩, List.mem_of_getElem? (i := 1037) (by decide +kernel), List.mem_of_getElem? (i := 1209) (by decide +kernel), List.mem_of_getElem? (i := 1210) (by decide +kernel)⟩
theorem lw_p39 : lw_okq (⟨"LedgerTwiceModel", "say", "(J)V"⟩, 49) := ⟨⟨by decide +kernel, by decide +kernel⟩, List.mem_of_getElem? (i := 1037) (by decide +kernel), List.mem_of_getElem? (i := 1213) (by decide +kernel), List.mem_of_getElem? (i := 1214) (by decide +kernel)⟩
theorem lw_p40 : lw_okq (⟨"LedgerTwiceModel", "hasRoom", "()Z"⟩, 49) := ⟨⟨by decide +kernel, by decide +kernel⟩, List.mem_of_getElem? (i := 1037) (by decide +kernel), List.mem_of_getElem? (i := 1220) (by decide +kernel), List.mem_of_getElem? (i := 1221) (by decide +kernel)⟩
theorem lw_p41 : lw_okq (⟨"LedgerTwiceModel", "write", "(I)V"⟩, 49) := ⟨⟨by decide +kernel, by decide +kernel⟩, List.mem_of_getElem? (i := 1037) (by decide +kernel), List.mem_of_getElem? (i := 1224) (by decide +kernel), List.mem_of_getElem? (i := 1225) (by decide +kernel)⟩
theorem lw_p42 : lw_okq (⟨"LedgerTwiceModel", "append", "(I)V"⟩, 49) := ⟨⟨by decide +kernel, by decide +kernel⟩, List.mem_of_getElem? (i := 1037) (by decide +kernel), List.mem_of_getElem? (i := 1233) (by decide +kernel), List.mem_of_getElem? (i := 1234) (by decide +kernel)⟩
theorem lw_p43 : lw_okq (⟨"LedgerTwiceModel", "firstDay", "(I)I"⟩, 49) := ⟨⟨by decide +kernel, by decide +kernel⟩, List.mem_of_getElem? (i := 1037) (by decide +kernel), List.mem_of_getElem? (i := 1245) (by decide +kernel), List.mem_of_getElem? (i := 1246) (by decide +kernel)⟩
theorem lw_p44 : lw_okq (⟨"LedgerTwiceModel", "hand", "(IJ)V"⟩, 49) := ⟨⟨by decide +kernel, by decide +kernel⟩, List.mem_of_getElem? (i := 1037) (by decide +kernel), List.mem_of_getElem? (i := 1267) (by decide +kernel), List.mem_of_getElem? (i := 1268) (by decide +kernel)⟩
theorem lw_p45 : lw_okq (⟨"LedgerTwiceModel", "posted", "(II)I"⟩, 49) := ⟨⟨by decide +kernel, by decide +kernel⟩, List.mem_of_getElem? (i := 1037) (by decide +kernel), List.mem_of_getElem? (i := 1271) (by decide +kernel), List.mem_of_getElem? (i := 1272) (by decide +kernel)⟩
theorem lw_p46 : lw_okq (⟨"LedgerTwiceModel", "sayPost", "(II)V"⟩, 49) := ⟨⟨by decide +kernel, by decide +kernel⟩, List.mem_of_getElem? (i := 1037) (by decide +kernel), List.mem_of_getElem? (i := 1275) (by decide +kernel), List.mem_of_getElem? (i := 1276) (by decide +kernel)⟩
theorem lw_p47 : lw_okq (⟨"LedgerTwiceModel", "judged", "(I)I"⟩, 49) := ⟨⟨by decide +kernel, by decide +kernel⟩, List.mem_of_getElem? (i := 1037) (by decide +kernel), List.mem_of_getElem? (i := 1279) (by decide +kernel), List.mem_of_getElem? (i := 1280) (by decide +kernel)⟩
def lw_privs_3 : List (MethodName × Nat) := [(⟨"LedgerTwice$Sheet", "writeUnder", "(III)V"⟩, 4), (⟨"LedgerTwice$Sheet", "writeKinds", "()V"⟩, 4), (⟨"LedgerTwice$Sheet", "writeTotal", "(CJ)V"⟩, 4), (⟨"LedgerTwice", "countOfBooks", "(I)I"⟩, 8), (⟨"LedgerTwiceModel", "isAccount", "(I)Z"⟩, 49), (⟨"LedgerTwiceModel", "isTold", "(I)Z"⟩, 49), (⟨"LedgerTwiceModel", "begin", "()V"⟩, 49), (⟨"LedgerTwiceModel", "say", "(J)V"⟩, 49), (⟨"LedgerTwiceModel", "hasRoom", "()Z"⟩, 49), (⟨"LedgerTwiceModel", "write", "(I)V"⟩, 49), (⟨"LedgerTwiceModel", "append", "(I)V"⟩, 49), (⟨"LedgerTwiceModel", "firstDay", "(I)I"⟩, 49), (⟨"LedgerTwiceModel", "hand", "(IJ)V"⟩, 49), (⟨"LedgerTwiceModel", "posted", "(II)I"⟩, 49), (⟨"LedgerTwiceModel", "sayPost", "(II)V"⟩, 49), (⟨"LedgerTwiceModel", "judged", "(I)I"⟩, 49)]
theorem lw_r3 : ∀ q ∈ lw_privs_3, lw_okq q := List.forall_mem_cons.mpr ⟨lw_p32, List.forall_mem_cons.mpr ⟨lw_p33, List.forall_mem_cons.mpr ⟨lw_p34, List.forall_mem_cons.mpr ⟨lw_p35, List.forall_mem_cons.mpr ⟨lw_p36, List.forall_mem_cons.mpr ⟨lw_p37, List.forall_mem_cons.mpr ⟨lw_p38, List.forall_mem_cons.mpr ⟨lw_p39, List.forall_mem_cons.mpr ⟨lw_p40, List.forall_mem_cons.mpr ⟨lw_p41, List.forall_mem_cons.mpr ⟨lw_p42, List.forall_mem_cons.mpr ⟨lw_p43, List.forall_mem_cons.mpr ⟨lw_p44, List.forall_mem_cons.mpr ⟨lw_p45, List.forall_mem_cons.mpr ⟨lw_p46, List.forall_mem_cons.mpr ⟨lw_p47, fun _ h => absurd h List.not_mem_nil⟩⟩⟩⟩⟩⟩⟩⟩⟩⟩⟩⟩⟩⟩⟩⟩
theorem lw_p48 : lw_okq (⟨"LedgerTwiceModel", "periodAt", "(I)I"⟩, 49) := ⟨⟨by decide +kernel, by decide +kernel⟩, List.mem_of_getElem? (i := 1037) (by decide +kernel), List.mem_of_getElem? (i := 1283) (by decide +kernel), List.mem_of_getElem? (i := 1284) (by decide +kernel)⟩
theorem lw_p49 : lw_okq (⟨"LedgerTwiceModel", "isOver", "()Z"⟩, 49) := ⟨⟨by decide +kernel, by decide +kernel⟩, List.mem_of_getElem? (i := 1037) (by decide +kernel), List.mem_of_getElem? (i := 1287) (by decide +kernel), List.mem_of_getElem? (i := 1288) (by decide +kernel)⟩
theorem lw_p50 : lw_okq (⟨"LedgerTwiceModel", "enter", "(IIII)I"⟩, 49) := ⟨⟨by decide +kernel, by decide +kernel⟩, List.mem_of_getElem? (i := 1037) (by decide +kernel), List.mem_of_getElem? (i := 1293) (by decide +kernel), List.mem_of_getElem? (i := 1294) (by decide +kernel)⟩
theorem lw_p51 : lw_okq (⟨"LedgerTwiceModel", "turned", "(I)V"⟩, 49) := ⟨⟨by decide +kernel, by decide +kernel⟩, List.mem_of_getElem? (i := 1037) (by decide +kernel), List.mem_of_getElem? (i := 1301) (by decide +kernel), List.mem_of_getElem? (i := 1302) (by decide +kernel)⟩
theorem lw_p52 : lw_okq (⟨"LedgerTwiceModel", "nextCode", "(I)I"⟩, 49) := ⟨⟨by decide +kernel, by decide +kernel⟩, List.mem_of_getElem? (i := 1037) (by decide +kernel), List.mem_of_getElem? (i := 1309) (by decide +kernel), List.mem_of_getElem? (i := 1310) (by decide +kernel)⟩
theorem lw_p53 : lw_okq (⟨"LedgerTwiceModel", "sumOf", "(III)J"⟩, 49) := ⟨⟨by decide +kernel, by decide +kernel⟩, List.mem_of_getElem? (i := 1037) (by decide +kernel), List.mem_of_getElem? (i := 1313) (by decide +kernel), List.mem_of_getElem? (i := 1314) (by decide +kernel)⟩
theorem lw_p54 : lw_okq (⟨"LedgerTwiceModel", "shares", "(J)V"⟩, 49) := ⟨⟨by decide +kernel, by decide +kernel⟩, List.mem_of_getElem? (i := 1037) (by decide +kernel), List.mem_of_getElem? (i := 1326) (by decide +kernel), List.mem_of_getElem? (i := 1327) (by decide +kernel)⟩
theorem lw_p55 : lw_okq (⟨"LedgerTwiceModel", "isNext", "()Z"⟩, 49) := ⟨⟨by decide +kernel, by decide +kernel⟩, List.mem_of_getElem? (i := 1037) (by decide +kernel), List.mem_of_getElem? (i := 1350) (by decide +kernel), List.mem_of_getElem? (i := 1351) (by decide +kernel)⟩
theorem lw_p56 : lw_okq (⟨"LedgerTwiceModel", "isDone", "(I)Z"⟩, 49) := ⟨⟨by decide +kernel, by decide +kernel⟩, List.mem_of_getElem? (i := 1037) (by decide +kernel), List.mem_of_getElem? (i := 1354) (by decide +kernel), List.mem_of_getElem? (i := 1355) (by decide +kernel)⟩
theorem lw_p57 : lw_okq (⟨"LedgerTwiceModel", "whole", "()I"⟩, 49) := ⟨⟨by decide +kernel, by decide +kernel⟩, List.mem_of_getElem? (i := 1037) (by decide +kernel), List.mem_of_getElem? (i := 1358) (by decide +kernel), List.mem_of_getElem? (i := 1359) (by decide +kernel)⟩
theorem lw_p58 : lw_okq (⟨"LedgerTwiceModel", "number", "()J"⟩, 49) := ⟨⟨by decide +kernel, by decide +kernel⟩, List.mem_of_getElem? (i := 1037) (by decide +kernel), List.mem_of_getElem? (i := 1362) (by decide +kernel), List.mem_of_getElem? (i := 1363) (by decide +kernel)⟩
theorem lw_p59 : lw_okq (⟨"LedgerTwiceModel", "truth", "()Z"⟩, 49) := ⟨⟨by decide +kernel, by decide +kernel⟩, List.mem_of_getElem? (i := 1037) (by decide +kernel), List.mem_of_getElem? (i := 1368) (by decide +kernel), List.mem_of_getElem? (i := 1369) (by decide +kernel)⟩
theorem lw_p60 : lw_okq (⟨"LedgerTwiceModel", "isEnded", "()Z"⟩, 49) := ⟨⟨by decide +kernel, by decide +kernel⟩, List.mem_of_getElem? (i := 1037) (by decide +kernel), List.mem_of_getElem? (i := 1372) (by decide +kernel), List.mem_of_getElem? (i := 1373) (by decide +kernel)⟩
theorem lw_p61 : lw_okq (⟨"LedgerTwiceModel", "isPosted", "()Z"⟩, 49) := ⟨⟨by decide +kernel, by decide +kernel⟩, List.mem_of_getElem? (i := 1037) (by decide +kernel), List.mem_of_getElem? (i := 1380) (by decide +kernel), List.mem_of_getElem? (i := 1381) (by decide +kernel)⟩
theorem lw_p62 : lw_okq (⟨"LedgerTwiceModel", "balanceOf", "(I)J"⟩, 49) := ⟨⟨by decide +kernel, by decide +kernel⟩, List.mem_of_getElem? (i := 1037) (by decide +kernel), List.mem_of_getElem? (i := 1400) (by decide +kernel), List.mem_of_getElem? (i := 1401) (by decide +kernel)⟩
theorem lw_p63 : lw_okq (⟨"LedgerTwiceModel", "isUnder", "(II)Z"⟩, 49) := ⟨⟨by decide +kernel, by decide +kernel⟩, List.mem_of_getElem? (i := 1037) (by decide +kernel), List.mem_of_getElem? (i := 1404) (by decide +kernel), List.mem_of_getElem? (i := 1405) (by decide +kernel)⟩
def lw_privs_4 : List (MethodName × Nat) := [(⟨"LedgerTwiceModel", "periodAt", "(I)I"⟩, 49), (⟨"LedgerTwiceModel", "isOver", "()Z"⟩, 49), (⟨"LedgerTwiceModel", "enter", "(IIII)I"⟩, 49), (⟨"LedgerTwiceModel", "turned", "(I)V"⟩, 49), (⟨"LedgerTwiceModel", "nextCode", "(I)I"⟩, 49), (⟨"LedgerTwiceModel", "sumOf", "(III)J"⟩, 49), (⟨"LedgerTwiceModel", "shares", "(J)V"⟩, 49), (⟨"LedgerTwiceModel", "isNext", "()Z"⟩, 49), (⟨"LedgerTwiceModel", "isDone", "(I)Z"⟩, 49), (⟨"LedgerTwiceModel", "whole", "()I"⟩, 49), (⟨"LedgerTwiceModel", "number", "()J"⟩, 49), (⟨"LedgerTwiceModel", "truth", "()Z"⟩, 49), (⟨"LedgerTwiceModel", "isEnded", "()Z"⟩, 49), (⟨"LedgerTwiceModel", "isPosted", "()Z"⟩, 49), (⟨"LedgerTwiceModel", "balanceOf", "(I)J"⟩, 49), (⟨"LedgerTwiceModel", "isUnder", "(II)Z"⟩, 49)]
theorem lw_r4 : ∀ q ∈ lw_privs_4, lw_okq q := List.forall_mem_cons.mpr ⟨lw_p48, List.forall_mem_cons.mpr ⟨lw_p49, List.forall_mem_cons.mpr ⟨lw_p50, List.forall_mem_cons.mpr ⟨lw_p51, List.forall_mem_cons.mpr ⟨lw_p52, List.forall_mem_cons.mpr ⟨lw_p53, List.forall_mem_cons.mpr ⟨lw_p54, List.forall_mem_cons.mpr ⟨lw_p55, List.forall_mem_cons.mpr ⟨lw_p56, List.forall_mem_cons.mpr ⟨lw_p57, List.forall_mem_cons.mpr ⟨lw_p58, List.forall_mem_cons.mpr ⟨lw_p59, List.forall_mem_cons.mpr ⟨lw_p60, List.forall_mem_cons.mpr ⟨lw_p61, List.forall_mem_cons.mpr ⟨lw_p62, List.forall_mem_cons.mpr ⟨lw_p63, fun _ h => absurd h List.not_mem_nil⟩⟩⟩⟩⟩⟩⟩⟩⟩⟩⟩⟩⟩⟩⟩⟩
theorem lw_p64 : lw_okq (⟨"LedgerTwiceModel", "row", "(I)V"⟩, 49) := ⟨⟨by decide +kernel, by decide +kernel⟩, List.mem_of_getElem? (i := 1037) (by decide +kernel), List.mem_of_getElem? (i := 1432) (by decide +kernel), List.mem_of_getElem? (i := 1433) (by decide +kernel)⟩
theorem lw_p65 : lw_okq (⟨"LedgerTwiceModel", "put", "(I)V"⟩, 49) := ⟨⟨by decide +kernel, by decide +kernel⟩, List.mem_of_getElem? (i := 1037) (by decide +kernel), List.mem_of_getElem? (i := 1436) (by decide +kernel), List.mem_of_getElem? (i := 1437) (by decide +kernel)⟩
theorem lw_p66 : lw_okq (⟨"LedgerTwiceModel", "money", "(J)V"⟩, 49) := ⟨⟨by decide +kernel, by decide +kernel⟩, List.mem_of_getElem? (i := 1037) (by decide +kernel), List.mem_of_getElem? (i := 1440) (by decide +kernel), List.mem_of_getElem? (i := 1441) (by decide +kernel)⟩
theorem lw_p67 : lw_okq (⟨"LedgerTwiceModel", "tree", "()V"⟩, 49) := ⟨⟨by decide +kernel, by decide +kernel⟩, List.mem_of_getElem? (i := 1037) (by decide +kernel), List.mem_of_getElem? (i := 1445) (by decide +kernel), List.mem_of_getElem? (i := 1446) (by decide +kernel)⟩
theorem lw_p68 : lw_okq (⟨"LedgerTwiceModel", "total", "(II)V"⟩, 49) := ⟨⟨by decide +kernel, by decide +kernel⟩, List.mem_of_getElem? (i := 1037) (by decide +kernel), List.mem_of_getElem? (i := 1449) (by decide +kernel), List.mem_of_getElem? (i := 1450) (by decide +kernel)⟩
theorem lw_p69 : lw_okq (⟨"LedgerTwiceModel", "ofKind", "(I)J"⟩, 49) := ⟨⟨by decide +kernel, by decide +kernel⟩, List.mem_of_getElem? (i := 1037) (by decide +kernel), List.mem_of_getElem? (i := 1453) (by decide +kernel), List.mem_of_getElem? (i := 1454) (by decide +kernel)⟩
def lw_privs_5 : List (MethodName × Nat) := [(⟨"LedgerTwiceModel", "row", "(I)V"⟩, 49), (⟨"LedgerTwiceModel", "put", "(I)V"⟩, 49), (⟨"LedgerTwiceModel", "money", "(J)V"⟩, 49), (⟨"LedgerTwiceModel", "tree", "()V"⟩, 49), (⟨"LedgerTwiceModel", "total", "(II)V"⟩, 49), (⟨"LedgerTwiceModel", "ofKind", "(I)J"⟩, 49)]
theorem lw_r5 : ∀ q ∈ lw_privs_5, lw_okq q := List.forall_mem_cons.mpr ⟨lw_p64, List.forall_mem_cons.mpr ⟨lw_p65, List.forall_mem_cons.mpr ⟨lw_p66, List.forall_mem_cons.mpr ⟨lw_p67, List.forall_mem_cons.mpr ⟨lw_p68, List.forall_mem_cons.mpr ⟨lw_p69, fun _ h => absurd h List.not_mem_nil⟩⟩⟩⟩⟩⟩
def lw_privs : List (MethodName × Nat) := lw_privs_1 ++ (lw_privs_2 ++ (lw_privs_3 ++ (lw_privs_4 ++ (lw_privs_5))))
def lw_tbl : List Cond := k2_sels lw_privs ++ tables_1
theorem lw_privs_ok : ∀ q ∈ lw_privs, lw_okq q := by
  show ∀ q ∈ lw_privs_1 ++ (lw_privs_2 ++ (lw_privs_3 ++ (lw_privs_4 ++ (lw_privs_5)))), lw_okq q
  exact List.forall_mem_append.mpr ⟨lw_r1, List.forall_mem_append.mpr ⟨lw_r2, List.forall_mem_append.mpr ⟨lw_r3, List.forall_mem_append.mpr ⟨lw_r4, lw_r5⟩⟩⟩⟩

def RX0 : String := "LedgerTwice$Accounts"
def TX0 : u_T := fun k => match k with
  | 0 => ("LedgerTwice$Accounts", "codes", "LLedgerTwice$Ints;", true)
  | 1 => ("LedgerTwice$Accounts", "kinds", "LLedgerTwice$Ints;", true)
  | 2 => ("LedgerTwice$Accounts", "parents", "LLedgerTwice$Ints;", true)
  | 3 => ("LedgerTwice$Accounts", "depths", "LLedgerTwice$Ints;", true)
  | 4 => ("LedgerTwice$Accounts", "lineCounts", "LLedgerTwice$Ints;", true)
  | 5 => ("LedgerTwice$Accounts", "byCode", "LLedgerTwice$Ints;", true)
  | 6 => ("LedgerTwice$Accounts", "balances", "LLedgerTwice$Longs;", true)
  | 7 => ("LedgerTwice$Accounts", "groups", "LLedgerTwice$Ints;", true)
  | 8 => ("LedgerTwice$Accounts", "shuts", "LLedgerTwice$Ints;", true)
  | _ => ("LedgerTwice$Accounts", "size", "I", false)
def tyX0 : Nat → FieldType := fun k => match k with
  | 0 => .object "LedgerTwice$Ints"
  | 1 => .object "LedgerTwice$Ints"
  | 2 => .object "LedgerTwice$Ints"
  | 3 => .object "LedgerTwice$Ints"
  | 4 => .object "LedgerTwice$Ints"
  | 5 => .object "LedgerTwice$Ints"
  | 6 => .object "LedgerTwice$Longs"
  | 7 => .object "LedgerTwice$Ints"
  | 8 => .object "LedgerTwice$Ints"
  | _ => .int
theorem nmX0 : ∀ a, a < 10 → ∀ b, b < 10 → a ≠ b → (TX0 a).2.1 ≠ (TX0 b).2.1 := by decide +kernel
theorem tyX0_ok : ∀ k, k < 10 → parseFieldDescriptor (TX0 k).2.2.1 = some (tyX0 k) := by decide +kernel
abbrev cX0_init : ByteArray := prog_2_method_1_code
def yX0_init : MethodName := ⟨RX0, "<init>", "()V"⟩
abbrev cX0_clear : ByteArray := prog_2_method_2_code
def yX0_clear : MethodName := ⟨RX0, "clear", "()V"⟩
abbrev cX0_has : ByteArray := prog_2_method_3_code
def yX0_has : MethodName := ⟨RX0, "has", "(I)Z"⟩
abbrev cX0_isLeaf : ByteArray := prog_2_method_4_code
def yX0_isLeaf : MethodName := ⟨RX0, "isLeaf", "(I)Z"⟩
abbrev cX0_isShut : ByteArray := prog_2_method_5_code
def yX0_isShut : MethodName := ⟨RX0, "isShut", "(I)Z"⟩
abbrev cX0_setShut : ByteArray := prog_2_method_6_code
def yX0_setShut : MethodName := ⟨RX0, "setShut", "(IZ)V"⟩
abbrev cX0_takesChild : ByteArray := prog_2_method_7_code
def yX0_takesChild : MethodName := ⟨RX0, "takesChild", "(II)Z"⟩
abbrev cX0_hasCode : ByteArray := prog_2_method_8_code
def yX0_hasCode : MethodName := ⟨RX0, "hasCode", "(I)Z"⟩
abbrev cX0_add : ByteArray := prog_2_method_9_code
def yX0_add : MethodName := ⟨RX0, "add", "(IIIZ)I"⟩
abbrev cX0_putByCode : ByteArray := prog_2_method_10_code
def yX0_putByCode : MethodName := ⟨RX0, "putByCode", "(I)V"⟩
abbrev cX0_enterLine : ByteArray := prog_2_method_11_code
def yX0_enterLine : MethodName := ⟨RX0, "enterLine", "(IJ)V"⟩
abbrev cX0_totalUnder : ByteArray := prog_2_method_12_code
def yX0_totalUnder : MethodName := ⟨RX0, "totalUnder", "(ILLedgerTwice$Longs;)J"⟩
abbrev cX0_isUnder : ByteArray := prog_2_method_13_code
def yX0_isUnder : MethodName := ⟨RX0, "isUnder", "(II)Z"⟩
abbrev cX0_totalOfKind : ByteArray := prog_2_method_14_code
def yX0_totalOfKind : MethodName := ⟨RX0, "totalOfKind", "(I)J"⟩
abbrev cX0_told : ByteArray := prog_2_method_15_code
def yX0_told : MethodName := ⟨RX0, "told", "(II)I"⟩
def RX1 : String := "LedgerTwice$Books"
def TX1 : u_T := fun k => match k with
  | 0 => ("LedgerTwice$Books", "accounts", "LLedgerTwice$Accounts;", true)
  | 1 => ("LedgerTwice$Books", "periods", "LLedgerTwice$Periods;", true)
  | 2 => ("LedgerTwice$Books", "entries", "LLedgerTwice$Entries;", true)
  | 3 => ("LedgerTwice$Books", "owner", "I", false)
  | _ => ("LedgerTwice$Books", "tally", "LLedgerTwice$Longs;", true)
def tyX1 : Nat → FieldType := fun k => match k with
  | 0 => .object "LedgerTwice$Accounts"
  | 1 => .object "LedgerTwice$Periods"
  | 2 => .object "LedgerTwice$Entries"
  | 3 => .int
  | _ => .object "LedgerTwice$Longs"
theorem nmX1 : ∀ a, a < 5 → ∀ b, b < 5 → a ≠ b → (TX1 a).2.1 ≠ (TX1 b).2.1 := by decide +kernel
theorem tyX1_ok : ∀ k, k < 5 → parseFieldDescriptor (TX1 k).2.2.1 = some (tyX1 k) := by decide +kernel
abbrev cX1_init : ByteArray := prog_3_method_1_code
def yX1_init : MethodName := ⟨RX1, "<init>", "()V"⟩
abbrev cX1_clear : ByteArray := prog_3_method_2_code
def yX1_clear : MethodName := ⟨RX1, "clear", "()V"⟩
abbrev cX1_refusesAccount : ByteArray := prog_3_method_3_code
def yX1_refusesAccount : MethodName := ⟨RX1, "refusesAccount", "(III)I"⟩
abbrev cX1_refusesShut : ByteArray := prog_3_method_4_code
def yX1_refusesShut : MethodName := ⟨RX1, "refusesShut", "(IZ)I"⟩
abbrev cX1_refusesPeriod : ByteArray := prog_3_method_5_code
def yX1_refusesPeriod : MethodName := ⟨RX1, "refusesPeriod", "(I)I"⟩
abbrev cX1_refusesOwner : ByteArray := prog_3_method_6_code
def yX1_refusesOwner : MethodName := ⟨RX1, "refusesOwner", "(I)I"⟩
abbrev cX1_changeOwner : ByteArray := prog_3_method_7_code
def yX1_changeOwner : MethodName := ⟨RX1, "changeOwner", "(I)I"⟩
abbrev cX1_refusesLine : ByteArray := prog_3_method_8_code
def yX1_refusesLine : MethodName := ⟨RX1, "refusesLine", "(IJ)I"⟩
abbrev cX1_judge : ByteArray := prog_3_method_9_code
def yX1_judge : MethodName := ⟨RX1, "judge", "(LLedgerTwice$Lines;I)I"⟩
abbrev cX1_refusesUnjudged : ByteArray := prog_3_method_10_code
def yX1_refusesUnjudged : MethodName := ⟨RX1, "refusesUnjudged", "(LLedgerTwice$Lines;)I"⟩
abbrev cX1_hasShut : ByteArray := prog_3_method_11_code
def yX1_hasShut : MethodName := ⟨RX1, "hasShut", "(LLedgerTwice$Lines;)Z"⟩
abbrev cX1_goesOver : ByteArray := prog_3_method_12_code
def yX1_goesOver : MethodName := ⟨RX1, "goesOver", "(LLedgerTwice$Lines;)Z"⟩
abbrev cX1_enter : ByteArray := prog_3_method_13_code
def yX1_enter : MethodName := ⟨RX1, "enter", "(LLedgerTwice$Lines;IIII)I"⟩
abbrev cX1_refusesBack : ByteArray := prog_3_method_14_code
def yX1_refusesBack : MethodName := ⟨RX1, "refusesBack", "(IILLedgerTwice$Lines;)I"⟩
abbrev cX1_turnBack : ByteArray := prog_3_method_15_code
def yX1_turnBack : MethodName := ⟨RX1, "turnBack", "(IILLedgerTwice$Lines;)I"⟩
abbrev cX1_refusesClose : ByteArray := prog_3_method_16_code
def yX1_refusesClose : MethodName := ⟨RX1, "refusesClose", "(LLedgerTwice$Lines;)I"⟩
abbrev cX1_fillClosing : ByteArray := prog_3_method_17_code
def yX1_fillClosing : MethodName := ⟨RX1, "fillClosing", "(ILLedgerTwice$Lines;)V"⟩
abbrev cX1_isClosedOut : ByteArray := prog_3_method_18_code
def yX1_isClosedOut : MethodName := ⟨RX1, "isClosedOut", "(I)Z"⟩
abbrev cX1_closePeriod : ByteArray := prog_3_method_19_code
def yX1_closePeriod : MethodName := ⟨RX1, "closePeriod", "(LLedgerTwice$Lines;)I"⟩
abbrev cX1_refusesReopen : ByteArray := prog_3_method_20_code
def yX1_refusesReopen : MethodName := ⟨RX1, "refusesReopen", "(LLedgerTwice$Lines;)I"⟩
abbrev cX1_reopenPeriod : ByteArray := prog_3_method_21_code
def yX1_reopenPeriod : MethodName := ⟨RX1, "reopenPeriod", "(LLedgerTwice$Lines;)I"⟩
abbrev cX1_sumInDays : ByteArray := prog_3_method_22_code
def yX1_sumInDays : MethodName := ⟨RX1, "sumInDays", "(III)J"⟩
def RX2 : String := "LedgerTwice$Entries"
def TX2 : u_T := fun k => match k with
  | 0 => ("LedgerTwice$Entries", "days", "LLedgerTwice$Ints;", true)
  | 1 => ("LedgerTwice$Entries", "tags", "LLedgerTwice$Ints;", true)
  | 2 => ("LedgerTwice$Entries", "sorts", "LLedgerTwice$Ints;", true)
  | 3 => ("LedgerTwice$Entries", "lineCounts", "LLedgerTwice$Ints;", true)
  | 4 => ("LedgerTwice$Entries", "backs", "LLedgerTwice$Ints;", true)
  | 5 => ("LedgerTwice$Entries", "sources", "LLedgerTwice$Ints;", true)
  | 6 => ("LedgerTwice$Entries", "firstLines", "LLedgerTwice$Ints;", true)
  | 7 => ("LedgerTwice$Entries", "lineAccounts", "LLedgerTwice$Ints;", true)
  | 8 => ("LedgerTwice$Entries", "lineAmounts", "LLedgerTwice$Longs;", true)
  | 9 => ("LedgerTwice$Entries", "size", "I", false)
  | _ => ("LedgerTwice$Entries", "allLines", "I", false)
def tyX2 : Nat → FieldType := fun k => match k with
  | 0 => .object "LedgerTwice$Ints"
  | 1 => .object "LedgerTwice$Ints"
  | 2 => .object "LedgerTwice$Ints"
  | 3 => .object "LedgerTwice$Ints"
  | 4 => .object "LedgerTwice$Ints"
  | 5 => .object "LedgerTwice$Ints"
  | 6 => .object "LedgerTwice$Ints"
  | 7 => .object "LedgerTwice$Ints"
  | 8 => .object "LedgerTwice$Longs"
  | 9 => .int
  | _ => .int
theorem nmX2 : ∀ a, a < 11 → ∀ b, b < 11 → a ≠ b → (TX2 a).2.1 ≠ (TX2 b).2.1 := by decide +kernel
theorem tyX2_ok : ∀ k, k < 11 → parseFieldDescriptor (TX2 k).2.2.1 = some (tyX2 k) := by decide +kernel
abbrev cX2_init : ByteArray := prog_4_method_1_code
def yX2_init : MethodName := ⟨RX2, "<init>", "()V"⟩
abbrev cX2_clear : ByteArray := prog_4_method_2_code
def yX2_clear : MethodName := ⟨RX2, "clear", "()V"⟩
abbrev cX2_has : ByteArray := prog_4_method_3_code
def yX2_has : MethodName := ⟨RX2, "has", "(I)Z"⟩
abbrev cX2_add : ByteArray := prog_4_method_4_code
def yX2_add : MethodName := ⟨RX2, "add", "(LLedgerTwice$Lines;IIII)I"⟩
abbrev cX2_accountOf : ByteArray := prog_4_method_5_code
def yX2_accountOf : MethodName := ⟨RX2, "accountOf", "(II)I"⟩
abbrev cX2_amountOf : ByteArray := prog_4_method_6_code
def yX2_amountOf : MethodName := ⟨RX2, "amountOf", "(II)J"⟩
abbrev cX2_turn : ByteArray := prog_4_method_7_code
def yX2_turn : MethodName := ⟨RX2, "turn", "(ILLedgerTwice$Lines;)V"⟩
abbrev cX2_gather : ByteArray := prog_4_method_8_code
def yX2_gather : MethodName := ⟨RX2, "gather", "(IILLedgerTwice$Longs;)V"⟩
abbrev cX2_ledgerLine : ByteArray := prog_4_method_9_code
def yX2_ledgerLine : MethodName := ⟨RX2, "ledgerLine", "(III)J"⟩
abbrev cX2_toldOfLedger : ByteArray := prog_4_method_10_code
def yX2_toldOfLedger : MethodName := ⟨RX2, "toldOfLedger", "(IJJI)J"⟩
abbrev cX2_told : ByteArray := prog_4_method_11_code
def yX2_told : MethodName := ⟨RX2, "told", "(II)I"⟩
def RX3 : String := "LedgerTwice$Ints"
def TX3 : u_T := fun k => match k with
  | 0 => ("LedgerTwice$Ints", "limit", "I", true)
  | _ => ("LedgerTwice$Ints", "cells", "[I", false)
def tyX3 : Nat → FieldType := fun k => match k with
  | 0 => .int
  | _ => .array .int
theorem nmX3 : ∀ a, a < 2 → ∀ b, b < 2 → a ≠ b → (TX3 a).2.1 ≠ (TX3 b).2.1 := by decide +kernel
theorem tyX3_ok : ∀ k, k < 2 → parseFieldDescriptor (TX3 k).2.2.1 = some (tyX3 k) := by decide +kernel
abbrev cX3_init : ByteArray := prog_5_method_1_code
def yX3_init : MethodName := ⟨RX3, "<init>", "(I)V"⟩
abbrev cX3_at : ByteArray := prog_5_method_2_code
def yX3_at : MethodName := ⟨RX3, "at", "(I)I"⟩
abbrev cX3_put : ByteArray := prog_5_method_3_code
def yX3_put : MethodName := ⟨RX3, "put", "(II)V"⟩
def RX4 : String := "LedgerTwice$Journal"
def TX4 : u_T := fun k => match k with
  | 0 => ("LedgerTwice$Journal", "bytes", "LLedgerTwice$Ints;", true)
  | 1 => ("LedgerTwice$Journal", "body", "LLedgerTwice$Ints;", true)
  | 2 => ("LedgerTwice$Journal", "bodySize", "I", false)
  | 3 => ("LedgerTwice$Journal", "sort", "I", false)
  | 4 => ("LedgerTwice$Journal", "size", "I", false)
  | 5 => ("LedgerTwice$Journal", "durable", "I", false)
  | _ => ("LedgerTwice$Journal", "records", "I", false)
def tyX4 : Nat → FieldType := fun k => match k with
  | 0 => .object "LedgerTwice$Ints"
  | 1 => .object "LedgerTwice$Ints"
  | 2 => .int
  | 3 => .int
  | 4 => .int
  | 5 => .int
  | _ => .int
theorem nmX4 : ∀ a, a < 7 → ∀ b, b < 7 → a ≠ b → (TX4 a).2.1 ≠ (TX4 b).2.1 := by decide +kernel
theorem tyX4_ok : ∀ k, k < 7 → parseFieldDescriptor (TX4 k).2.2.1 = some (tyX4 k) := by decide +kernel
abbrev cX4_init : ByteArray := prog_6_method_1_code
def yX4_init : MethodName := ⟨RX4, "<init>", "()V"⟩
abbrev cX4_begin : ByteArray := prog_6_method_2_code
def yX4_begin : MethodName := ⟨RX4, "begin", "(I)V"⟩
abbrev cX4_number : ByteArray := prog_6_method_3_code
def yX4_number : MethodName := ⟨RX4, "number", "(J)V"⟩
abbrev cX4_write : ByteArray := prog_6_method_4_code
def yX4_write : MethodName := ⟨RX4, "write", "()Z"⟩
abbrev cX4_put : ByteArray := prog_6_method_5_code
def yX4_put : MethodName := ⟨RX4, "put", "(I)V"⟩
abbrev cX4_checkOf : ByteArray := prog_6_method_6_code
def yX4_checkOf : MethodName := ⟨RX4, "checkOf", "(II)I"⟩
abbrev cX4_recordAt : ByteArray := prog_6_method_7_code
def yX4_recordAt : MethodName := ⟨RX4, "recordAt", "(I)I"⟩
abbrev cX4_makeDurable : ByteArray := prog_6_method_8_code
def yX4_makeDurable : MethodName := ⟨RX4, "makeDurable", "()I"⟩
abbrev cX4_tear : ByteArray := prog_6_method_9_code
def yX4_tear : MethodName := ⟨RX4, "tear", "(II)V"⟩
abbrev cX4_cut : ByteArray := prog_6_method_10_code
def yX4_cut : MethodName := ⟨RX4, "cut", "(II)V"⟩
def RX5 : String := "LedgerTwice$Lines"
def TX5 : u_T := fun k => match k with
  | 0 => ("LedgerTwice$Lines", "accounts", "LLedgerTwice$Ints;", true)
  | 1 => ("LedgerTwice$Lines", "amounts", "LLedgerTwice$Longs;", true)
  | _ => ("LedgerTwice$Lines", "size", "I", false)
def tyX5 : Nat → FieldType := fun k => match k with
  | 0 => .object "LedgerTwice$Ints"
  | 1 => .object "LedgerTwice$Longs"
  | _ => .int
theorem nmX5 : ∀ a, a < 3 → ∀ b, b < 3 → a ≠ b → (TX5 a).2.1 ≠ (TX5 b).2.1 := by decide +kernel
theorem tyX5_ok : ∀ k, k < 3 → parseFieldDescriptor (TX5 k).2.2.1 = some (tyX5 k) := by decide +kernel
abbrev cX5_init : ByteArray := prog_7_method_1_code
def yX5_init : MethodName := ⟨RX5, "<init>", "(I)V"⟩
abbrev cX5_clear : ByteArray := prog_7_method_2_code
def yX5_clear : MethodName := ⟨RX5, "clear", "()V"⟩
abbrev cX5_add : ByteArray := prog_7_method_3_code
def yX5_add : MethodName := ⟨RX5, "add", "(IJ)V"⟩
abbrev cX5_total : ByteArray := prog_7_method_4_code
def yX5_total : MethodName := ⟨RX5, "total", "()J"⟩
def RX6 : String := "LedgerTwice$Longs"
def TX6 : u_T := fun k => match k with
  | 0 => ("LedgerTwice$Longs", "limit", "I", true)
  | _ => ("LedgerTwice$Longs", "cells", "[J", false)
def tyX6 : Nat → FieldType := fun k => match k with
  | 0 => .int
  | _ => .array .long
theorem nmX6 : ∀ a, a < 2 → ∀ b, b < 2 → a ≠ b → (TX6 a).2.1 ≠ (TX6 b).2.1 := by decide +kernel
theorem tyX6_ok : ∀ k, k < 2 → parseFieldDescriptor (TX6 k).2.2.1 = some (tyX6 k) := by decide +kernel
abbrev cX6_init : ByteArray := prog_8_method_1_code
def yX6_init : MethodName := ⟨RX6, "<init>", "(I)V"⟩
abbrev cX6_at : ByteArray := prog_8_method_2_code
def yX6_at : MethodName := ⟨RX6, "at", "(I)J"⟩
abbrev cX6_put : ByteArray := prog_8_method_3_code
def yX6_put : MethodName := ⟨RX6, "put", "(IJ)V"⟩
abbrev cX6_addTo : ByteArray := prog_8_method_4_code
def yX6_addTo : MethodName := ⟨RX6, "addTo", "(IJ)V"⟩
abbrev cX6_clear : ByteArray := prog_8_method_5_code
def yX6_clear : MethodName := ⟨RX6, "clear", "()V"⟩
def RX7 : String := "LedgerTwice$Periods"
def TX7 : u_T := fun k => match k with
  | 0 => ("LedgerTwice$Periods", "lastDays", "LLedgerTwice$Ints;", true)
  | 1 => ("LedgerTwice$Periods", "closings", "LLedgerTwice$Ints;", true)
  | 2 => ("LedgerTwice$Periods", "size", "I", false)
  | _ => ("LedgerTwice$Periods", "closed", "I", false)
def tyX7 : Nat → FieldType := fun k => match k with
  | 0 => .object "LedgerTwice$Ints"
  | 1 => .object "LedgerTwice$Ints"
  | 2 => .int
  | _ => .int
theorem nmX7 : ∀ a, a < 4 → ∀ b, b < 4 → a ≠ b → (TX7 a).2.1 ≠ (TX7 b).2.1 := by decide +kernel
theorem tyX7_ok : ∀ k, k < 4 → parseFieldDescriptor (TX7 k).2.2.1 = some (tyX7 k) := by decide +kernel
abbrev cX7_init : ByteArray := prog_9_method_1_code
def yX7_init : MethodName := ⟨RX7, "<init>", "()V"⟩
abbrev cX7_clear : ByteArray := prog_9_method_2_code
def yX7_clear : MethodName := ⟨RX7, "clear", "()V"⟩
abbrev cX7_has : ByteArray := prog_9_method_3_code
def yX7_has : MethodName := ⟨RX7, "has", "(I)Z"⟩
abbrev cX7_add : ByteArray := prog_9_method_4_code
def yX7_add : MethodName := ⟨RX7, "add", "(I)I"⟩
abbrev cX7_firstDay : ByteArray := prog_9_method_5_code
def yX7_firstDay : MethodName := ⟨RX7, "firstDay", "(I)I"⟩
abbrev cX7_lastDay : ByteArray := prog_9_method_6_code
def yX7_lastDay : MethodName := ⟨RX7, "lastDay", "(I)I"⟩
abbrev cX7_firstFreeDay : ByteArray := prog_9_method_7_code
def yX7_firstFreeDay : MethodName := ⟨RX7, "firstFreeDay", "()I"⟩
abbrev cX7_withDay : ByteArray := prog_9_method_8_code
def yX7_withDay : MethodName := ⟨RX7, "withDay", "(I)I"⟩
abbrev cX7_closingOf : ByteArray := prog_9_method_9_code
def yX7_closingOf : MethodName := ⟨RX7, "closingOf", "(I)I"⟩
abbrev cX7_closeFirstOpen : ByteArray := prog_9_method_10_code
def yX7_closeFirstOpen : MethodName := ⟨RX7, "closeFirstOpen", "(I)V"⟩
abbrev cX7_openLastClosed : ByteArray := prog_9_method_11_code
def yX7_openLastClosed : MethodName := ⟨RX7, "openLastClosed", "()V"⟩
abbrev cX7_told : ByteArray := prog_9_method_12_code
def yX7_told : MethodName := ⟨RX7, "told", "(II)I"⟩
def RX8 : String := "LedgerTwice$Recovery"
def TX8 : u_T := fun k => match k with
  | 0 => ("LedgerTwice$Recovery", "journal", "LLedgerTwice$Journal;", true)
  | 1 => ("LedgerTwice$Recovery", "books", "LLedgerTwice$Books;", true)
  | 2 => ("LedgerTwice$Recovery", "lines", "LLedgerTwice$Lines;", true)
  | 3 => ("LedgerTwice$Recovery", "at", "I", false)
  | 4 => ("LedgerTwice$Recovery", "end", "I", false)
  | _ => ("LedgerTwice$Recovery", "faulty", "Z", false)
def tyX8 : Nat → FieldType := fun k => match k with
  | 0 => .object "LedgerTwice$Journal"
  | 1 => .object "LedgerTwice$Books"
  | 2 => .object "LedgerTwice$Lines"
  | 3 => .int
  | 4 => .int
  | _ => .boolean
theorem nmX8 : ∀ a, a < 6 → ∀ b, b < 6 → a ≠ b → (TX8 a).2.1 ≠ (TX8 b).2.1 := by decide +kernel
theorem tyX8_ok : ∀ k, k < 6 → parseFieldDescriptor (TX8 k).2.2.1 = some (tyX8 k) := by decide +kernel
abbrev cX8_init : ByteArray := prog_10_method_1_code
def yX8_init : MethodName := ⟨RX8, "<init>", "(LLedgerTwice$Journal;LLedgerTwice$Books;)V"⟩
abbrev cX8_redoAll : ByteArray := prog_10_method_2_code
def yX8_redoAll : MethodName := ⟨RX8, "redoAll", "()V"⟩
abbrev cX8_redo : ByteArray := prog_10_method_3_code
def yX8_redo : MethodName := ⟨RX8, "redo", "(II)Z"⟩
abbrev cX8_redoAccount : ByteArray := prog_10_method_4_code
def yX8_redoAccount : MethodName := ⟨RX8, "redoAccount", "()Z"⟩
abbrev cX8_redoShut : ByteArray := prog_10_method_5_code
def yX8_redoShut : MethodName := ⟨RX8, "redoShut", "()Z"⟩
abbrev cX8_redoPeriod : ByteArray := prog_10_method_6_code
def yX8_redoPeriod : MethodName := ⟨RX8, "redoPeriod", "()Z"⟩
abbrev cX8_redoOwner : ByteArray := prog_10_method_7_code
def yX8_redoOwner : MethodName := ⟨RX8, "redoOwner", "()Z"⟩
abbrev cX8_redoPost : ByteArray := prog_10_method_8_code
def yX8_redoPost : MethodName := ⟨RX8, "redoPost", "()Z"⟩
abbrev cX8_readLines : ByteArray := prog_10_method_9_code
def yX8_readLines : MethodName := ⟨RX8, "readLines", "()Z"⟩
abbrev cX8_redoBack : ByteArray := prog_10_method_10_code
def yX8_redoBack : MethodName := ⟨RX8, "redoBack", "()Z"⟩
abbrev cX8_redoClose : ByteArray := prog_10_method_11_code
def yX8_redoClose : MethodName := ⟨RX8, "redoClose", "()Z"⟩
abbrev cX8_redoReopen : ByteArray := prog_10_method_12_code
def yX8_redoReopen : MethodName := ⟨RX8, "redoReopen", "()Z"⟩
abbrev cX8_isReadWhole : ByteArray := prog_10_method_13_code
def yX8_isReadWhole : MethodName := ⟨RX8, "isReadWhole", "()Z"⟩
abbrev cX8_nextFlag : ByteArray := prog_10_method_14_code
def yX8_nextFlag : MethodName := ⟨RX8, "nextFlag", "()Z"⟩
abbrev cX8_nextInt : ByteArray := prog_10_method_15_code
def yX8_nextInt : MethodName := ⟨RX8, "nextInt", "()I"⟩
abbrev cX8_nextNumber : ByteArray := prog_10_method_16_code
def yX8_nextNumber : MethodName := ⟨RX8, "nextNumber", "()J"⟩
def RX9 : String := "LedgerTwice$Shares"
def TX9 : u_T := fun k => match k with
  | 0 => ("LedgerTwice$Shares", "parts", "LLedgerTwice$Longs;", true)
  | 1 => ("LedgerTwice$Shares", "weights", "LLedgerTwice$Ints;", true)
  | 2 => ("LedgerTwice$Shares", "remainders", "LLedgerTwice$Longs;", true)
  | _ => ("LedgerTwice$Shares", "size", "I", false)
def tyX9 : Nat → FieldType := fun k => match k with
  | 0 => .object "LedgerTwice$Longs"
  | 1 => .object "LedgerTwice$Ints"
  | 2 => .object "LedgerTwice$Longs"
  | _ => .int
theorem nmX9 : ∀ a, a < 4 → ∀ b, b < 4 → a ≠ b → (TX9 a).2.1 ≠ (TX9 b).2.1 := by decide +kernel
theorem tyX9_ok : ∀ k, k < 4 → parseFieldDescriptor (TX9 k).2.2.1 = some (tyX9 k) := by decide +kernel
abbrev cX9_init : ByteArray := prog_11_method_1_code
def yX9_init : MethodName := ⟨RX9, "<init>", "()V"⟩
abbrev cX9_clear : ByteArray := prog_11_method_2_code
def yX9_clear : MethodName := ⟨RX9, "clear", "()V"⟩
abbrev cX9_add : ByteArray := prog_11_method_3_code
def yX9_add : MethodName := ⟨RX9, "add", "(I)V"⟩
abbrev cX9_divide : ByteArray := prog_11_method_4_code
def yX9_divide : MethodName := ⟨RX9, "divide", "(J)Z"⟩
abbrev cX9_giveRest : ByteArray := prog_11_method_5_code
def yX9_giveRest : MethodName := ⟨RX9, "giveRest", "(J)V"⟩
abbrev cX9_withGreatestRemainder : ByteArray := prog_11_method_6_code
def yX9_withGreatestRemainder : MethodName := ⟨RX9, "withGreatestRemainder", "()I"⟩
def RX10 : String := "LedgerTwice$Sheet"
def TX10 : u_T := fun k => match k with
  | 0 => ("LedgerTwice$Sheet", "bytes", "LLedgerTwice$Ints;", true)
  | 1 => ("LedgerTwice$Sheet", "accounts", "LLedgerTwice$Accounts;", true)
  | 2 => ("LedgerTwice$Sheet", "figures", "LLedgerTwice$Ints;", true)
  | _ => ("LedgerTwice$Sheet", "size", "I", false)
def tyX10 : Nat → FieldType := fun k => match k with
  | 0 => .object "LedgerTwice$Ints"
  | 1 => .object "LedgerTwice$Accounts"
  | 2 => .object "LedgerTwice$Ints"
  | _ => .int
theorem nmX10 : ∀ a, a < 4 → ∀ b, b < 4 → a ≠ b → (TX10 a).2.1 ≠ (TX10 b).2.1 := by decide +kernel
theorem tyX10_ok : ∀ k, k < 4 → parseFieldDescriptor (TX10 k).2.2.1 = some (tyX10 k) := by decide +kernel
abbrev cX10_init : ByteArray := prog_12_method_1_code
def yX10_init : MethodName := ⟨RX10, "<init>", "(LLedgerTwice$Accounts;)V"⟩
abbrev cX10_clear : ByteArray := prog_12_method_2_code
def yX10_clear : MethodName := ⟨RX10, "clear", "()V"⟩
abbrev cX10_write : ByteArray := prog_12_method_3_code
def yX10_write : MethodName := ⟨RX10, "write", "(I)Z"⟩
abbrev cX10_writeLeaves : ByteArray := prog_12_method_4_code
def yX10_writeLeaves : MethodName := ⟨RX10, "writeLeaves", "()V"⟩
abbrev cX10_writeUnder : ByteArray := prog_12_method_5_code
def yX10_writeUnder : MethodName := ⟨RX10, "writeUnder", "(III)V"⟩
abbrev cX10_writeKinds : ByteArray := prog_12_method_6_code
def yX10_writeKinds : MethodName := ⟨RX10, "writeKinds", "()V"⟩
abbrev cX10_writeTotal : ByteArray := prog_12_method_7_code
def yX10_writeTotal : MethodName := ⟨RX10, "writeTotal", "(CJ)V"⟩
abbrev cX10_writeRow : ByteArray := prog_12_method_8_code
def yX10_writeRow : MethodName := ⟨RX10, "writeRow", "(I)V"⟩
abbrev cX10_putMoney : ByteArray := prog_12_method_9_code
def yX10_putMoney : MethodName := ⟨RX10, "putMoney", "(J)V"⟩
abbrev cX10_put : ByteArray := prog_12_method_10_code
def yX10_put : MethodName := ⟨RX10, "put", "(I)V"⟩
def RX11 : String := "LedgerTwice"
def TX11 : u_T := fun k => match k with
  | 0 => ("LedgerTwice", "books", "LLedgerTwice$Books;", true)
  | 1 => ("LedgerTwice", "journal", "LLedgerTwice$Journal;", true)
  | 2 => ("LedgerTwice", "recovery", "LLedgerTwice$Recovery;", true)
  | 3 => ("LedgerTwice", "draft", "LLedgerTwice$Lines;", true)
  | 4 => ("LedgerTwice", "work", "LLedgerTwice$Lines;", true)
  | 5 => ("LedgerTwice", "shares", "LLedgerTwice$Shares;", true)
  | 6 => ("LedgerTwice", "paper", "LLedgerTwice$Sheet;", true)
  | _ => ("LedgerTwice", "up", "Z", false)
def tyX11 : Nat → FieldType := fun k => match k with
  | 0 => .object "LedgerTwice$Books"
  | 1 => .object "LedgerTwice$Journal"
  | 2 => .object "LedgerTwice$Recovery"
  | 3 => .object "LedgerTwice$Lines"
  | 4 => .object "LedgerTwice$Lines"
  | 5 => .object "LedgerTwice$Shares"
  | 6 => .object "LedgerTwice$Sheet"
  | _ => .boolean
theorem nmX11 : ∀ a, a < 8 → ∀ b, b < 8 → a ≠ b → (TX11 a).2.1 ≠ (TX11 b).2.1 := by decide +kernel
theorem tyX11_ok : ∀ k, k < 8 → parseFieldDescriptor (TX11 k).2.2.1 = some (tyX11 k) := by decide +kernel
abbrev cX11_init : ByteArray := prog_1_method_1_code
def yX11_init : MethodName := ⟨RX11, "<init>", "()V"⟩
abbrev cX11_account : ByteArray := prog_1_method_2_code
def yX11_account : MethodName := ⟨RX11, "account", "(IIIZ)I"⟩
abbrev cX11_shut : ByteArray := prog_1_method_3_code
def yX11_shut : MethodName := ⟨RX11, "shut", "(IZ)I"⟩
abbrev cX11_period : ByteArray := prog_1_method_4_code
def yX11_period : MethodName := ⟨RX11, "period", "(I)I"⟩
abbrev cX11_owner : ByteArray := prog_1_method_5_code
def yX11_owner : MethodName := ⟨RX11, "owner", "(I)I"⟩
abbrev cX11_line : ByteArray := prog_1_method_6_code
def yX11_line : MethodName := ⟨RX11, "line", "(IJ)I"⟩
abbrev cX11_drop : ByteArray := prog_1_method_7_code
def yX11_drop : MethodName := ⟨RX11, "drop", "()I"⟩
abbrev cX11_post : ByteArray := prog_1_method_8_code
def yX11_post : MethodName := ⟨RX11, "post", "(II)I"⟩
abbrev cX11_back : ByteArray := prog_1_method_9_code
def yX11_back : MethodName := ⟨RX11, "back", "(II)I"⟩
abbrev cX11_close : ByteArray := prog_1_method_10_code
def yX11_close : MethodName := ⟨RX11, "close", "()I"⟩
abbrev cX11_reopen : ByteArray := prog_1_method_11_code
def yX11_reopen : MethodName := ⟨RX11, "reopen", "()I"⟩
abbrev cX11_share : ByteArray := prog_1_method_12_code
def yX11_share : MethodName := ⟨RX11, "share", "(IJII)I"⟩
abbrev cX11_sync : ByteArray := prog_1_method_13_code
def yX11_sync : MethodName := ⟨RX11, "sync", "()I"⟩
abbrev cX11_crash : ByteArray := prog_1_method_14_code
def yX11_crash : MethodName := ⟨RX11, "crash", "(II)I"⟩
abbrev cX11_recover : ByteArray := prog_1_method_15_code
def yX11_recover : MethodName := ⟨RX11, "recover", "()I"⟩
abbrev cX11_byteAt : ByteArray := prog_1_method_16_code
def yX11_byteAt : MethodName := ⟨RX11, "byteAt", "(I)I"⟩
abbrev cX11_of : ByteArray := prog_1_method_17_code
def yX11_of : MethodName := ⟨RX11, "of", "(II)I"⟩
abbrev cX11_balance : ByteArray := prog_1_method_18_code
def yX11_balance : MethodName := ⟨RX11, "balance", "(I)J"⟩
abbrev cX11_sum : ByteArray := prog_1_method_19_code
def yX11_sum : MethodName := ⟨RX11, "sum", "(III)J"⟩
abbrev cX11_entry : ByteArray := prog_1_method_20_code
def yX11_entry : MethodName := ⟨RX11, "entry", "(II)I"⟩
abbrev cX11_lineOf : ByteArray := prog_1_method_21_code
def yX11_lineOf : MethodName := ⟨RX11, "lineOf", "(III)J"⟩
abbrev cX11_ledger : ByteArray := prog_1_method_22_code
def yX11_ledger : MethodName := ⟨RX11, "ledger", "(III)J"⟩
abbrev cX11_periodOf : ByteArray := prog_1_method_23_code
def yX11_periodOf : MethodName := ⟨RX11, "periodOf", "(II)I"⟩
abbrev cX11_sheet : ByteArray := prog_1_method_24_code
def yX11_sheet : MethodName := ⟨RX11, "sheet", "(I)I"⟩
abbrev cX11_shown : ByteArray := prog_1_method_25_code
def yX11_shown : MethodName := ⟨RX11, "shown", "(I)I"⟩
abbrev cX11_part : ByteArray := prog_1_method_26_code
def yX11_part : MethodName := ⟨RX11, "part", "(JIIIII)J"⟩
abbrev cX11_count : ByteArray := prog_1_method_27_code
def yX11_count : MethodName := ⟨RX11, "count", "(I)I"⟩
abbrev cX11_countOfBooks : ByteArray := prog_1_method_28_code
def yX11_countOfBooks : MethodName := ⟨RX11, "countOfBooks", "(I)I"⟩
abbrev cX11_writePlain : ByteArray := prog_1_method_29_code
def yX11_writePlain : MethodName := ⟨RX11, "writePlain", "(LLedgerTwice$Lines;II)I"⟩
abbrev cX11_refusesShare : ByteArray := prog_1_method_30_code
def yX11_refusesShare : MethodName := ⟨RX11, "refusesShare", "(IJ)I"⟩
abbrev cX11_shareOut : ByteArray := prog_1_method_31_code
def yX11_shareOut : MethodName := ⟨RX11, "shareOut", "(IJ)V"⟩
abbrev cX11_areWeights : ByteArray := prog_1_method_32_code
def yX11_areWeights : MethodName := ⟨RX11, "areWeights", "(LLedgerTwice$Lines;)Z"⟩
abbrev cX11_isPartWeight : ByteArray := prog_1_method_33_code
def yX11_isPartWeight : MethodName := ⟨RX11, "isPartWeight", "(I)Z"⟩
abbrev cX11_isAmount : ByteArray := prog_1_method_34_code
def yX11_isAmount : MethodName := ⟨RX11, "isAmount", "(J)Z"⟩
abbrev cX11_isWithin : ByteArray := prog_1_method_35_code
def yX11_isWithin : MethodName := ⟨RX11, "isWithin", "(JJ)Z"⟩
def RX12 : String := "LedgerTwiceModel"
def TX12 : u_T := fun k => match k with
  | 0 => ("LedgerTwiceModel", "isUp", "Z", false)
  | 1 => ("LedgerTwiceModel", "isReplay", "Z", false)
  | 2 => ("LedgerTwiceModel", "accounts", "I", false)
  | 3 => ("LedgerTwiceModel", "code", "[I", true)
  | 4 => ("LedgerTwiceModel", "kind", "[I", true)
  | 5 => ("LedgerTwiceModel", "parent", "[I", true)
  | 6 => ("LedgerTwiceModel", "isGroup", "[Z", true)
  | 7 => ("LedgerTwiceModel", "depth", "[I", true)
  | 8 => ("LedgerTwiceModel", "isShut", "[Z", true)
  | 9 => ("LedgerTwiceModel", "balance", "[J", true)
  | 10 => ("LedgerTwiceModel", "owner", "I", false)
  | 11 => ("LedgerTwiceModel", "periods", "I", false)
  | 12 => ("LedgerTwiceModel", "closed", "I", false)
  | 13 => ("LedgerTwiceModel", "lastDay", "[I", true)
  | 14 => ("LedgerTwiceModel", "closing", "[I", true)
  | 15 => ("LedgerTwiceModel", "entries", "I", false)
  | 16 => ("LedgerTwiceModel", "day", "[I", true)
  | 17 => ("LedgerTwiceModel", "tag", "[I", true)
  | 18 => ("LedgerTwiceModel", "sort", "[I", true)
  | 19 => ("LedgerTwiceModel", "from", "[I", true)
  | 20 => ("LedgerTwiceModel", "backBy", "[I", true)
  | 21 => ("LedgerTwiceModel", "ofWhat", "[I", true)
  | 22 => ("LedgerTwiceModel", "lineAccount", "[I", true)
  | 23 => ("LedgerTwiceModel", "lineAmount", "[J", true)
  | 24 => ("LedgerTwiceModel", "drafted", "I", false)
  | 25 => ("LedgerTwiceModel", "draftAccount", "[I", true)
  | 26 => ("LedgerTwiceModel", "draftAmount", "[J", true)
  | 27 => ("LedgerTwiceModel", "lines", "I", false)
  | 28 => ("LedgerTwiceModel", "handAccount", "[I", true)
  | 29 => ("LedgerTwiceModel", "handAmount", "[J", true)
  | 30 => ("LedgerTwiceModel", "size", "I", false)
  | 31 => ("LedgerTwiceModel", "durable", "I", false)
  | 32 => ("LedgerTwiceModel", "records", "I", false)
  | 33 => ("LedgerTwiceModel", "journal", "[I", true)
  | 34 => ("LedgerTwiceModel", "bodySize", "I", false)
  | 35 => ("LedgerTwiceModel", "body", "[I", true)
  | 36 => ("LedgerTwiceModel", "shown", "I", false)
  | 37 => ("LedgerTwiceModel", "sheet", "[I", true)
  | 38 => ("LedgerTwiceModel", "figures", "[I", true)
  | 39 => ("LedgerTwiceModel", "under", "[I", true)
  | 40 => ("LedgerTwiceModel", "lastKey", "[I", true)
  | 41 => ("LedgerTwiceModel", "weights", "I", false)
  | 42 => ("LedgerTwiceModel", "weight", "[J", true)
  | 43 => ("LedgerTwiceModel", "part", "[J", true)
  | 44 => ("LedgerTwiceModel", "rest", "[J", true)
  | 45 => ("LedgerTwiceModel", "hasOne", "[Z", true)
  | 46 => ("LedgerTwiceModel", "at", "I", false)
  | 47 => ("LedgerTwiceModel", "end", "I", false)
  | _ => ("LedgerTwiceModel", "isWrong", "Z", false)
def tyX12 : Nat → FieldType := fun k => match k with
  | 0 => .boolean
  | 1 => .boolean
  | 2 => .int
  | 3 => .array .int
  | 4 => .array .int
  | 5 => .array .int
  | 6 => .array .boolean
  | 7 => .array .int
  | 8 => .array .boolean
  | 9 => .array .long
  | 10 => .int
  | 11 => .int
  | 12 => .int
  | 13 => .array .int
  | 14 => .array .int
  | 15 => .int
  | 16 => .array .int
  | 17 => .array .int
  | 18 => .array .int
  | 19 => .array .int
  | 20 => .array .int
  | 21 => .array .int
  | 22 => .array .int
  | 23 => .array .long
  | 24 => .int
  | 25 => .array .int
  | 26 => .array .long
  | 27 => .int
  | 28 => .array .int
  | 29 => .array .long
  | 30 => .int
  | 31 => .int
  | 32 => .int
  | 33 => .array .int
  | 34 => .int
  | 35 => .array .int
  | 36 => .int
  | 37 => .array .int
  | 38 => .array .int
  | 39 => .array .int
  | 40 => .array .int
  | 41 => .int
  | 42 => .array .long
  | 43 => .array .long
  | 44 => .array .long
  | 45 => .array .boolean
  | 46 => .int
  | 47 => .int
  | _ => .boolean
theorem nmX12 : ∀ a, a < 49 → ∀ b, b < 49 → a ≠ b → (TX12 a).2.1 ≠ (TX12 b).2.1 := by decide +kernel
theorem tyX12_ok : ∀ k, k < 49 → parseFieldDescriptor (TX12 k).2.2.1 = some (tyX12 k) := by decide +kernel
abbrev cX12_init : ByteArray := prog_14_method_1_code
def yX12_init : MethodName := ⟨RX12, "<init>", "()V"⟩
abbrev cX12_in : ByteArray := prog_14_method_2_code
def yX12_in : MethodName := ⟨RX12, "in", "(JJJ)Z"⟩
abbrev cX12_isAccount : ByteArray := prog_14_method_3_code
def yX12_isAccount : MethodName := ⟨RX12, "isAccount", "(I)Z"⟩
abbrev cX12_begin : ByteArray := prog_14_method_4_code
def yX12_begin : MethodName := ⟨RX12, "begin", "()V"⟩
abbrev cX12_say : ByteArray := prog_14_method_5_code
def yX12_say : MethodName := ⟨RX12, "say", "(J)V"⟩
abbrev cX12_hasRoom : ByteArray := prog_14_method_6_code
def yX12_hasRoom : MethodName := ⟨RX12, "hasRoom", "()Z"⟩
abbrev cX12_checked : ByteArray := prog_14_method_7_code
def yX12_checked : MethodName := ⟨RX12, "checked", "(II)I"⟩
abbrev cX12_append : ByteArray := prog_14_method_8_code
def yX12_append : MethodName := ⟨RX12, "append", "(I)V"⟩
abbrev cX12_write : ByteArray := prog_14_method_9_code
def yX12_write : MethodName := ⟨RX12, "write", "(I)V"⟩
abbrev cX12_isTold : ByteArray := prog_14_method_10_code
def yX12_isTold : MethodName := ⟨RX12, "isTold", "(I)Z"⟩
abbrev cX12_account : ByteArray := prog_14_method_11_code
def yX12_account : MethodName := ⟨RX12, "account", "(IIIZ)I"⟩
abbrev cX12_shut : ByteArray := prog_14_method_12_code
def yX12_shut : MethodName := ⟨RX12, "shut", "(IZ)I"⟩
abbrev cX12_firstDay : ByteArray := prog_14_method_13_code
def yX12_firstDay : MethodName := ⟨RX12, "firstDay", "(I)I"⟩
abbrev cX12_period : ByteArray := prog_14_method_14_code
def yX12_period : MethodName := ⟨RX12, "period", "(I)I"⟩
abbrev cX12_owner : ByteArray := prog_14_method_15_code
def yX12_owner : MethodName := ⟨RX12, "owner", "(I)I"⟩
abbrev cX12_line : ByteArray := prog_14_method_16_code
def yX12_line : MethodName := ⟨RX12, "line", "(IJ)I"⟩
abbrev cX12_drop : ByteArray := prog_14_method_17_code
def yX12_drop : MethodName := ⟨RX12, "drop", "()I"⟩
abbrev cX12_hand : ByteArray := prog_14_method_18_code
def yX12_hand : MethodName := ⟨RX12, "hand", "(IJ)V"⟩
abbrev cX12_periodAt : ByteArray := prog_14_method_19_code
def yX12_periodAt : MethodName := ⟨RX12, "periodAt", "(I)I"⟩
abbrev cX12_isOver : ByteArray := prog_14_method_20_code
def yX12_isOver : MethodName := ⟨RX12, "isOver", "()Z"⟩
abbrev cX12_judged : ByteArray := prog_14_method_21_code
def yX12_judged : MethodName := ⟨RX12, "judged", "(I)I"⟩
abbrev cX12_enter : ByteArray := prog_14_method_22_code
def yX12_enter : MethodName := ⟨RX12, "enter", "(IIII)I"⟩
abbrev cX12_sayPost : ByteArray := prog_14_method_23_code
def yX12_sayPost : MethodName := ⟨RX12, "sayPost", "(II)V"⟩
abbrev cX12_posted : ByteArray := prog_14_method_24_code
def yX12_posted : MethodName := ⟨RX12, "posted", "(II)I"⟩
abbrev cX12_post : ByteArray := prog_14_method_25_code
def yX12_post : MethodName := ⟨RX12, "post", "(II)I"⟩
abbrev cX12_back : ByteArray := prog_14_method_26_code
def yX12_back : MethodName := ⟨RX12, "back", "(II)I"⟩
abbrev cX12_turned : ByteArray := prog_14_method_27_code
def yX12_turned : MethodName := ⟨RX12, "turned", "(I)V"⟩
abbrev cX12_sumOf : ByteArray := prog_14_method_28_code
def yX12_sumOf : MethodName := ⟨RX12, "sumOf", "(III)J"⟩
abbrev cX12_nextCode : ByteArray := prog_14_method_29_code
def yX12_nextCode : MethodName := ⟨RX12, "nextCode", "(I)I"⟩
abbrev cX12_close : ByteArray := prog_14_method_30_code
def yX12_close : MethodName := ⟨RX12, "close", "()I"⟩
abbrev cX12_reopen : ByteArray := prog_14_method_31_code
def yX12_reopen : MethodName := ⟨RX12, "reopen", "()I"⟩
abbrev cX12_shares : ByteArray := prog_14_method_32_code
def yX12_shares : MethodName := ⟨RX12, "shares", "(J)V"⟩
abbrev cX12_share : ByteArray := prog_14_method_33_code
def yX12_share : MethodName := ⟨RX12, "share", "(IJII)I"⟩
abbrev cX12_part : ByteArray := prog_14_method_34_code
def yX12_part : MethodName := ⟨RX12, "part", "(JIIIII)J"⟩
abbrev cX12_sync : ByteArray := prog_14_method_35_code
def yX12_sync : MethodName := ⟨RX12, "sync", "()I"⟩
abbrev cX12_crash : ByteArray := prog_14_method_36_code
def yX12_crash : MethodName := ⟨RX12, "crash", "(II)I"⟩
abbrev cX12_number : ByteArray := prog_14_method_37_code
def yX12_number : MethodName := ⟨RX12, "number", "()J"⟩
abbrev cX12_whole : ByteArray := prog_14_method_38_code
def yX12_whole : MethodName := ⟨RX12, "whole", "()I"⟩
abbrev cX12_truth : ByteArray := prog_14_method_39_code
def yX12_truth : MethodName := ⟨RX12, "truth", "()Z"⟩
abbrev cX12_isEnded : ByteArray := prog_14_method_40_code
def yX12_isEnded : MethodName := ⟨RX12, "isEnded", "()Z"⟩
abbrev cX12_isDone : ByteArray := prog_14_method_41_code
def yX12_isDone : MethodName := ⟨RX12, "isDone", "(I)Z"⟩
abbrev cX12_isPosted : ByteArray := prog_14_method_42_code
def yX12_isPosted : MethodName := ⟨RX12, "isPosted", "()Z"⟩
abbrev cX12_isNext : ByteArray := prog_14_method_43_code
def yX12_isNext : MethodName := ⟨RX12, "isNext", "()Z"⟩
abbrev cX12_recover : ByteArray := prog_14_method_44_code
def yX12_recover : MethodName := ⟨RX12, "recover", "()I"⟩
abbrev cX12_byteAt : ByteArray := prog_14_method_45_code
def yX12_byteAt : MethodName := ⟨RX12, "byteAt", "(I)I"⟩
abbrev cX12_of : ByteArray := prog_14_method_46_code
def yX12_of : MethodName := ⟨RX12, "of", "(II)I"⟩
abbrev cX12_isUnder : ByteArray := prog_14_method_47_code
def yX12_isUnder : MethodName := ⟨RX12, "isUnder", "(II)Z"⟩
abbrev cX12_balanceOf : ByteArray := prog_14_method_48_code
def yX12_balanceOf : MethodName := ⟨RX12, "balanceOf", "(I)J"⟩
abbrev cX12_balance : ByteArray := prog_14_method_49_code
def yX12_balance : MethodName := ⟨RX12, "balance", "(I)J"⟩
abbrev cX12_sum : ByteArray := prog_14_method_50_code
def yX12_sum : MethodName := ⟨RX12, "sum", "(III)J"⟩
abbrev cX12_entry : ByteArray := prog_14_method_51_code
def yX12_entry : MethodName := ⟨RX12, "entry", "(II)I"⟩
abbrev cX12_lineOf : ByteArray := prog_14_method_52_code
def yX12_lineOf : MethodName := ⟨RX12, "lineOf", "(III)J"⟩
abbrev cX12_ledger : ByteArray := prog_14_method_53_code
def yX12_ledger : MethodName := ⟨RX12, "ledger", "(III)J"⟩
abbrev cX12_periodOf : ByteArray := prog_14_method_54_code
def yX12_periodOf : MethodName := ⟨RX12, "periodOf", "(II)I"⟩
abbrev cX12_put : ByteArray := prog_14_method_55_code
def yX12_put : MethodName := ⟨RX12, "put", "(I)V"⟩
abbrev cX12_money : ByteArray := prog_14_method_56_code
def yX12_money : MethodName := ⟨RX12, "money", "(J)V"⟩
abbrev cX12_row : ByteArray := prog_14_method_57_code
def yX12_row : MethodName := ⟨RX12, "row", "(I)V"⟩
abbrev cX12_tree : ByteArray := prog_14_method_58_code
def yX12_tree : MethodName := ⟨RX12, "tree", "()V"⟩
abbrev cX12_ofKind : ByteArray := prog_14_method_59_code
def yX12_ofKind : MethodName := ⟨RX12, "ofKind", "(I)J"⟩
abbrev cX12_total : ByteArray := prog_14_method_60_code
def yX12_total : MethodName := ⟨RX12, "total", "(II)V"⟩
abbrev cX12_sheet : ByteArray := prog_14_method_61_code
def yX12_sheet : MethodName := ⟨RX12, "sheet", "(I)I"⟩
abbrev cX12_shown : ByteArray := prog_14_method_62_code
def yX12_shown : MethodName := ⟨RX12, "shown", "(I)I"⟩
abbrev cX12_count : ByteArray := prog_14_method_63_code
def yX12_count : MethodName := ⟨RX12, "count", "(I)I"⟩
def RJx8e188 : String := "java/lang/Cloneable"
def RJ9 : String := "java/lang/Math"
abbrev cJ9_abs_067f4 : ByteArray := prog_16_method_61_code
def yJ9_abs_067f4 : MethodName := ⟨RJ9, "abs", "(J)J"⟩
abbrev cJ9_max_7cf53 : ByteArray := prog_16_method_65_code
def yJ9_max_7cf53 : MethodName := ⟨RJ9, "max", "(II)I"⟩
abbrev cJ9_min_7cf53 : ByteArray := prog_16_method_69_code
def yJ9_min_7cf53 : MethodName := ⟨RJ9, "min", "(II)I"⟩
def RJ10 : String := "java/lang/System"
def RJ7 : String := "java/util/Arrays"
abbrev cJ7_fill_d0a16 : ByteArray := prog_18_method_101_code
def yJ7_fill_d0a16 : MethodName := ⟨RJ7, "fill", "([JJ)V"⟩
abbrev cJ7_copyOf_59c91 : ByteArray := prog_18_method_123_code
def yJ7_copyOf_59c91 : MethodName := ⟨RJ7, "copyOf", "([II)[I"⟩
abbrev cJ7_copyOf_c38d5 : ByteArray := prog_18_method_124_code
def yJ7_copyOf_c38d5 : MethodName := ⟨RJ7, "copyOf", "([JI)[J"⟩
def RL : String := "LedgerTwiceLaw"
abbrev cL_law : ByteArray := code
def yL_law : MethodName := ⟨RL, "law", "([I)Z"⟩
abbrev vwCl : List vw_C := [(RX0, TX0, 10), (RX1, TX1, 5), (RX2, TX2, 11), (RX3, TX3, 2), (RX4, TX4, 7), (RX5, TX5, 3), (RX6, TX6, 2), (RX7, TX7, 4), (RX8, TX8, 6), (RX9, TX9, 4), (RX10, TX10, 4), (RX11, TX11, 8), (RX12, TX12, 49)]
end
section
theorem dX0_init_0 : decode cX0_init 0 = .ok (.aload_n 0, 1) := by decide +kernel
theorem dX0_init_1 : decode cX0_init 1 = .ok (.invokespecial 3, 3) := by decide +kernel
theorem dX0_init_4 : decode cX0_init 4 = .ok (.aload_n 0, 1) := by decide +kernel
theorem dX0_init_5 : decode cX0_init 5 = .ok (.new 9, 3) := by decide +kernel
theorem dX0_init_8 : decode cX0_init 8 = .ok (.dup, 1) := by decide +kernel
theorem dX0_init_9 : decode cX0_init 9 = .ok (.bipush 60, 2) := by decide +kernel
theorem dX0_init_11 : decode cX0_init 11 = .ok (.invokespecial 11, 3) := by decide +kernel
theorem dX0_init_14 : decode cX0_init 14 = .ok (.putfield 14, 3) := by decide +kernel
theorem dX0_init_17 : decode cX0_init 17 = .ok (.aload_n 0, 1) := by decide +kernel
theorem dX0_init_18 : decode cX0_init 18 = .ok (.new 9, 3) := by decide +kernel
theorem dX0_init_21 : decode cX0_init 21 = .ok (.dup, 1) := by decide +kernel
theorem dX0_init_22 : decode cX0_init 22 = .ok (.bipush 60, 2) := by decide +kernel
theorem dX0_init_24 : decode cX0_init 24 = .ok (.invokespecial 11, 3) := by decide +kernel
theorem dX0_init_27 : decode cX0_init 27 = .ok (.putfield 20, 3) := by decide +kernel
theorem dX0_init_30 : decode cX0_init 30 = .ok (.aload_n 0, 1) := by decide +kernel
theorem dX0_init_31 : decode cX0_init 31 = .ok (.new 9, 3) := by decide +kernel
theorem dX0_init_34 : decode cX0_init 34 = .ok (.dup, 1) := by decide +kernel
theorem dX0_init_35 : decode cX0_init 35 = .ok (.bipush 60, 2) := by decide +kernel
theorem dX0_init_37 : decode cX0_init 37 = .ok (.invokespecial 11, 3) := by decide +kernel
theorem dX0_init_40 : decode cX0_init 40 = .ok (.putfield 23, 3) := by decide +kernel
theorem dX0_init_43 : decode cX0_init 43 = .ok (.aload_n 0, 1) := by decide +kernel
theorem dX0_init_44 : decode cX0_init 44 = .ok (.new 9, 3) := by decide +kernel
theorem dX0_init_47 : decode cX0_init 47 = .ok (.dup, 1) := by decide +kernel
theorem dX0_init_48 : decode cX0_init 48 = .ok (.bipush 60, 2) := by decide +kernel
theorem dX0_init_50 : decode cX0_init 50 = .ok (.invokespecial 11, 3) := by decide +kernel
theorem dX0_init_53 : decode cX0_init 53 = .ok (.putfield 26, 3) := by decide +kernel
theorem dX0_init_56 : decode cX0_init 56 = .ok (.aload_n 0, 1) := by decide +kernel
theorem dX0_init_57 : decode cX0_init 57 = .ok (.new 9, 3) := by decide +kernel
theorem dX0_init_60 : decode cX0_init 60 = .ok (.dup, 1) := by decide +kernel
theorem dX0_init_61 : decode cX0_init 61 = .ok (.bipush 60, 2) := by decide +kernel
theorem dX0_init_63 : decode cX0_init 63 = .ok (.invokespecial 11, 3) := by decide +kernel
theorem dX0_init_66 : decode cX0_init 66 = .ok (.putfield 29, 3) := by decide +kernel
theorem dX0_init_69 : decode cX0_init 69 = .ok (.aload_n 0, 1) := by decide +kernel
theorem dX0_init_70 : decode cX0_init 70 = .ok (.new 9, 3) := by decide +kernel
theorem dX0_init_73 : decode cX0_init 73 = .ok (.dup, 1) := by decide +kernel
theorem dX0_init_74 : decode cX0_init 74 = .ok (.bipush 60, 2) := by decide +kernel
theorem dX0_init_76 : decode cX0_init 76 = .ok (.invokespecial 11, 3) := by decide +kernel
theorem dX0_init_79 : decode cX0_init 79 = .ok (.putfield 32, 3) := by decide +kernel
theorem dX0_init_82 : decode cX0_init 82 = .ok (.aload_n 0, 1) := by decide +kernel
theorem dX0_init_83 : decode cX0_init 83 = .ok (.new 35, 3) := by decide +kernel
theorem dX0_init_86 : decode cX0_init 86 = .ok (.dup, 1) := by decide +kernel
theorem dX0_init_87 : decode cX0_init 87 = .ok (.bipush 60, 2) := by decide +kernel
theorem dX0_init_89 : decode cX0_init 89 = .ok (.invokespecial 37, 3) := by decide +kernel
theorem dX0_init_92 : decode cX0_init 92 = .ok (.putfield 38, 3) := by decide +kernel
theorem dX0_init_95 : decode cX0_init 95 = .ok (.aload_n 0, 1) := by decide +kernel
theorem dX0_init_96 : decode cX0_init 96 = .ok (.new 9, 3) := by decide +kernel
theorem dX0_init_99 : decode cX0_init 99 = .ok (.dup, 1) := by decide +kernel
theorem dX0_init_100 : decode cX0_init 100 = .ok (.bipush 60, 2) := by decide +kernel
theorem dX0_init_102 : decode cX0_init 102 = .ok (.invokespecial 11, 3) := by decide +kernel
theorem dX0_init_105 : decode cX0_init 105 = .ok (.putfield 42, 3) := by decide +kernel
theorem dX0_init_108 : decode cX0_init 108 = .ok (.aload_n 0, 1) := by decide +kernel
theorem dX0_init_109 : decode cX0_init 109 = .ok (.new 9, 3) := by decide +kernel
theorem dX0_init_112 : decode cX0_init 112 = .ok (.dup, 1) := by decide +kernel
theorem dX0_init_113 : decode cX0_init 113 = .ok (.bipush 60, 2) := by decide +kernel
theorem dX0_init_115 : decode cX0_init 115 = .ok (.invokespecial 11, 3) := by decide +kernel
theorem dX0_init_118 : decode cX0_init 118 = .ok (.putfield 45, 3) := by decide +kernel
theorem dX0_init_121 : decode cX0_init 121 = .ok (.return_, 1) := by decide +kernel
theorem dX0_clear_0 : decode cX0_clear 0 = .ok (.aload_n 0, 1) := by decide +kernel
theorem dX0_clear_1 : decode cX0_clear 1 = .ok (.iconst 0, 1) := by decide +kernel
theorem dX0_clear_2 : decode cX0_clear 2 = .ok (.putfield 48, 3) := by decide +kernel
theorem dX0_clear_5 : decode cX0_clear 5 = .ok (.return_, 1) := by decide +kernel
theorem dX0_has_0 : decode cX0_has 0 = .ok (.iload_n 1, 1) := by decide +kernel
theorem dX0_has_1 : decode cX0_has 1 = .ok (.ifCond .lt 15, 3) := by decide +kernel
theorem dX0_has_4 : decode cX0_has 4 = .ok (.iload_n 1, 1) := by decide +kernel
theorem dX0_has_5 : decode cX0_has 5 = .ok (.aload_n 0, 1) := by decide +kernel
theorem dX0_has_6 : decode cX0_has 6 = .ok (.getfield 48, 3) := by decide +kernel
theorem dX0_has_9 : decode cX0_has 9 = .ok (.if_icmp .ge 7, 3) := by decide +kernel
theorem dX0_has_12 : decode cX0_has 12 = .ok (.iconst 1, 1) := by decide +kernel
theorem dX0_has_13 : decode cX0_has 13 = .ok (.goto 4, 3) := by decide +kernel
theorem dX0_has_16 : decode cX0_has 16 = .ok (.iconst 0, 1) := by decide +kernel
theorem dX0_has_17 : decode cX0_has 17 = .ok (.ireturn, 1) := by decide +kernel
theorem dX0_isLeaf_0 : decode cX0_isLeaf 0 = .ok (.aload_n 0, 1) := by decide +kernel
theorem dX0_isLeaf_1 : decode cX0_isLeaf 1 = .ok (.iload_n 1, 1) := by decide +kernel
theorem dX0_isLeaf_2 : decode cX0_isLeaf 2 = .ok (.invokevirtual 52, 3) := by decide +kernel
theorem dX0_isLeaf_5 : decode cX0_isLeaf 5 = .ok (.ifCond .eq 18, 3) := by decide +kernel
theorem dX0_isLeaf_8 : decode cX0_isLeaf 8 = .ok (.aload_n 0, 1) := by decide +kernel
theorem dX0_isLeaf_9 : decode cX0_isLeaf 9 = .ok (.getfield 42, 3) := by decide +kernel
theorem dX0_isLeaf_12 : decode cX0_isLeaf 12 = .ok (.iload_n 1, 1) := by decide +kernel
theorem dX0_isLeaf_13 : decode cX0_isLeaf 13 = .ok (.invokevirtual 56, 3) := by decide +kernel
theorem dX0_isLeaf_16 : decode cX0_isLeaf 16 = .ok (.ifCond .ne 7, 3) := by decide +kernel
theorem dX0_isLeaf_19 : decode cX0_isLeaf 19 = .ok (.iconst 1, 1) := by decide +kernel
theorem dX0_isLeaf_20 : decode cX0_isLeaf 20 = .ok (.goto 4, 3) := by decide +kernel
theorem dX0_isLeaf_23 : decode cX0_isLeaf 23 = .ok (.iconst 0, 1) := by decide +kernel
theorem dX0_isLeaf_24 : decode cX0_isLeaf 24 = .ok (.ireturn, 1) := by decide +kernel
theorem dX0_isShut_0 : decode cX0_isShut 0 = .ok (.aload_n 0, 1) := by decide +kernel
theorem dX0_isShut_1 : decode cX0_isShut 1 = .ok (.getfield 45, 3) := by decide +kernel
theorem dX0_isShut_4 : decode cX0_isShut 4 = .ok (.iload_n 1, 1) := by decide +kernel
theorem dX0_isShut_5 : decode cX0_isShut 5 = .ok (.invokevirtual 56, 3) := by decide +kernel
theorem dX0_isShut_8 : decode cX0_isShut 8 = .ok (.iconst 1, 1) := by decide +kernel
theorem dX0_isShut_9 : decode cX0_isShut 9 = .ok (.if_icmp .ne 7, 3) := by decide +kernel
theorem dX0_isShut_12 : decode cX0_isShut 12 = .ok (.iconst 1, 1) := by decide +kernel
theorem dX0_isShut_13 : decode cX0_isShut 13 = .ok (.goto 4, 3) := by decide +kernel
theorem dX0_isShut_16 : decode cX0_isShut 16 = .ok (.iconst 0, 1) := by decide +kernel
theorem dX0_isShut_17 : decode cX0_isShut 17 = .ok (.ireturn, 1) := by decide +kernel
theorem dX0_setShut_0 : decode cX0_setShut 0 = .ok (.aload_n 0, 1) := by decide +kernel
theorem dX0_setShut_1 : decode cX0_setShut 1 = .ok (.getfield 45, 3) := by decide +kernel
theorem dX0_setShut_4 : decode cX0_setShut 4 = .ok (.iload_n 1, 1) := by decide +kernel
theorem dX0_setShut_5 : decode cX0_setShut 5 = .ok (.iload_n 2, 1) := by decide +kernel
theorem dX0_setShut_6 : decode cX0_setShut 6 = .ok (.ifCond .eq 7, 3) := by decide +kernel
theorem dX0_setShut_9 : decode cX0_setShut 9 = .ok (.iconst 1, 1) := by decide +kernel
theorem dX0_setShut_10 : decode cX0_setShut 10 = .ok (.goto 4, 3) := by decide +kernel
theorem dX0_setShut_13 : decode cX0_setShut 13 = .ok (.iconst 0, 1) := by decide +kernel
theorem dX0_setShut_14 : decode cX0_setShut 14 = .ok (.invokevirtual 60, 3) := by decide +kernel
theorem dX0_setShut_17 : decode cX0_setShut 17 = .ok (.return_, 1) := by decide +kernel
theorem dX0_takesChild_0 : decode cX0_takesChild 0 = .ok (.aload_n 0, 1) := by decide +kernel
theorem dX0_takesChild_1 : decode cX0_takesChild 1 = .ok (.getfield 42, 3) := by decide +kernel
theorem dX0_takesChild_4 : decode cX0_takesChild 4 = .ok (.iload_n 1, 1) := by decide +kernel
theorem dX0_takesChild_5 : decode cX0_takesChild 5 = .ok (.invokevirtual 56, 3) := by decide +kernel
theorem dX0_takesChild_8 : decode cX0_takesChild 8 = .ok (.iconst 1, 1) := by decide +kernel
theorem dX0_takesChild_9 : decode cX0_takesChild 9 = .ok (.if_icmp .ne 31, 3) := by decide +kernel
theorem dX0_takesChild_12 : decode cX0_takesChild 12 = .ok (.aload_n 0, 1) := by decide +kernel
theorem dX0_takesChild_13 : decode cX0_takesChild 13 = .ok (.getfield 20, 3) := by decide +kernel
theorem dX0_takesChild_16 : decode cX0_takesChild 16 = .ok (.iload_n 1, 1) := by decide +kernel
theorem dX0_takesChild_17 : decode cX0_takesChild 17 = .ok (.invokevirtual 56, 3) := by decide +kernel
theorem dX0_takesChild_20 : decode cX0_takesChild 20 = .ok (.iload_n 2, 1) := by decide +kernel
theorem dX0_takesChild_21 : decode cX0_takesChild 21 = .ok (.if_icmp .ne 19, 3) := by decide +kernel
theorem dX0_takesChild_24 : decode cX0_takesChild 24 = .ok (.aload_n 0, 1) := by decide +kernel
theorem dX0_takesChild_25 : decode cX0_takesChild 25 = .ok (.getfield 26, 3) := by decide +kernel
theorem dX0_takesChild_28 : decode cX0_takesChild 28 = .ok (.iload_n 1, 1) := by decide +kernel
theorem dX0_takesChild_29 : decode cX0_takesChild 29 = .ok (.invokevirtual 56, 3) := by decide +kernel
theorem dX0_takesChild_32 : decode cX0_takesChild 32 = .ok (.iconst 5, 1) := by decide +kernel
theorem dX0_takesChild_33 : decode cX0_takesChild 33 = .ok (.if_icmp .ge 7, 3) := by decide +kernel
theorem dX0_takesChild_36 : decode cX0_takesChild 36 = .ok (.iconst 1, 1) := by decide +kernel
theorem dX0_takesChild_37 : decode cX0_takesChild 37 = .ok (.goto 4, 3) := by decide +kernel
theorem dX0_takesChild_40 : decode cX0_takesChild 40 = .ok (.iconst 0, 1) := by decide +kernel
theorem dX0_takesChild_41 : decode cX0_takesChild 41 = .ok (.ireturn, 1) := by decide +kernel
theorem dX0_hasCode_0 : decode cX0_hasCode 0 = .ok (.iconst 0, 1) := by decide +kernel
theorem dX0_hasCode_1 : decode cX0_hasCode 1 = .ok (.istore_n 2, 1) := by decide +kernel
theorem dX0_hasCode_2 : decode cX0_hasCode 2 = .ok (.iload_n 2, 1) := by decide +kernel
theorem dX0_hasCode_3 : decode cX0_hasCode 3 = .ok (.aload_n 0, 1) := by decide +kernel
theorem dX0_hasCode_4 : decode cX0_hasCode 4 = .ok (.getfield 48, 3) := by decide +kernel
theorem dX0_hasCode_7 : decode cX0_hasCode 7 = .ok (.if_icmp .ge 23, 3) := by decide +kernel
theorem dX0_hasCode_10 : decode cX0_hasCode 10 = .ok (.aload_n 0, 1) := by decide +kernel
theorem dX0_hasCode_11 : decode cX0_hasCode 11 = .ok (.getfield 14, 3) := by decide +kernel
theorem dX0_hasCode_14 : decode cX0_hasCode 14 = .ok (.iload_n 2, 1) := by decide +kernel
theorem dX0_hasCode_15 : decode cX0_hasCode 15 = .ok (.invokevirtual 56, 3) := by decide +kernel
theorem dX0_hasCode_18 : decode cX0_hasCode 18 = .ok (.iload_n 1, 1) := by decide +kernel
theorem dX0_hasCode_19 : decode cX0_hasCode 19 = .ok (.if_icmp .ne 5, 3) := by decide +kernel
theorem dX0_hasCode_22 : decode cX0_hasCode 22 = .ok (.iconst 1, 1) := by decide +kernel
theorem dX0_hasCode_23 : decode cX0_hasCode 23 = .ok (.ireturn, 1) := by decide +kernel
theorem dX0_hasCode_24 : decode cX0_hasCode 24 = .ok (.iinc 2 1, 3) := by decide +kernel
theorem dX0_hasCode_27 : decode cX0_hasCode 27 = .ok (.goto (-25), 3) := by decide +kernel
theorem dX0_hasCode_30 : decode cX0_hasCode 30 = .ok (.iconst 0, 1) := by decide +kernel
theorem dX0_hasCode_31 : decode cX0_hasCode 31 = .ok (.ireturn, 1) := by decide +kernel
theorem dX0_add_0 : decode cX0_add 0 = .ok (.aload_n 0, 1) := by decide +kernel
theorem dX0_add_1 : decode cX0_add 1 = .ok (.getfield 48, 3) := by decide +kernel
theorem dX0_add_4 : decode cX0_add 4 = .ok (.istore 5, 2) := by decide +kernel
theorem dX0_add_6 : decode cX0_add 6 = .ok (.aload_n 0, 1) := by decide +kernel
theorem dX0_add_7 : decode cX0_add 7 = .ok (.getfield 14, 3) := by decide +kernel
theorem dX0_add_10 : decode cX0_add 10 = .ok (.iload 5, 2) := by decide +kernel
theorem dX0_add_12 : decode cX0_add 12 = .ok (.iload_n 1, 1) := by decide +kernel
theorem dX0_add_13 : decode cX0_add 13 = .ok (.invokevirtual 60, 3) := by decide +kernel
theorem dX0_add_16 : decode cX0_add 16 = .ok (.aload_n 0, 1) := by decide +kernel
theorem dX0_add_17 : decode cX0_add 17 = .ok (.getfield 20, 3) := by decide +kernel
theorem dX0_add_20 : decode cX0_add 20 = .ok (.iload 5, 2) := by decide +kernel
theorem dX0_add_22 : decode cX0_add 22 = .ok (.iload_n 2, 1) := by decide +kernel
theorem dX0_add_23 : decode cX0_add 23 = .ok (.invokevirtual 60, 3) := by decide +kernel
theorem dX0_add_26 : decode cX0_add 26 = .ok (.aload_n 0, 1) := by decide +kernel
theorem dX0_add_27 : decode cX0_add 27 = .ok (.getfield 23, 3) := by decide +kernel
theorem dX0_add_30 : decode cX0_add 30 = .ok (.iload 5, 2) := by decide +kernel
theorem dX0_add_32 : decode cX0_add 32 = .ok (.iload_n 3, 1) := by decide +kernel
theorem dX0_add_33 : decode cX0_add 33 = .ok (.invokevirtual 60, 3) := by decide +kernel
theorem dX0_add_36 : decode cX0_add 36 = .ok (.aload_n 0, 1) := by decide +kernel
theorem dX0_add_37 : decode cX0_add 37 = .ok (.getfield 26, 3) := by decide +kernel
theorem dX0_add_40 : decode cX0_add 40 = .ok (.iload 5, 2) := by decide +kernel
theorem dX0_add_42 : decode cX0_add 42 = .ok (.iload_n 3, 1) := by decide +kernel
theorem dX0_add_43 : decode cX0_add 43 = .ok (.iconst (-1), 1) := by decide +kernel
theorem dX0_add_44 : decode cX0_add 44 = .ok (.if_icmp .ne 7, 3) := by decide +kernel
theorem dX0_add_47 : decode cX0_add 47 = .ok (.iconst 0, 1) := by decide +kernel
theorem dX0_add_48 : decode cX0_add 48 = .ok (.goto 13, 3) := by decide +kernel
theorem dX0_add_51 : decode cX0_add 51 = .ok (.aload_n 0, 1) := by decide +kernel
theorem dX0_add_52 : decode cX0_add 52 = .ok (.getfield 26, 3) := by decide +kernel
theorem dX0_add_55 : decode cX0_add 55 = .ok (.iload_n 3, 1) := by decide +kernel
theorem dX0_add_56 : decode cX0_add 56 = .ok (.invokevirtual 56, 3) := by decide +kernel
theorem dX0_add_59 : decode cX0_add 59 = .ok (.iconst 1, 1) := by decide +kernel
theorem dX0_add_60 : decode cX0_add 60 = .ok (.iadd, 1) := by decide +kernel
theorem dX0_add_61 : decode cX0_add 61 = .ok (.invokevirtual 60, 3) := by decide +kernel
theorem dX0_add_64 : decode cX0_add 64 = .ok (.aload_n 0, 1) := by decide +kernel
theorem dX0_add_65 : decode cX0_add 65 = .ok (.getfield 42, 3) := by decide +kernel
theorem dX0_add_68 : decode cX0_add 68 = .ok (.iload 5, 2) := by decide +kernel
theorem dX0_add_70 : decode cX0_add 70 = .ok (.iload 4, 2) := by decide +kernel
theorem dX0_add_72 : decode cX0_add 72 = .ok (.ifCond .eq 7, 3) := by decide +kernel
theorem dX0_add_75 : decode cX0_add 75 = .ok (.iconst 1, 1) := by decide +kernel
theorem dX0_add_76 : decode cX0_add 76 = .ok (.goto 4, 3) := by decide +kernel
theorem dX0_add_79 : decode cX0_add 79 = .ok (.iconst 0, 1) := by decide +kernel
theorem dX0_add_80 : decode cX0_add 80 = .ok (.invokevirtual 60, 3) := by decide +kernel
theorem dX0_add_83 : decode cX0_add 83 = .ok (.aload_n 0, 1) := by decide +kernel
theorem dX0_add_84 : decode cX0_add 84 = .ok (.getfield 45, 3) := by decide +kernel
theorem dX0_add_87 : decode cX0_add 87 = .ok (.iload 5, 2) := by decide +kernel
theorem dX0_add_89 : decode cX0_add 89 = .ok (.iconst 0, 1) := by decide +kernel
theorem dX0_add_90 : decode cX0_add 90 = .ok (.invokevirtual 60, 3) := by decide +kernel
theorem dX0_add_93 : decode cX0_add 93 = .ok (.aload_n 0, 1) := by decide +kernel
theorem dX0_add_94 : decode cX0_add 94 = .ok (.getfield 29, 3) := by decide +kernel
theorem dX0_add_97 : decode cX0_add 97 = .ok (.iload 5, 2) := by decide +kernel
theorem dX0_add_99 : decode cX0_add 99 = .ok (.iconst 0, 1) := by decide +kernel
theorem dX0_add_100 : decode cX0_add 100 = .ok (.invokevirtual 60, 3) := by decide +kernel
theorem dX0_add_103 : decode cX0_add 103 = .ok (.aload_n 0, 1) := by decide +kernel
theorem dX0_add_104 : decode cX0_add 104 = .ok (.getfield 38, 3) := by decide +kernel
theorem dX0_add_107 : decode cX0_add 107 = .ok (.iload 5, 2) := by decide +kernel
theorem dX0_add_109 : decode cX0_add 109 = .ok (.lconst 0, 1) := by decide +kernel
theorem dX0_add_110 : decode cX0_add 110 = .ok (.invokevirtual 64, 3) := by decide +kernel
theorem dX0_add_113 : decode cX0_add 113 = .ok (.aload_n 0, 1) := by decide +kernel
theorem dX0_add_114 : decode cX0_add 114 = .ok (.iload 5, 2) := by decide +kernel
theorem dX0_add_116 : decode cX0_add 116 = .ok (.invokevirtual 67, 3) := by decide +kernel
theorem dX0_add_119 : decode cX0_add 119 = .ok (.aload_n 0, 1) := by decide +kernel
theorem dX0_add_120 : decode cX0_add 120 = .ok (.dup, 1) := by decide +kernel
theorem dX0_add_121 : decode cX0_add 121 = .ok (.getfield 48, 3) := by decide +kernel
theorem dX0_add_124 : decode cX0_add 124 = .ok (.iconst 1, 1) := by decide +kernel
theorem dX0_add_125 : decode cX0_add 125 = .ok (.iadd, 1) := by decide +kernel
theorem dX0_add_126 : decode cX0_add 126 = .ok (.putfield 48, 3) := by decide +kernel
theorem dX0_add_129 : decode cX0_add 129 = .ok (.iload 5, 2) := by decide +kernel
theorem dX0_add_131 : decode cX0_add 131 = .ok (.ireturn, 1) := by decide +kernel
theorem dX0_putByCode_0 : decode cX0_putByCode 0 = .ok (.aload_n 0, 1) := by decide +kernel
theorem dX0_putByCode_1 : decode cX0_putByCode 1 = .ok (.getfield 48, 3) := by decide +kernel
theorem dX0_putByCode_4 : decode cX0_putByCode 4 = .ok (.istore_n 2, 1) := by decide +kernel
theorem dX0_putByCode_5 : decode cX0_putByCode 5 = .ok (.iload_n 2, 1) := by decide +kernel
theorem dX0_putByCode_6 : decode cX0_putByCode 6 = .ok (.ifCond .le 55, 3) := by decide +kernel
theorem dX0_putByCode_9 : decode cX0_putByCode 9 = .ok (.aload_n 0, 1) := by decide +kernel
theorem dX0_putByCode_10 : decode cX0_putByCode 10 = .ok (.getfield 14, 3) := by decide +kernel
theorem dX0_putByCode_13 : decode cX0_putByCode 13 = .ok (.aload_n 0, 1) := by decide +kernel
theorem dX0_putByCode_14 : decode cX0_putByCode 14 = .ok (.getfield 32, 3) := by decide +kernel
theorem dX0_putByCode_17 : decode cX0_putByCode 17 = .ok (.iload_n 2, 1) := by decide +kernel
theorem dX0_putByCode_18 : decode cX0_putByCode 18 = .ok (.iconst 1, 1) := by decide +kernel
theorem dX0_putByCode_19 : decode cX0_putByCode 19 = .ok (.isub, 1) := by decide +kernel
theorem dX0_putByCode_20 : decode cX0_putByCode 20 = .ok (.invokevirtual 56, 3) := by decide +kernel
theorem dX0_putByCode_23 : decode cX0_putByCode 23 = .ok (.invokevirtual 56, 3) := by decide +kernel
theorem dX0_putByCode_26 : decode cX0_putByCode 26 = .ok (.aload_n 0, 1) := by decide +kernel
theorem dX0_putByCode_27 : decode cX0_putByCode 27 = .ok (.getfield 14, 3) := by decide +kernel
theorem dX0_putByCode_30 : decode cX0_putByCode 30 = .ok (.iload_n 1, 1) := by decide +kernel
theorem dX0_putByCode_31 : decode cX0_putByCode 31 = .ok (.invokevirtual 56, 3) := by decide +kernel
theorem dX0_putByCode_34 : decode cX0_putByCode 34 = .ok (.if_icmp .le 27, 3) := by decide +kernel
theorem dX0_putByCode_37 : decode cX0_putByCode 37 = .ok (.aload_n 0, 1) := by decide +kernel
theorem dX0_putByCode_38 : decode cX0_putByCode 38 = .ok (.getfield 32, 3) := by decide +kernel
theorem dX0_putByCode_41 : decode cX0_putByCode 41 = .ok (.iload_n 2, 1) := by decide +kernel
theorem dX0_putByCode_42 : decode cX0_putByCode 42 = .ok (.aload_n 0, 1) := by decide +kernel
theorem dX0_putByCode_43 : decode cX0_putByCode 43 = .ok (.getfield 32, 3) := by decide +kernel
theorem dX0_putByCode_46 : decode cX0_putByCode 46 = .ok (.iload_n 2, 1) := by decide +kernel
theorem dX0_putByCode_47 : decode cX0_putByCode 47 = .ok (.iconst 1, 1) := by decide +kernel
theorem dX0_putByCode_48 : decode cX0_putByCode 48 = .ok (.isub, 1) := by decide +kernel
theorem dX0_putByCode_49 : decode cX0_putByCode 49 = .ok (.invokevirtual 56, 3) := by decide +kernel
theorem dX0_putByCode_52 : decode cX0_putByCode 52 = .ok (.invokevirtual 60, 3) := by decide +kernel
theorem dX0_putByCode_55 : decode cX0_putByCode 55 = .ok (.iinc 2 (-1), 3) := by decide +kernel
theorem dX0_putByCode_58 : decode cX0_putByCode 58 = .ok (.goto (-53), 3) := by decide +kernel
theorem dX0_putByCode_61 : decode cX0_putByCode 61 = .ok (.aload_n 0, 1) := by decide +kernel
theorem dX0_putByCode_62 : decode cX0_putByCode 62 = .ok (.getfield 32, 3) := by decide +kernel
theorem dX0_putByCode_65 : decode cX0_putByCode 65 = .ok (.iload_n 2, 1) := by decide +kernel
theorem dX0_putByCode_66 : decode cX0_putByCode 66 = .ok (.iload_n 1, 1) := by decide +kernel
theorem dX0_putByCode_67 : decode cX0_putByCode 67 = .ok (.invokevirtual 60, 3) := by decide +kernel
theorem dX0_putByCode_70 : decode cX0_putByCode 70 = .ok (.return_, 1) := by decide +kernel
theorem dX0_enterLine_0 : decode cX0_enterLine 0 = .ok (.aload_n 0, 1) := by decide +kernel
theorem dX0_enterLine_1 : decode cX0_enterLine 1 = .ok (.getfield 38, 3) := by decide +kernel
theorem dX0_enterLine_4 : decode cX0_enterLine 4 = .ok (.iload_n 1, 1) := by decide +kernel
theorem dX0_enterLine_5 : decode cX0_enterLine 5 = .ok (.lload_n 2, 1) := by decide +kernel
theorem dX0_enterLine_6 : decode cX0_enterLine 6 = .ok (.invokevirtual 70, 3) := by decide +kernel
theorem dX0_enterLine_9 : decode cX0_enterLine 9 = .ok (.aload_n 0, 1) := by decide +kernel
theorem dX0_enterLine_10 : decode cX0_enterLine 10 = .ok (.getfield 29, 3) := by decide +kernel
theorem dX0_enterLine_13 : decode cX0_enterLine 13 = .ok (.iload_n 1, 1) := by decide +kernel
theorem dX0_enterLine_14 : decode cX0_enterLine 14 = .ok (.aload_n 0, 1) := by decide +kernel
theorem dX0_enterLine_15 : decode cX0_enterLine 15 = .ok (.getfield 29, 3) := by decide +kernel
theorem dX0_enterLine_18 : decode cX0_enterLine 18 = .ok (.iload_n 1, 1) := by decide +kernel
theorem dX0_enterLine_19 : decode cX0_enterLine 19 = .ok (.invokevirtual 56, 3) := by decide +kernel
theorem dX0_enterLine_22 : decode cX0_enterLine 22 = .ok (.iconst 1, 1) := by decide +kernel
theorem dX0_enterLine_23 : decode cX0_enterLine 23 = .ok (.iadd, 1) := by decide +kernel
theorem dX0_enterLine_24 : decode cX0_enterLine 24 = .ok (.invokevirtual 60, 3) := by decide +kernel
theorem dX0_enterLine_27 : decode cX0_enterLine 27 = .ok (.return_, 1) := by decide +kernel
theorem dX0_totalUnder_0 : decode cX0_totalUnder 0 = .ok (.aload_n 0, 1) := by decide +kernel
theorem dX0_totalUnder_1 : decode cX0_totalUnder 1 = .ok (.iload_n 1, 1) := by decide +kernel
theorem dX0_totalUnder_2 : decode cX0_totalUnder 2 = .ok (.invokevirtual 73, 3) := by decide +kernel
theorem dX0_totalUnder_5 : decode cX0_totalUnder 5 = .ok (.ifCond .eq 9, 3) := by decide +kernel
theorem dX0_totalUnder_8 : decode cX0_totalUnder 8 = .ok (.aload_n 2, 1) := by decide +kernel
theorem dX0_totalUnder_9 : decode cX0_totalUnder 9 = .ok (.iload_n 1, 1) := by decide +kernel
theorem dX0_totalUnder_10 : decode cX0_totalUnder 10 = .ok (.invokevirtual 76, 3) := by decide +kernel
theorem dX0_totalUnder_13 : decode cX0_totalUnder 13 = .ok (.lreturn, 1) := by decide +kernel
theorem dX0_totalUnder_14 : decode cX0_totalUnder 14 = .ok (.lconst 0, 1) := by decide +kernel
theorem dX0_totalUnder_15 : decode cX0_totalUnder 15 = .ok (.lstore_n 3, 1) := by decide +kernel
theorem dX0_totalUnder_16 : decode cX0_totalUnder 16 = .ok (.iconst 0, 1) := by decide +kernel
theorem dX0_totalUnder_17 : decode cX0_totalUnder 17 = .ok (.istore 5, 2) := by decide +kernel
theorem dX0_totalUnder_19 : decode cX0_totalUnder 19 = .ok (.iload 5, 2) := by decide +kernel
theorem dX0_totalUnder_21 : decode cX0_totalUnder 21 = .ok (.aload_n 0, 1) := by decide +kernel
theorem dX0_totalUnder_22 : decode cX0_totalUnder 22 = .ok (.getfield 48, 3) := by decide +kernel
theorem dX0_totalUnder_25 : decode cX0_totalUnder 25 = .ok (.if_icmp .ge 37, 3) := by decide +kernel
theorem dX0_totalUnder_28 : decode cX0_totalUnder 28 = .ok (.aload_n 0, 1) := by decide +kernel
theorem dX0_totalUnder_29 : decode cX0_totalUnder 29 = .ok (.iload 5, 2) := by decide +kernel
theorem dX0_totalUnder_31 : decode cX0_totalUnder 31 = .ok (.invokevirtual 73, 3) := by decide +kernel
theorem dX0_totalUnder_34 : decode cX0_totalUnder 34 = .ok (.ifCond .eq 22, 3) := by decide +kernel
theorem dX0_totalUnder_37 : decode cX0_totalUnder 37 = .ok (.aload_n 0, 1) := by decide +kernel
theorem dX0_totalUnder_38 : decode cX0_totalUnder 38 = .ok (.iload 5, 2) := by decide +kernel
theorem dX0_totalUnder_40 : decode cX0_totalUnder 40 = .ok (.iload_n 1, 1) := by decide +kernel
theorem dX0_totalUnder_41 : decode cX0_totalUnder 41 = .ok (.invokevirtual 79, 3) := by decide +kernel
theorem dX0_totalUnder_44 : decode cX0_totalUnder 44 = .ok (.ifCond .eq 12, 3) := by decide +kernel
theorem dX0_totalUnder_47 : decode cX0_totalUnder 47 = .ok (.lload_n 3, 1) := by decide +kernel
theorem dX0_totalUnder_48 : decode cX0_totalUnder 48 = .ok (.aload_n 2, 1) := by decide +kernel
theorem dX0_totalUnder_49 : decode cX0_totalUnder 49 = .ok (.iload 5, 2) := by decide +kernel
theorem dX0_totalUnder_51 : decode cX0_totalUnder 51 = .ok (.invokevirtual 76, 3) := by decide +kernel
theorem dX0_totalUnder_54 : decode cX0_totalUnder 54 = .ok (.ladd, 1) := by decide +kernel
theorem dX0_totalUnder_55 : decode cX0_totalUnder 55 = .ok (.lstore_n 3, 1) := by decide +kernel
theorem dX0_totalUnder_56 : decode cX0_totalUnder 56 = .ok (.iinc 5 1, 3) := by decide +kernel
theorem dX0_totalUnder_59 : decode cX0_totalUnder 59 = .ok (.goto (-40), 3) := by decide +kernel
theorem dX0_totalUnder_62 : decode cX0_totalUnder 62 = .ok (.lload_n 3, 1) := by decide +kernel
theorem dX0_totalUnder_63 : decode cX0_totalUnder 63 = .ok (.lreturn, 1) := by decide +kernel
theorem dX0_isUnder_0 : decode cX0_isUnder 0 = .ok (.aload_n 0, 1) := by decide +kernel
theorem dX0_isUnder_1 : decode cX0_isUnder 1 = .ok (.getfield 23, 3) := by decide +kernel
theorem dX0_isUnder_4 : decode cX0_isUnder 4 = .ok (.iload_n 1, 1) := by decide +kernel
theorem dX0_isUnder_5 : decode cX0_isUnder 5 = .ok (.invokevirtual 56, 3) := by decide +kernel
theorem dX0_isUnder_8 : decode cX0_isUnder 8 = .ok (.istore_n 3, 1) := by decide +kernel
theorem dX0_isUnder_9 : decode cX0_isUnder 9 = .ok (.iconst 0, 1) := by decide +kernel
theorem dX0_isUnder_10 : decode cX0_isUnder 10 = .ok (.istore 4, 2) := by decide +kernel
theorem dX0_isUnder_12 : decode cX0_isUnder 12 = .ok (.iload 4, 2) := by decide +kernel
theorem dX0_isUnder_14 : decode cX0_isUnder 14 = .ok (.iconst 5, 1) := by decide +kernel
theorem dX0_isUnder_15 : decode cX0_isUnder 15 = .ok (.if_icmp .ge 30, 3) := by decide +kernel
theorem dX0_isUnder_18 : decode cX0_isUnder 18 = .ok (.iload_n 3, 1) := by decide +kernel
theorem dX0_isUnder_19 : decode cX0_isUnder 19 = .ok (.iconst (-1), 1) := by decide +kernel
theorem dX0_isUnder_20 : decode cX0_isUnder 20 = .ok (.if_icmp .eq 25, 3) := by decide +kernel
theorem dX0_isUnder_23 : decode cX0_isUnder 23 = .ok (.iload_n 3, 1) := by decide +kernel
theorem dX0_isUnder_24 : decode cX0_isUnder 24 = .ok (.iload_n 2, 1) := by decide +kernel
theorem dX0_isUnder_25 : decode cX0_isUnder 25 = .ok (.if_icmp .ne 5, 3) := by decide +kernel
theorem dX0_isUnder_28 : decode cX0_isUnder 28 = .ok (.iconst 1, 1) := by decide +kernel
theorem dX0_isUnder_29 : decode cX0_isUnder 29 = .ok (.ireturn, 1) := by decide +kernel
theorem dX0_isUnder_30 : decode cX0_isUnder 30 = .ok (.aload_n 0, 1) := by decide +kernel
theorem dX0_isUnder_31 : decode cX0_isUnder 31 = .ok (.getfield 23, 3) := by decide +kernel
theorem dX0_isUnder_34 : decode cX0_isUnder 34 = .ok (.iload_n 3, 1) := by decide +kernel
theorem dX0_isUnder_35 : decode cX0_isUnder 35 = .ok (.invokevirtual 56, 3) := by decide +kernel
theorem dX0_isUnder_38 : decode cX0_isUnder 38 = .ok (.istore_n 3, 1) := by decide +kernel
theorem dX0_isUnder_39 : decode cX0_isUnder 39 = .ok (.iinc 4 1, 3) := by decide +kernel
theorem dX0_isUnder_42 : decode cX0_isUnder 42 = .ok (.goto (-30), 3) := by decide +kernel
theorem dX0_isUnder_45 : decode cX0_isUnder 45 = .ok (.iconst 0, 1) := by decide +kernel
theorem dX0_isUnder_46 : decode cX0_isUnder 46 = .ok (.ireturn, 1) := by decide +kernel
theorem dX0_totalOfKind_0 : decode cX0_totalOfKind 0 = .ok (.lconst 0, 1) := by decide +kernel
theorem dX0_totalOfKind_1 : decode cX0_totalOfKind 1 = .ok (.lstore_n 2, 1) := by decide +kernel
theorem dX0_totalOfKind_2 : decode cX0_totalOfKind 2 = .ok (.iconst 0, 1) := by decide +kernel
theorem dX0_totalOfKind_3 : decode cX0_totalOfKind 3 = .ok (.istore 4, 2) := by decide +kernel
theorem dX0_totalOfKind_5 : decode cX0_totalOfKind 5 = .ok (.iload 4, 2) := by decide +kernel
theorem dX0_totalOfKind_7 : decode cX0_totalOfKind 7 = .ok (.aload_n 0, 1) := by decide +kernel
theorem dX0_totalOfKind_8 : decode cX0_totalOfKind 8 = .ok (.getfield 48, 3) := by decide +kernel
theorem dX0_totalOfKind_11 : decode cX0_totalOfKind 11 = .ok (.if_icmp .ge 43, 3) := by decide +kernel
theorem dX0_totalOfKind_14 : decode cX0_totalOfKind 14 = .ok (.aload_n 0, 1) := by decide +kernel
theorem dX0_totalOfKind_15 : decode cX0_totalOfKind 15 = .ok (.iload 4, 2) := by decide +kernel
theorem dX0_totalOfKind_17 : decode cX0_totalOfKind 17 = .ok (.invokevirtual 73, 3) := by decide +kernel
theorem dX0_totalOfKind_20 : decode cX0_totalOfKind 20 = .ok (.ifCond .eq 28, 3) := by decide +kernel
theorem dX0_totalOfKind_23 : decode cX0_totalOfKind 23 = .ok (.aload_n 0, 1) := by decide +kernel
theorem dX0_totalOfKind_24 : decode cX0_totalOfKind 24 = .ok (.getfield 20, 3) := by decide +kernel
theorem dX0_totalOfKind_27 : decode cX0_totalOfKind 27 = .ok (.iload 4, 2) := by decide +kernel
theorem dX0_totalOfKind_29 : decode cX0_totalOfKind 29 = .ok (.invokevirtual 56, 3) := by decide +kernel
theorem dX0_totalOfKind_32 : decode cX0_totalOfKind 32 = .ok (.iload_n 1, 1) := by decide +kernel
theorem dX0_totalOfKind_33 : decode cX0_totalOfKind 33 = .ok (.if_icmp .ne 15, 3) := by decide +kernel
theorem dX0_totalOfKind_36 : decode cX0_totalOfKind 36 = .ok (.lload_n 2, 1) := by decide +kernel
theorem dX0_totalOfKind_37 : decode cX0_totalOfKind 37 = .ok (.aload_n 0, 1) := by decide +kernel
theorem dX0_totalOfKind_38 : decode cX0_totalOfKind 38 = .ok (.getfield 38, 3) := by decide +kernel
theorem dX0_totalOfKind_41 : decode cX0_totalOfKind 41 = .ok (.iload 4, 2) := by decide +kernel
theorem dX0_totalOfKind_43 : decode cX0_totalOfKind 43 = .ok (.invokevirtual 76, 3) := by decide +kernel
theorem dX0_totalOfKind_46 : decode cX0_totalOfKind 46 = .ok (.ladd, 1) := by decide +kernel
theorem dX0_totalOfKind_47 : decode cX0_totalOfKind 47 = .ok (.lstore_n 2, 1) := by decide +kernel
theorem dX0_totalOfKind_48 : decode cX0_totalOfKind 48 = .ok (.iinc 4 1, 3) := by decide +kernel
theorem dX0_totalOfKind_51 : decode cX0_totalOfKind 51 = .ok (.goto (-46), 3) := by decide +kernel
theorem dX0_totalOfKind_54 : decode cX0_totalOfKind 54 = .ok (.lload_n 2, 1) := by decide +kernel
theorem dX0_totalOfKind_55 : decode cX0_totalOfKind 55 = .ok (.lreturn, 1) := by decide +kernel
theorem dX0_told_0 : decode cX0_told 0 = .ok (.iload_n 2, 1) := by decide +kernel
theorem dX0_told_1 : decode cX0_told 1 = .ok (.tableswitch 106 0 6 #[43, 52, 61, 70, 79, 88, 97], 43) := by decide +kernel
theorem dX0_told_44 : decode cX0_told 44 = .ok (.aload_n 0, 1) := by decide +kernel
theorem dX0_told_45 : decode cX0_told 45 = .ok (.getfield 14, 3) := by decide +kernel
theorem dX0_told_48 : decode cX0_told 48 = .ok (.iload_n 1, 1) := by decide +kernel
theorem dX0_told_49 : decode cX0_told 49 = .ok (.invokevirtual 56, 3) := by decide +kernel
theorem dX0_told_52 : decode cX0_told 52 = .ok (.ireturn, 1) := by decide +kernel
theorem dX0_told_53 : decode cX0_told 53 = .ok (.aload_n 0, 1) := by decide +kernel
theorem dX0_told_54 : decode cX0_told 54 = .ok (.getfield 20, 3) := by decide +kernel
theorem dX0_told_57 : decode cX0_told 57 = .ok (.iload_n 1, 1) := by decide +kernel
theorem dX0_told_58 : decode cX0_told 58 = .ok (.invokevirtual 56, 3) := by decide +kernel
theorem dX0_told_61 : decode cX0_told 61 = .ok (.ireturn, 1) := by decide +kernel
theorem dX0_told_62 : decode cX0_told 62 = .ok (.aload_n 0, 1) := by decide +kernel
theorem dX0_told_63 : decode cX0_told 63 = .ok (.getfield 23, 3) := by decide +kernel
theorem dX0_told_66 : decode cX0_told 66 = .ok (.iload_n 1, 1) := by decide +kernel
theorem dX0_told_67 : decode cX0_told 67 = .ok (.invokevirtual 56, 3) := by decide +kernel
theorem dX0_told_70 : decode cX0_told 70 = .ok (.ireturn, 1) := by decide +kernel
theorem dX0_told_71 : decode cX0_told 71 = .ok (.aload_n 0, 1) := by decide +kernel
theorem dX0_told_72 : decode cX0_told 72 = .ok (.getfield 42, 3) := by decide +kernel
theorem dX0_told_75 : decode cX0_told 75 = .ok (.iload_n 1, 1) := by decide +kernel
theorem dX0_told_76 : decode cX0_told 76 = .ok (.invokevirtual 56, 3) := by decide +kernel
theorem dX0_told_79 : decode cX0_told 79 = .ok (.ireturn, 1) := by decide +kernel
theorem dX0_told_80 : decode cX0_told 80 = .ok (.aload_n 0, 1) := by decide +kernel
theorem dX0_told_81 : decode cX0_told 81 = .ok (.getfield 45, 3) := by decide +kernel
theorem dX0_told_84 : decode cX0_told 84 = .ok (.iload_n 1, 1) := by decide +kernel
theorem dX0_told_85 : decode cX0_told 85 = .ok (.invokevirtual 56, 3) := by decide +kernel
theorem dX0_told_88 : decode cX0_told 88 = .ok (.ireturn, 1) := by decide +kernel
theorem dX0_told_89 : decode cX0_told 89 = .ok (.aload_n 0, 1) := by decide +kernel
theorem dX0_told_90 : decode cX0_told 90 = .ok (.getfield 26, 3) := by decide +kernel
theorem dX0_told_93 : decode cX0_told 93 = .ok (.iload_n 1, 1) := by decide +kernel
theorem dX0_told_94 : decode cX0_told 94 = .ok (.invokevirtual 56, 3) := by decide +kernel
theorem dX0_told_97 : decode cX0_told 97 = .ok (.ireturn, 1) := by decide +kernel
theorem dX0_told_98 : decode cX0_told 98 = .ok (.aload_n 0, 1) := by decide +kernel
theorem dX0_told_99 : decode cX0_told 99 = .ok (.getfield 29, 3) := by decide +kernel
theorem dX0_told_102 : decode cX0_told 102 = .ok (.iload_n 1, 1) := by decide +kernel
theorem dX0_told_103 : decode cX0_told 103 = .ok (.invokevirtual 56, 3) := by decide +kernel
theorem dX0_told_106 : decode cX0_told 106 = .ok (.ireturn, 1) := by decide +kernel
theorem dX0_told_107 : decode cX0_told 107 = .ok (.bipush (-3), 2) := by decide +kernel
theorem dX0_told_109 : decode cX0_told 109 = .ok (.ireturn, 1) := by decide +kernel
theorem dX1_init_0 : decode cX1_init 0 = .ok (.aload_n 0, 1) := by decide +kernel
theorem dX1_init_1 : decode cX1_init 1 = .ok (.invokespecial 3, 3) := by decide +kernel
theorem dX1_init_4 : decode cX1_init 4 = .ok (.aload_n 0, 1) := by decide +kernel
theorem dX1_init_5 : decode cX1_init 5 = .ok (.new 9, 3) := by decide +kernel
theorem dX1_init_8 : decode cX1_init 8 = .ok (.dup, 1) := by decide +kernel
theorem dX1_init_9 : decode cX1_init 9 = .ok (.invokespecial 11, 3) := by decide +kernel
theorem dX1_init_12 : decode cX1_init 12 = .ok (.putfield 12, 3) := by decide +kernel
theorem dX1_init_15 : decode cX1_init 15 = .ok (.aload_n 0, 1) := by decide +kernel
theorem dX1_init_16 : decode cX1_init 16 = .ok (.new 18, 3) := by decide +kernel
theorem dX1_init_19 : decode cX1_init 19 = .ok (.dup, 1) := by decide +kernel
theorem dX1_init_20 : decode cX1_init 20 = .ok (.invokespecial 20, 3) := by decide +kernel
theorem dX1_init_23 : decode cX1_init 23 = .ok (.putfield 21, 3) := by decide +kernel
theorem dX1_init_26 : decode cX1_init 26 = .ok (.aload_n 0, 1) := by decide +kernel
theorem dX1_init_27 : decode cX1_init 27 = .ok (.new 25, 3) := by decide +kernel
theorem dX1_init_30 : decode cX1_init 30 = .ok (.dup, 1) := by decide +kernel
theorem dX1_init_31 : decode cX1_init 31 = .ok (.invokespecial 27, 3) := by decide +kernel
theorem dX1_init_34 : decode cX1_init 34 = .ok (.putfield 28, 3) := by decide +kernel
theorem dX1_init_37 : decode cX1_init 37 = .ok (.aload_n 0, 1) := by decide +kernel
theorem dX1_init_38 : decode cX1_init 38 = .ok (.iconst (-1), 1) := by decide +kernel
theorem dX1_init_39 : decode cX1_init 39 = .ok (.putfield 32, 3) := by decide +kernel
theorem dX1_init_42 : decode cX1_init 42 = .ok (.aload_n 0, 1) := by decide +kernel
theorem dX1_init_43 : decode cX1_init 43 = .ok (.new 36, 3) := by decide +kernel
theorem dX1_init_46 : decode cX1_init 46 = .ok (.dup, 1) := by decide +kernel
theorem dX1_init_47 : decode cX1_init 47 = .ok (.bipush 60, 2) := by decide +kernel
theorem dX1_init_49 : decode cX1_init 49 = .ok (.invokespecial 38, 3) := by decide +kernel
theorem dX1_init_52 : decode cX1_init 52 = .ok (.putfield 41, 3) := by decide +kernel
theorem dX1_init_55 : decode cX1_init 55 = .ok (.return_, 1) := by decide +kernel
theorem dX1_clear_0 : decode cX1_clear 0 = .ok (.aload_n 0, 1) := by decide +kernel
theorem dX1_clear_1 : decode cX1_clear 1 = .ok (.getfield 12, 3) := by decide +kernel
theorem dX1_clear_4 : decode cX1_clear 4 = .ok (.invokevirtual 45, 3) := by decide +kernel
theorem dX1_clear_7 : decode cX1_clear 7 = .ok (.aload_n 0, 1) := by decide +kernel
theorem dX1_clear_8 : decode cX1_clear 8 = .ok (.getfield 21, 3) := by decide +kernel
theorem dX1_clear_11 : decode cX1_clear 11 = .ok (.invokevirtual 48, 3) := by decide +kernel
theorem dX1_clear_14 : decode cX1_clear 14 = .ok (.aload_n 0, 1) := by decide +kernel
theorem dX1_clear_15 : decode cX1_clear 15 = .ok (.getfield 28, 3) := by decide +kernel
theorem dX1_clear_18 : decode cX1_clear 18 = .ok (.invokevirtual 49, 3) := by decide +kernel
theorem dX1_clear_21 : decode cX1_clear 21 = .ok (.aload_n 0, 1) := by decide +kernel
theorem dX1_clear_22 : decode cX1_clear 22 = .ok (.iconst (-1), 1) := by decide +kernel
theorem dX1_clear_23 : decode cX1_clear 23 = .ok (.putfield 32, 3) := by decide +kernel
theorem dX1_clear_26 : decode cX1_clear 26 = .ok (.return_, 1) := by decide +kernel
theorem dX1_refusesAccount_0 : decode cX1_refusesAccount 0 = .ok (.iload_n 3, 1) := by decide +kernel
theorem dX1_refusesAccount_1 : decode cX1_refusesAccount 1 = .ok (.iconst (-1), 1) := by decide +kernel
theorem dX1_refusesAccount_2 : decode cX1_refusesAccount 2 = .ok (.if_icmp .eq 17, 3) := by decide +kernel
theorem dX1_refusesAccount_5 : decode cX1_refusesAccount 5 = .ok (.aload_n 0, 1) := by decide +kernel
theorem dX1_refusesAccount_6 : decode cX1_refusesAccount 6 = .ok (.getfield 12, 3) := by decide +kernel
theorem dX1_refusesAccount_9 : decode cX1_refusesAccount 9 = .ok (.iload_n 3, 1) := by decide +kernel
theorem dX1_refusesAccount_10 : decode cX1_refusesAccount 10 = .ok (.invokevirtual 50, 3) := by decide +kernel
theorem dX1_refusesAccount_13 : decode cX1_refusesAccount 13 = .ok (.ifCond .ne 6, 3) := by decide +kernel
theorem dX1_refusesAccount_16 : decode cX1_refusesAccount 16 = .ok (.bipush (-2), 2) := by decide +kernel
theorem dX1_refusesAccount_18 : decode cX1_refusesAccount 18 = .ok (.ireturn, 1) := by decide +kernel
theorem dX1_refusesAccount_19 : decode cX1_refusesAccount 19 = .ok (.iload_n 1, 1) := by decide +kernel
theorem dX1_refusesAccount_20 : decode cX1_refusesAccount 20 = .ok (.iconst 1, 1) := by decide +kernel
theorem dX1_refusesAccount_21 : decode cX1_refusesAccount 21 = .ok (.if_icmp .lt 19, 3) := by decide +kernel
theorem dX1_refusesAccount_24 : decode cX1_refusesAccount 24 = .ok (.iload_n 1, 1) := by decide +kernel
theorem dX1_refusesAccount_25 : decode cX1_refusesAccount 25 = .ok (.sipush 9999, 3) := by decide +kernel
theorem dX1_refusesAccount_28 : decode cX1_refusesAccount 28 = .ok (.if_icmp .gt 12, 3) := by decide +kernel
theorem dX1_refusesAccount_31 : decode cX1_refusesAccount 31 = .ok (.iload_n 2, 1) := by decide +kernel
theorem dX1_refusesAccount_32 : decode cX1_refusesAccount 32 = .ok (.ifCond .lt 8, 3) := by decide +kernel
theorem dX1_refusesAccount_35 : decode cX1_refusesAccount 35 = .ok (.iload_n 2, 1) := by decide +kernel
theorem dX1_refusesAccount_36 : decode cX1_refusesAccount 36 = .ok (.iconst 5, 1) := by decide +kernel
theorem dX1_refusesAccount_37 : decode cX1_refusesAccount 37 = .ok (.if_icmp .lt 6, 3) := by decide +kernel
theorem dX1_refusesAccount_40 : decode cX1_refusesAccount 40 = .ok (.bipush (-3), 2) := by decide +kernel
theorem dX1_refusesAccount_42 : decode cX1_refusesAccount 42 = .ok (.ireturn, 1) := by decide +kernel
theorem dX1_refusesAccount_43 : decode cX1_refusesAccount 43 = .ok (.iload_n 3, 1) := by decide +kernel
theorem dX1_refusesAccount_44 : decode cX1_refusesAccount 44 = .ok (.iconst (-1), 1) := by decide +kernel
theorem dX1_refusesAccount_45 : decode cX1_refusesAccount 45 = .ok (.if_icmp .eq 18, 3) := by decide +kernel
theorem dX1_refusesAccount_48 : decode cX1_refusesAccount 48 = .ok (.aload_n 0, 1) := by decide +kernel
theorem dX1_refusesAccount_49 : decode cX1_refusesAccount 49 = .ok (.getfield 12, 3) := by decide +kernel
theorem dX1_refusesAccount_52 : decode cX1_refusesAccount 52 = .ok (.iload_n 3, 1) := by decide +kernel
theorem dX1_refusesAccount_53 : decode cX1_refusesAccount 53 = .ok (.iload_n 2, 1) := by decide +kernel
theorem dX1_refusesAccount_54 : decode cX1_refusesAccount 54 = .ok (.invokevirtual 54, 3) := by decide +kernel
theorem dX1_refusesAccount_57 : decode cX1_refusesAccount 57 = .ok (.ifCond .ne 6, 3) := by decide +kernel
theorem dX1_refusesAccount_60 : decode cX1_refusesAccount 60 = .ok (.bipush (-4), 2) := by decide +kernel
theorem dX1_refusesAccount_62 : decode cX1_refusesAccount 62 = .ok (.ireturn, 1) := by decide +kernel
theorem dX1_refusesAccount_63 : decode cX1_refusesAccount 63 = .ok (.aload_n 0, 1) := by decide +kernel
theorem dX1_refusesAccount_64 : decode cX1_refusesAccount 64 = .ok (.getfield 12, 3) := by decide +kernel
theorem dX1_refusesAccount_67 : decode cX1_refusesAccount 67 = .ok (.iload_n 1, 1) := by decide +kernel
theorem dX1_refusesAccount_68 : decode cX1_refusesAccount 68 = .ok (.invokevirtual 58, 3) := by decide +kernel
theorem dX1_refusesAccount_71 : decode cX1_refusesAccount 71 = .ok (.ifCond .eq 6, 3) := by decide +kernel
theorem dX1_refusesAccount_74 : decode cX1_refusesAccount 74 = .ok (.bipush (-5), 2) := by decide +kernel
theorem dX1_refusesAccount_76 : decode cX1_refusesAccount 76 = .ok (.ireturn, 1) := by decide +kernel
theorem dX1_refusesAccount_77 : decode cX1_refusesAccount 77 = .ok (.aload_n 0, 1) := by decide +kernel
theorem dX1_refusesAccount_78 : decode cX1_refusesAccount 78 = .ok (.getfield 12, 3) := by decide +kernel
theorem dX1_refusesAccount_81 : decode cX1_refusesAccount 81 = .ok (.getfield 61, 3) := by decide +kernel
theorem dX1_refusesAccount_84 : decode cX1_refusesAccount 84 = .ok (.bipush 60, 2) := by decide +kernel
theorem dX1_refusesAccount_86 : decode cX1_refusesAccount 86 = .ok (.if_icmp .lt 8, 3) := by decide +kernel
theorem dX1_refusesAccount_89 : decode cX1_refusesAccount 89 = .ok (.bipush (-13), 2) := by decide +kernel
theorem dX1_refusesAccount_91 : decode cX1_refusesAccount 91 = .ok (.goto 4, 3) := by decide +kernel
theorem dX1_refusesAccount_94 : decode cX1_refusesAccount 94 = .ok (.iconst 0, 1) := by decide +kernel
theorem dX1_refusesAccount_95 : decode cX1_refusesAccount 95 = .ok (.ireturn, 1) := by decide +kernel
theorem dX1_refusesShut_0 : decode cX1_refusesShut 0 = .ok (.aload_n 0, 1) := by decide +kernel
theorem dX1_refusesShut_1 : decode cX1_refusesShut 1 = .ok (.getfield 12, 3) := by decide +kernel
theorem dX1_refusesShut_4 : decode cX1_refusesShut 4 = .ok (.iload_n 1, 1) := by decide +kernel
theorem dX1_refusesShut_5 : decode cX1_refusesShut 5 = .ok (.invokevirtual 50, 3) := by decide +kernel
theorem dX1_refusesShut_8 : decode cX1_refusesShut 8 = .ok (.ifCond .ne 6, 3) := by decide +kernel
theorem dX1_refusesShut_11 : decode cX1_refusesShut 11 = .ok (.bipush (-2), 2) := by decide +kernel
theorem dX1_refusesShut_13 : decode cX1_refusesShut 13 = .ok (.ireturn, 1) := by decide +kernel
theorem dX1_refusesShut_14 : decode cX1_refusesShut 14 = .ok (.aload_n 0, 1) := by decide +kernel
theorem dX1_refusesShut_15 : decode cX1_refusesShut 15 = .ok (.getfield 12, 3) := by decide +kernel
theorem dX1_refusesShut_18 : decode cX1_refusesShut 18 = .ok (.iload_n 1, 1) := by decide +kernel
theorem dX1_refusesShut_19 : decode cX1_refusesShut 19 = .ok (.invokevirtual 64, 3) := by decide +kernel
theorem dX1_refusesShut_22 : decode cX1_refusesShut 22 = .ok (.ifCond .ne 6, 3) := by decide +kernel
theorem dX1_refusesShut_25 : decode cX1_refusesShut 25 = .ok (.bipush (-4), 2) := by decide +kernel
theorem dX1_refusesShut_27 : decode cX1_refusesShut 27 = .ok (.ireturn, 1) := by decide +kernel
theorem dX1_refusesShut_28 : decode cX1_refusesShut 28 = .ok (.aload_n 0, 1) := by decide +kernel
theorem dX1_refusesShut_29 : decode cX1_refusesShut 29 = .ok (.getfield 12, 3) := by decide +kernel
theorem dX1_refusesShut_32 : decode cX1_refusesShut 32 = .ok (.iload_n 1, 1) := by decide +kernel
theorem dX1_refusesShut_33 : decode cX1_refusesShut 33 = .ok (.invokevirtual 67, 3) := by decide +kernel
theorem dX1_refusesShut_36 : decode cX1_refusesShut 36 = .ok (.iload_n 2, 1) := by decide +kernel
theorem dX1_refusesShut_37 : decode cX1_refusesShut 37 = .ok (.if_icmp .ne 8, 3) := by decide +kernel
theorem dX1_refusesShut_40 : decode cX1_refusesShut 40 = .ok (.bipush (-6), 2) := by decide +kernel
theorem dX1_refusesShut_42 : decode cX1_refusesShut 42 = .ok (.goto 4, 3) := by decide +kernel
theorem dX1_refusesShut_45 : decode cX1_refusesShut 45 = .ok (.iconst 0, 1) := by decide +kernel
theorem dX1_refusesShut_46 : decode cX1_refusesShut 46 = .ok (.ireturn, 1) := by decide +kernel
theorem dX1_refusesPeriod_0 : decode cX1_refusesPeriod 0 = .ok (.iload_n 1, 1) := by decide +kernel
theorem dX1_refusesPeriod_1 : decode cX1_refusesPeriod 1 = .ok (.aload_n 0, 1) := by decide +kernel
theorem dX1_refusesPeriod_2 : decode cX1_refusesPeriod 2 = .ok (.getfield 21, 3) := by decide +kernel
theorem dX1_refusesPeriod_5 : decode cX1_refusesPeriod 5 = .ok (.invokevirtual 70, 3) := by decide +kernel
theorem dX1_refusesPeriod_8 : decode cX1_refusesPeriod 8 = .ok (.if_icmp .lt 10, 3) := by decide +kernel
theorem dX1_refusesPeriod_11 : decode cX1_refusesPeriod 11 = .ok (.iload_n 1, 1) := by decide +kernel
theorem dX1_refusesPeriod_12 : decode cX1_refusesPeriod 12 = .ok (.sipush 9999, 3) := by decide +kernel
theorem dX1_refusesPeriod_15 : decode cX1_refusesPeriod 15 = .ok (.if_icmp .le 6, 3) := by decide +kernel
theorem dX1_refusesPeriod_18 : decode cX1_refusesPeriod 18 = .ok (.bipush (-3), 2) := by decide +kernel
theorem dX1_refusesPeriod_20 : decode cX1_refusesPeriod 20 = .ok (.ireturn, 1) := by decide +kernel
theorem dX1_refusesPeriod_21 : decode cX1_refusesPeriod 21 = .ok (.aload_n 0, 1) := by decide +kernel
theorem dX1_refusesPeriod_22 : decode cX1_refusesPeriod 22 = .ok (.getfield 21, 3) := by decide +kernel
theorem dX1_refusesPeriod_25 : decode cX1_refusesPeriod 25 = .ok (.getfield 74, 3) := by decide +kernel
theorem dX1_refusesPeriod_28 : decode cX1_refusesPeriod 28 = .ok (.bipush 24, 2) := by decide +kernel
theorem dX1_refusesPeriod_30 : decode cX1_refusesPeriod 30 = .ok (.if_icmp .lt 8, 3) := by decide +kernel
theorem dX1_refusesPeriod_33 : decode cX1_refusesPeriod 33 = .ok (.bipush (-13), 2) := by decide +kernel
theorem dX1_refusesPeriod_35 : decode cX1_refusesPeriod 35 = .ok (.goto 4, 3) := by decide +kernel
theorem dX1_refusesPeriod_38 : decode cX1_refusesPeriod 38 = .ok (.iconst 0, 1) := by decide +kernel
theorem dX1_refusesPeriod_39 : decode cX1_refusesPeriod 39 = .ok (.ireturn, 1) := by decide +kernel
theorem dX1_refusesOwner_0 : decode cX1_refusesOwner 0 = .ok (.aload_n 0, 1) := by decide +kernel
theorem dX1_refusesOwner_1 : decode cX1_refusesOwner 1 = .ok (.getfield 12, 3) := by decide +kernel
theorem dX1_refusesOwner_4 : decode cX1_refusesOwner 4 = .ok (.iload_n 1, 1) := by decide +kernel
theorem dX1_refusesOwner_5 : decode cX1_refusesOwner 5 = .ok (.invokevirtual 50, 3) := by decide +kernel
theorem dX1_refusesOwner_8 : decode cX1_refusesOwner 8 = .ok (.ifCond .ne 6, 3) := by decide +kernel
theorem dX1_refusesOwner_11 : decode cX1_refusesOwner 11 = .ok (.bipush (-2), 2) := by decide +kernel
theorem dX1_refusesOwner_13 : decode cX1_refusesOwner 13 = .ok (.ireturn, 1) := by decide +kernel
theorem dX1_refusesOwner_14 : decode cX1_refusesOwner 14 = .ok (.aload_n 0, 1) := by decide +kernel
theorem dX1_refusesOwner_15 : decode cX1_refusesOwner 15 = .ok (.getfield 12, 3) := by decide +kernel
theorem dX1_refusesOwner_18 : decode cX1_refusesOwner 18 = .ok (.iload_n 1, 1) := by decide +kernel
theorem dX1_refusesOwner_19 : decode cX1_refusesOwner 19 = .ok (.invokevirtual 64, 3) := by decide +kernel
theorem dX1_refusesOwner_22 : decode cX1_refusesOwner 22 = .ok (.ifCond .eq 22, 3) := by decide +kernel
theorem dX1_refusesOwner_25 : decode cX1_refusesOwner 25 = .ok (.aload_n 0, 1) := by decide +kernel
theorem dX1_refusesOwner_26 : decode cX1_refusesOwner 26 = .ok (.getfield 12, 3) := by decide +kernel
theorem dX1_refusesOwner_29 : decode cX1_refusesOwner 29 = .ok (.getfield 75, 3) := by decide +kernel
theorem dX1_refusesOwner_32 : decode cX1_refusesOwner 32 = .ok (.iload_n 1, 1) := by decide +kernel
theorem dX1_refusesOwner_33 : decode cX1_refusesOwner 33 = .ok (.invokevirtual 79, 3) := by decide +kernel
theorem dX1_refusesOwner_36 : decode cX1_refusesOwner 36 = .ok (.iconst 2, 1) := by decide +kernel
theorem dX1_refusesOwner_37 : decode cX1_refusesOwner 37 = .ok (.if_icmp .ne 7, 3) := by decide +kernel
theorem dX1_refusesOwner_40 : decode cX1_refusesOwner 40 = .ok (.iconst 0, 1) := by decide +kernel
theorem dX1_refusesOwner_41 : decode cX1_refusesOwner 41 = .ok (.goto 5, 3) := by decide +kernel
theorem dX1_refusesOwner_44 : decode cX1_refusesOwner 44 = .ok (.bipush (-4), 2) := by decide +kernel
theorem dX1_refusesOwner_46 : decode cX1_refusesOwner 46 = .ok (.ireturn, 1) := by decide +kernel
theorem dX1_changeOwner_0 : decode cX1_changeOwner 0 = .ok (.aload_n 0, 1) := by decide +kernel
theorem dX1_changeOwner_1 : decode cX1_changeOwner 1 = .ok (.getfield 32, 3) := by decide +kernel
theorem dX1_changeOwner_4 : decode cX1_changeOwner 4 = .ok (.istore_n 2, 1) := by decide +kernel
theorem dX1_changeOwner_5 : decode cX1_changeOwner 5 = .ok (.aload_n 0, 1) := by decide +kernel
theorem dX1_changeOwner_6 : decode cX1_changeOwner 6 = .ok (.iload_n 1, 1) := by decide +kernel
theorem dX1_changeOwner_7 : decode cX1_changeOwner 7 = .ok (.putfield 32, 3) := by decide +kernel
theorem dX1_changeOwner_10 : decode cX1_changeOwner 10 = .ok (.iload_n 2, 1) := by decide +kernel
theorem dX1_changeOwner_11 : decode cX1_changeOwner 11 = .ok (.ireturn, 1) := by decide +kernel
theorem dX1_refusesLine_0 : decode cX1_refusesLine 0 = .ok (.aload_n 0, 1) := by decide +kernel
theorem dX1_refusesLine_1 : decode cX1_refusesLine 1 = .ok (.getfield 12, 3) := by decide +kernel
theorem dX1_refusesLine_4 : decode cX1_refusesLine 4 = .ok (.iload_n 1, 1) := by decide +kernel
theorem dX1_refusesLine_5 : decode cX1_refusesLine 5 = .ok (.invokevirtual 50, 3) := by decide +kernel
theorem dX1_refusesLine_8 : decode cX1_refusesLine 8 = .ok (.ifCond .ne 6, 3) := by decide +kernel
theorem dX1_refusesLine_11 : decode cX1_refusesLine 11 = .ok (.bipush (-2), 2) := by decide +kernel
theorem dX1_refusesLine_13 : decode cX1_refusesLine 13 = .ok (.ireturn, 1) := by decide +kernel
theorem dX1_refusesLine_14 : decode cX1_refusesLine 14 = .ok (.lload_n 2, 1) := by decide +kernel
theorem dX1_refusesLine_15 : decode cX1_refusesLine 15 = .ok (.invokestatic 85, 3) := by decide +kernel
theorem dX1_refusesLine_18 : decode cX1_refusesLine 18 = .ok (.ifCond .ne 6, 3) := by decide +kernel
theorem dX1_refusesLine_21 : decode cX1_refusesLine 21 = .ok (.bipush (-3), 2) := by decide +kernel
theorem dX1_refusesLine_23 : decode cX1_refusesLine 23 = .ok (.ireturn, 1) := by decide +kernel
theorem dX1_refusesLine_24 : decode cX1_refusesLine 24 = .ok (.aload_n 0, 1) := by decide +kernel
theorem dX1_refusesLine_25 : decode cX1_refusesLine 25 = .ok (.getfield 12, 3) := by decide +kernel
theorem dX1_refusesLine_28 : decode cX1_refusesLine 28 = .ok (.iload_n 1, 1) := by decide +kernel
theorem dX1_refusesLine_29 : decode cX1_refusesLine 29 = .ok (.invokevirtual 64, 3) := by decide +kernel
theorem dX1_refusesLine_32 : decode cX1_refusesLine 32 = .ok (.ifCond .eq 7, 3) := by decide +kernel
theorem dX1_refusesLine_35 : decode cX1_refusesLine 35 = .ok (.iconst 0, 1) := by decide +kernel
theorem dX1_refusesLine_36 : decode cX1_refusesLine 36 = .ok (.goto 5, 3) := by decide +kernel
theorem dX1_refusesLine_39 : decode cX1_refusesLine 39 = .ok (.bipush (-4), 2) := by decide +kernel
theorem dX1_refusesLine_41 : decode cX1_refusesLine 41 = .ok (.ireturn, 1) := by decide +kernel
theorem dX1_judge_0 : decode cX1_judge 0 = .ok (.aload_n 1, 1) := by decide +kernel
theorem dX1_judge_1 : decode cX1_judge 1 = .ok (.getfield 89, 3) := by decide +kernel
theorem dX1_judge_4 : decode cX1_judge 4 = .ok (.iconst 2, 1) := by decide +kernel
theorem dX1_judge_5 : decode cX1_judge 5 = .ok (.if_icmp .ge 6, 3) := by decide +kernel
theorem dX1_judge_8 : decode cX1_judge 8 = .ok (.bipush (-7), 2) := by decide +kernel
theorem dX1_judge_10 : decode cX1_judge 10 = .ok (.ireturn, 1) := by decide +kernel
theorem dX1_judge_11 : decode cX1_judge 11 = .ok (.aload_n 1, 1) := by decide +kernel
theorem dX1_judge_12 : decode cX1_judge 12 = .ok (.invokevirtual 92, 3) := by decide +kernel
theorem dX1_judge_15 : decode cX1_judge 15 = .ok (.lconst 0, 1) := by decide +kernel
theorem dX1_judge_16 : decode cX1_judge 16 = .ok (.lcmp, 1) := by decide +kernel
theorem dX1_judge_17 : decode cX1_judge 17 = .ok (.ifCond .eq 6, 3) := by decide +kernel
theorem dX1_judge_20 : decode cX1_judge 20 = .ok (.bipush (-8), 2) := by decide +kernel
theorem dX1_judge_22 : decode cX1_judge 22 = .ok (.ireturn, 1) := by decide +kernel
theorem dX1_judge_23 : decode cX1_judge 23 = .ok (.aload_n 0, 1) := by decide +kernel
theorem dX1_judge_24 : decode cX1_judge 24 = .ok (.getfield 21, 3) := by decide +kernel
theorem dX1_judge_27 : decode cX1_judge 27 = .ok (.iload_n 2, 1) := by decide +kernel
theorem dX1_judge_28 : decode cX1_judge 28 = .ok (.invokevirtual 96, 3) := by decide +kernel
theorem dX1_judge_31 : decode cX1_judge 31 = .ok (.istore_n 3, 1) := by decide +kernel
theorem dX1_judge_32 : decode cX1_judge 32 = .ok (.iload_n 3, 1) := by decide +kernel
theorem dX1_judge_33 : decode cX1_judge 33 = .ok (.iconst (-1), 1) := by decide +kernel
theorem dX1_judge_34 : decode cX1_judge 34 = .ok (.if_icmp .ne 6, 3) := by decide +kernel
theorem dX1_judge_37 : decode cX1_judge 37 = .ok (.bipush (-9), 2) := by decide +kernel
theorem dX1_judge_39 : decode cX1_judge 39 = .ok (.ireturn, 1) := by decide +kernel
theorem dX1_judge_40 : decode cX1_judge 40 = .ok (.iload_n 3, 1) := by decide +kernel
theorem dX1_judge_41 : decode cX1_judge 41 = .ok (.aload_n 0, 1) := by decide +kernel
theorem dX1_judge_42 : decode cX1_judge 42 = .ok (.getfield 21, 3) := by decide +kernel
theorem dX1_judge_45 : decode cX1_judge 45 = .ok (.getfield 99, 3) := by decide +kernel
theorem dX1_judge_48 : decode cX1_judge 48 = .ok (.if_icmp .ge 6, 3) := by decide +kernel
theorem dX1_judge_51 : decode cX1_judge 51 = .ok (.bipush (-10), 2) := by decide +kernel
theorem dX1_judge_53 : decode cX1_judge 53 = .ok (.ireturn, 1) := by decide +kernel
theorem dX1_judge_54 : decode cX1_judge 54 = .ok (.aload_n 0, 1) := by decide +kernel
theorem dX1_judge_55 : decode cX1_judge 55 = .ok (.aload_n 1, 1) := by decide +kernel
theorem dX1_judge_56 : decode cX1_judge 56 = .ok (.invokevirtual 102, 3) := by decide +kernel
theorem dX1_judge_59 : decode cX1_judge 59 = .ok (.ifCond .eq 8, 3) := by decide +kernel
theorem dX1_judge_62 : decode cX1_judge 62 = .ok (.bipush (-11), 2) := by decide +kernel
theorem dX1_judge_64 : decode cX1_judge 64 = .ok (.goto 8, 3) := by decide +kernel
theorem dX1_judge_67 : decode cX1_judge 67 = .ok (.aload_n 0, 1) := by decide +kernel
theorem dX1_judge_68 : decode cX1_judge 68 = .ok (.aload_n 1, 1) := by decide +kernel
theorem dX1_judge_69 : decode cX1_judge 69 = .ok (.invokevirtual 106, 3) := by decide +kernel
theorem dX1_judge_72 : decode cX1_judge 72 = .ok (.ireturn, 1) := by decide +kernel
theorem dX1_refusesUnjudged_0 : decode cX1_refusesUnjudged 0 = .ok (.aload_n 0, 1) := by decide +kernel
theorem dX1_refusesUnjudged_1 : decode cX1_refusesUnjudged 1 = .ok (.aload_n 1, 1) := by decide +kernel
theorem dX1_refusesUnjudged_2 : decode cX1_refusesUnjudged 2 = .ok (.invokevirtual 110, 3) := by decide +kernel
theorem dX1_refusesUnjudged_5 : decode cX1_refusesUnjudged 5 = .ok (.ifCond .eq 6, 3) := by decide +kernel
theorem dX1_refusesUnjudged_8 : decode cX1_refusesUnjudged 8 = .ok (.bipush (-12), 2) := by decide +kernel
theorem dX1_refusesUnjudged_10 : decode cX1_refusesUnjudged 10 = .ok (.ireturn, 1) := by decide +kernel
theorem dX1_refusesUnjudged_11 : decode cX1_refusesUnjudged 11 = .ok (.aload_n 1, 1) := by decide +kernel
theorem dX1_refusesUnjudged_12 : decode cX1_refusesUnjudged 12 = .ok (.getfield 89, 3) := by decide +kernel
theorem dX1_refusesUnjudged_15 : decode cX1_refusesUnjudged 15 = .ok (.ifCond .le 21, 3) := by decide +kernel
theorem dX1_refusesUnjudged_18 : decode cX1_refusesUnjudged 18 = .ok (.aload_n 0, 1) := by decide +kernel
theorem dX1_refusesUnjudged_19 : decode cX1_refusesUnjudged 19 = .ok (.getfield 28, 3) := by decide +kernel
theorem dX1_refusesUnjudged_22 : decode cX1_refusesUnjudged 22 = .ok (.getfield 113, 3) := by decide +kernel
theorem dX1_refusesUnjudged_25 : decode cX1_refusesUnjudged 25 = .ok (.sipush 400, 3) := by decide +kernel
theorem dX1_refusesUnjudged_28 : decode cX1_refusesUnjudged 28 = .ok (.if_icmp .lt 8, 3) := by decide +kernel
theorem dX1_refusesUnjudged_31 : decode cX1_refusesUnjudged 31 = .ok (.bipush (-13), 2) := by decide +kernel
theorem dX1_refusesUnjudged_33 : decode cX1_refusesUnjudged 33 = .ok (.goto 4, 3) := by decide +kernel
theorem dX1_refusesUnjudged_36 : decode cX1_refusesUnjudged 36 = .ok (.iconst 0, 1) := by decide +kernel
theorem dX1_refusesUnjudged_37 : decode cX1_refusesUnjudged 37 = .ok (.ireturn, 1) := by decide +kernel
theorem dX1_hasShut_0 : decode cX1_hasShut 0 = .ok (.iconst 0, 1) := by decide +kernel
theorem dX1_hasShut_1 : decode cX1_hasShut 1 = .ok (.istore_n 2, 1) := by decide +kernel
theorem dX1_hasShut_2 : decode cX1_hasShut 2 = .ok (.iload_n 2, 1) := by decide +kernel
theorem dX1_hasShut_3 : decode cX1_hasShut 3 = .ok (.aload_n 1, 1) := by decide +kernel
theorem dX1_hasShut_4 : decode cX1_hasShut 4 = .ok (.getfield 89, 3) := by decide +kernel
theorem dX1_hasShut_7 : decode cX1_hasShut 7 = .ok (.if_icmp .ge 29, 3) := by decide +kernel
theorem dX1_hasShut_10 : decode cX1_hasShut 10 = .ok (.aload_n 0, 1) := by decide +kernel
theorem dX1_hasShut_11 : decode cX1_hasShut 11 = .ok (.getfield 12, 3) := by decide +kernel
theorem dX1_hasShut_14 : decode cX1_hasShut 14 = .ok (.aload_n 1, 1) := by decide +kernel
theorem dX1_hasShut_15 : decode cX1_hasShut 15 = .ok (.getfield 114, 3) := by decide +kernel
theorem dX1_hasShut_18 : decode cX1_hasShut 18 = .ok (.iload_n 2, 1) := by decide +kernel
theorem dX1_hasShut_19 : decode cX1_hasShut 19 = .ok (.invokevirtual 79, 3) := by decide +kernel
theorem dX1_hasShut_22 : decode cX1_hasShut 22 = .ok (.invokevirtual 67, 3) := by decide +kernel
theorem dX1_hasShut_25 : decode cX1_hasShut 25 = .ok (.ifCond .eq 5, 3) := by decide +kernel
theorem dX1_hasShut_28 : decode cX1_hasShut 28 = .ok (.iconst 1, 1) := by decide +kernel
theorem dX1_hasShut_29 : decode cX1_hasShut 29 = .ok (.ireturn, 1) := by decide +kernel
theorem dX1_hasShut_30 : decode cX1_hasShut 30 = .ok (.iinc 2 1, 3) := by decide +kernel
theorem dX1_hasShut_33 : decode cX1_hasShut 33 = .ok (.goto (-31), 3) := by decide +kernel
theorem dX1_hasShut_36 : decode cX1_hasShut 36 = .ok (.iconst 0, 1) := by decide +kernel
theorem dX1_hasShut_37 : decode cX1_hasShut 37 = .ok (.ireturn, 1) := by decide +kernel
theorem dX1_goesOver_0 : decode cX1_goesOver 0 = .ok (.aload_n 0, 1) := by decide +kernel
theorem dX1_goesOver_1 : decode cX1_goesOver 1 = .ok (.getfield 41, 3) := by decide +kernel
theorem dX1_goesOver_4 : decode cX1_goesOver 4 = .ok (.invokevirtual 116, 3) := by decide +kernel
theorem dX1_goesOver_7 : decode cX1_goesOver 7 = .ok (.iconst 0, 1) := by decide +kernel
theorem dX1_goesOver_8 : decode cX1_goesOver 8 = .ok (.istore_n 2, 1) := by decide +kernel
theorem dX1_goesOver_9 : decode cX1_goesOver 9 = .ok (.iload_n 2, 1) := by decide +kernel
theorem dX1_goesOver_10 : decode cX1_goesOver 10 = .ok (.aload_n 1, 1) := by decide +kernel
theorem dX1_goesOver_11 : decode cX1_goesOver 11 = .ok (.getfield 89, 3) := by decide +kernel
theorem dX1_goesOver_14 : decode cX1_goesOver 14 = .ok (.if_icmp .ge 32, 3) := by decide +kernel
theorem dX1_goesOver_17 : decode cX1_goesOver 17 = .ok (.aload_n 0, 1) := by decide +kernel
theorem dX1_goesOver_18 : decode cX1_goesOver 18 = .ok (.getfield 41, 3) := by decide +kernel
theorem dX1_goesOver_21 : decode cX1_goesOver 21 = .ok (.aload_n 1, 1) := by decide +kernel
theorem dX1_goesOver_22 : decode cX1_goesOver 22 = .ok (.getfield 114, 3) := by decide +kernel
theorem dX1_goesOver_25 : decode cX1_goesOver 25 = .ok (.iload_n 2, 1) := by decide +kernel
theorem dX1_goesOver_26 : decode cX1_goesOver 26 = .ok (.invokevirtual 79, 3) := by decide +kernel
theorem dX1_goesOver_29 : decode cX1_goesOver 29 = .ok (.aload_n 1, 1) := by decide +kernel
theorem dX1_goesOver_30 : decode cX1_goesOver 30 = .ok (.getfield 117, 3) := by decide +kernel
theorem dX1_goesOver_33 : decode cX1_goesOver 33 = .ok (.iload_n 2, 1) := by decide +kernel
theorem dX1_goesOver_34 : decode cX1_goesOver 34 = .ok (.invokevirtual 120, 3) := by decide +kernel
theorem dX1_goesOver_37 : decode cX1_goesOver 37 = .ok (.invokevirtual 123, 3) := by decide +kernel
theorem dX1_goesOver_40 : decode cX1_goesOver 40 = .ok (.iinc 2 1, 3) := by decide +kernel
theorem dX1_goesOver_43 : decode cX1_goesOver 43 = .ok (.goto (-34), 3) := by decide +kernel
theorem dX1_goesOver_46 : decode cX1_goesOver 46 = .ok (.iconst 0, 1) := by decide +kernel
theorem dX1_goesOver_47 : decode cX1_goesOver 47 = .ok (.istore_n 2, 1) := by decide +kernel
theorem dX1_goesOver_48 : decode cX1_goesOver 48 = .ok (.iload_n 2, 1) := by decide +kernel
theorem dX1_goesOver_49 : decode cX1_goesOver 49 = .ok (.aload_n 1, 1) := by decide +kernel
theorem dX1_goesOver_50 : decode cX1_goesOver 50 = .ok (.getfield 89, 3) := by decide +kernel
theorem dX1_goesOver_53 : decode cX1_goesOver 53 = .ok (.if_icmp .ge 49, 3) := by decide +kernel
theorem dX1_goesOver_56 : decode cX1_goesOver 56 = .ok (.aload_n 1, 1) := by decide +kernel
theorem dX1_goesOver_57 : decode cX1_goesOver 57 = .ok (.getfield 114, 3) := by decide +kernel
theorem dX1_goesOver_60 : decode cX1_goesOver 60 = .ok (.iload_n 2, 1) := by decide +kernel
theorem dX1_goesOver_61 : decode cX1_goesOver 61 = .ok (.invokevirtual 79, 3) := by decide +kernel
theorem dX1_goesOver_64 : decode cX1_goesOver 64 = .ok (.istore_n 3, 1) := by decide +kernel
theorem dX1_goesOver_65 : decode cX1_goesOver 65 = .ok (.aload_n 0, 1) := by decide +kernel
theorem dX1_goesOver_66 : decode cX1_goesOver 66 = .ok (.getfield 12, 3) := by decide +kernel
theorem dX1_goesOver_69 : decode cX1_goesOver 69 = .ok (.getfield 127, 3) := by decide +kernel
theorem dX1_goesOver_72 : decode cX1_goesOver 72 = .ok (.iload_n 3, 1) := by decide +kernel
theorem dX1_goesOver_73 : decode cX1_goesOver 73 = .ok (.invokevirtual 120, 3) := by decide +kernel
theorem dX1_goesOver_76 : decode cX1_goesOver 76 = .ok (.aload_n 0, 1) := by decide +kernel
theorem dX1_goesOver_77 : decode cX1_goesOver 77 = .ok (.getfield 41, 3) := by decide +kernel
theorem dX1_goesOver_80 : decode cX1_goesOver 80 = .ok (.iload_n 3, 1) := by decide +kernel
theorem dX1_goesOver_81 : decode cX1_goesOver 81 = .ok (.invokevirtual 120, 3) := by decide +kernel
theorem dX1_goesOver_84 : decode cX1_goesOver 84 = .ok (.ladd, 1) := by decide +kernel
theorem dX1_goesOver_85 : decode cX1_goesOver 85 = .ok (.ldc2_w 130, 3) := by decide +kernel
theorem dX1_goesOver_88 : decode cX1_goesOver 88 = .ok (.invokestatic 132, 3) := by decide +kernel
theorem dX1_goesOver_91 : decode cX1_goesOver 91 = .ok (.ifCond .ne 5, 3) := by decide +kernel
theorem dX1_goesOver_94 : decode cX1_goesOver 94 = .ok (.iconst 1, 1) := by decide +kernel
theorem dX1_goesOver_95 : decode cX1_goesOver 95 = .ok (.ireturn, 1) := by decide +kernel
theorem dX1_goesOver_96 : decode cX1_goesOver 96 = .ok (.iinc 2 1, 3) := by decide +kernel
theorem dX1_goesOver_99 : decode cX1_goesOver 99 = .ok (.goto (-51), 3) := by decide +kernel
theorem dX1_goesOver_102 : decode cX1_goesOver 102 = .ok (.iconst 0, 1) := by decide +kernel
theorem dX1_goesOver_103 : decode cX1_goesOver 103 = .ok (.ireturn, 1) := by decide +kernel
theorem dX1_enter_0 : decode cX1_enter 0 = .ok (.iconst 0, 1) := by decide +kernel
theorem dX1_enter_1 : decode cX1_enter 1 = .ok (.istore 6, 2) := by decide +kernel
theorem dX1_enter_3 : decode cX1_enter 3 = .ok (.iload 6, 2) := by decide +kernel
theorem dX1_enter_5 : decode cX1_enter 5 = .ok (.aload_n 1, 1) := by decide +kernel
theorem dX1_enter_6 : decode cX1_enter 6 = .ok (.getfield 89, 3) := by decide +kernel
theorem dX1_enter_9 : decode cX1_enter 9 = .ok (.if_icmp .ge 34, 3) := by decide +kernel
theorem dX1_enter_12 : decode cX1_enter 12 = .ok (.aload_n 0, 1) := by decide +kernel
theorem dX1_enter_13 : decode cX1_enter 13 = .ok (.getfield 12, 3) := by decide +kernel
theorem dX1_enter_16 : decode cX1_enter 16 = .ok (.aload_n 1, 1) := by decide +kernel
theorem dX1_enter_17 : decode cX1_enter 17 = .ok (.getfield 114, 3) := by decide +kernel
theorem dX1_enter_20 : decode cX1_enter 20 = .ok (.iload 6, 2) := by decide +kernel
theorem dX1_enter_22 : decode cX1_enter 22 = .ok (.invokevirtual 79, 3) := by decide +kernel
theorem dX1_enter_25 : decode cX1_enter 25 = .ok (.aload_n 1, 1) := by decide +kernel
theorem dX1_enter_26 : decode cX1_enter 26 = .ok (.getfield 117, 3) := by decide +kernel
theorem dX1_enter_29 : decode cX1_enter 29 = .ok (.iload 6, 2) := by decide +kernel
theorem dX1_enter_31 : decode cX1_enter 31 = .ok (.invokevirtual 120, 3) := by decide +kernel
theorem dX1_enter_34 : decode cX1_enter 34 = .ok (.invokevirtual 136, 3) := by decide +kernel
theorem dX1_enter_37 : decode cX1_enter 37 = .ok (.iinc 6 1, 3) := by decide +kernel
theorem dX1_enter_40 : decode cX1_enter 40 = .ok (.goto (-37), 3) := by decide +kernel
theorem dX1_enter_43 : decode cX1_enter 43 = .ok (.aload_n 0, 1) := by decide +kernel
theorem dX1_enter_44 : decode cX1_enter 44 = .ok (.getfield 28, 3) := by decide +kernel
theorem dX1_enter_47 : decode cX1_enter 47 = .ok (.aload_n 1, 1) := by decide +kernel
theorem dX1_enter_48 : decode cX1_enter 48 = .ok (.iload_n 2, 1) := by decide +kernel
theorem dX1_enter_49 : decode cX1_enter 49 = .ok (.iload_n 3, 1) := by decide +kernel
theorem dX1_enter_50 : decode cX1_enter 50 = .ok (.iload 4, 2) := by decide +kernel
theorem dX1_enter_52 : decode cX1_enter 52 = .ok (.iload 5, 2) := by decide +kernel
theorem dX1_enter_54 : decode cX1_enter 54 = .ok (.invokevirtual 139, 3) := by decide +kernel
theorem dX1_enter_57 : decode cX1_enter 57 = .ok (.ireturn, 1) := by decide +kernel
theorem dX1_refusesBack_0 : decode cX1_refusesBack 0 = .ok (.aload_n 0, 1) := by decide +kernel
theorem dX1_refusesBack_1 : decode cX1_refusesBack 1 = .ok (.getfield 28, 3) := by decide +kernel
theorem dX1_refusesBack_4 : decode cX1_refusesBack 4 = .ok (.iload_n 1, 1) := by decide +kernel
theorem dX1_refusesBack_5 : decode cX1_refusesBack 5 = .ok (.invokevirtual 143, 3) := by decide +kernel
theorem dX1_refusesBack_8 : decode cX1_refusesBack 8 = .ok (.ifCond .ne 6, 3) := by decide +kernel
theorem dX1_refusesBack_11 : decode cX1_refusesBack 11 = .ok (.bipush (-2), 2) := by decide +kernel
theorem dX1_refusesBack_13 : decode cX1_refusesBack 13 = .ok (.ireturn, 1) := by decide +kernel
theorem dX1_refusesBack_14 : decode cX1_refusesBack 14 = .ok (.aload_n 0, 1) := by decide +kernel
theorem dX1_refusesBack_15 : decode cX1_refusesBack 15 = .ok (.getfield 28, 3) := by decide +kernel
theorem dX1_refusesBack_18 : decode cX1_refusesBack 18 = .ok (.getfield 144, 3) := by decide +kernel
theorem dX1_refusesBack_21 : decode cX1_refusesBack 21 = .ok (.iload_n 1, 1) := by decide +kernel
theorem dX1_refusesBack_22 : decode cX1_refusesBack 22 = .ok (.invokevirtual 79, 3) := by decide +kernel
theorem dX1_refusesBack_25 : decode cX1_refusesBack 25 = .ok (.ifCond .eq 6, 3) := by decide +kernel
theorem dX1_refusesBack_28 : decode cX1_refusesBack 28 = .ok (.bipush (-4), 2) := by decide +kernel
theorem dX1_refusesBack_30 : decode cX1_refusesBack 30 = .ok (.ireturn, 1) := by decide +kernel
theorem dX1_refusesBack_31 : decode cX1_refusesBack 31 = .ok (.aload_n 0, 1) := by decide +kernel
theorem dX1_refusesBack_32 : decode cX1_refusesBack 32 = .ok (.getfield 28, 3) := by decide +kernel
theorem dX1_refusesBack_35 : decode cX1_refusesBack 35 = .ok (.getfield 147, 3) := by decide +kernel
theorem dX1_refusesBack_38 : decode cX1_refusesBack 38 = .ok (.iload_n 1, 1) := by decide +kernel
theorem dX1_refusesBack_39 : decode cX1_refusesBack 39 = .ok (.invokevirtual 79, 3) := by decide +kernel
theorem dX1_refusesBack_42 : decode cX1_refusesBack 42 = .ok (.iconst (-1), 1) := by decide +kernel
theorem dX1_refusesBack_43 : decode cX1_refusesBack 43 = .ok (.if_icmp .eq 6, 3) := by decide +kernel
theorem dX1_refusesBack_46 : decode cX1_refusesBack 46 = .ok (.bipush (-5), 2) := by decide +kernel
theorem dX1_refusesBack_48 : decode cX1_refusesBack 48 = .ok (.ireturn, 1) := by decide +kernel
theorem dX1_refusesBack_49 : decode cX1_refusesBack 49 = .ok (.aload_n 0, 1) := by decide +kernel
theorem dX1_refusesBack_50 : decode cX1_refusesBack 50 = .ok (.getfield 28, 3) := by decide +kernel
theorem dX1_refusesBack_53 : decode cX1_refusesBack 53 = .ok (.iload_n 1, 1) := by decide +kernel
theorem dX1_refusesBack_54 : decode cX1_refusesBack 54 = .ok (.aload_n 3, 1) := by decide +kernel
theorem dX1_refusesBack_55 : decode cX1_refusesBack 55 = .ok (.invokevirtual 150, 3) := by decide +kernel
theorem dX1_refusesBack_58 : decode cX1_refusesBack 58 = .ok (.aload_n 0, 1) := by decide +kernel
theorem dX1_refusesBack_59 : decode cX1_refusesBack 59 = .ok (.aload_n 3, 1) := by decide +kernel
theorem dX1_refusesBack_60 : decode cX1_refusesBack 60 = .ok (.iload_n 2, 1) := by decide +kernel
theorem dX1_refusesBack_61 : decode cX1_refusesBack 61 = .ok (.invokevirtual 154, 3) := by decide +kernel
theorem dX1_refusesBack_64 : decode cX1_refusesBack 64 = .ok (.ireturn, 1) := by decide +kernel
theorem dX1_turnBack_0 : decode cX1_turnBack 0 = .ok (.aload_n 0, 1) := by decide +kernel
theorem dX1_turnBack_1 : decode cX1_turnBack 1 = .ok (.aload_n 3, 1) := by decide +kernel
theorem dX1_turnBack_2 : decode cX1_turnBack 2 = .ok (.iload_n 2, 1) := by decide +kernel
theorem dX1_turnBack_3 : decode cX1_turnBack 3 = .ok (.aload_n 0, 1) := by decide +kernel
theorem dX1_turnBack_4 : decode cX1_turnBack 4 = .ok (.getfield 28, 3) := by decide +kernel
theorem dX1_turnBack_7 : decode cX1_turnBack 7 = .ok (.getfield 158, 3) := by decide +kernel
theorem dX1_turnBack_10 : decode cX1_turnBack 10 = .ok (.iload_n 1, 1) := by decide +kernel
theorem dX1_turnBack_11 : decode cX1_turnBack 11 = .ok (.invokevirtual 79, 3) := by decide +kernel
theorem dX1_turnBack_14 : decode cX1_turnBack 14 = .ok (.iconst 1, 1) := by decide +kernel
theorem dX1_turnBack_15 : decode cX1_turnBack 15 = .ok (.iload_n 1, 1) := by decide +kernel
theorem dX1_turnBack_16 : decode cX1_turnBack 16 = .ok (.invokevirtual 161, 3) := by decide +kernel
theorem dX1_turnBack_19 : decode cX1_turnBack 19 = .ok (.istore 4, 2) := by decide +kernel
theorem dX1_turnBack_21 : decode cX1_turnBack 21 = .ok (.aload_n 0, 1) := by decide +kernel
theorem dX1_turnBack_22 : decode cX1_turnBack 22 = .ok (.getfield 28, 3) := by decide +kernel
theorem dX1_turnBack_25 : decode cX1_turnBack 25 = .ok (.getfield 147, 3) := by decide +kernel
theorem dX1_turnBack_28 : decode cX1_turnBack 28 = .ok (.iload_n 1, 1) := by decide +kernel
theorem dX1_turnBack_29 : decode cX1_turnBack 29 = .ok (.iload 4, 2) := by decide +kernel
theorem dX1_turnBack_31 : decode cX1_turnBack 31 = .ok (.invokevirtual 164, 3) := by decide +kernel
theorem dX1_turnBack_34 : decode cX1_turnBack 34 = .ok (.iload 4, 2) := by decide +kernel
theorem dX1_turnBack_36 : decode cX1_turnBack 36 = .ok (.ireturn, 1) := by decide +kernel
theorem dX1_refusesClose_0 : decode cX1_refusesClose 0 = .ok (.aload_n 0, 1) := by decide +kernel
theorem dX1_refusesClose_1 : decode cX1_refusesClose 1 = .ok (.getfield 21, 3) := by decide +kernel
theorem dX1_refusesClose_4 : decode cX1_refusesClose 4 = .ok (.getfield 99, 3) := by decide +kernel
theorem dX1_refusesClose_7 : decode cX1_refusesClose 7 = .ok (.aload_n 0, 1) := by decide +kernel
theorem dX1_refusesClose_8 : decode cX1_refusesClose 8 = .ok (.getfield 21, 3) := by decide +kernel
theorem dX1_refusesClose_11 : decode cX1_refusesClose 11 = .ok (.getfield 74, 3) := by decide +kernel
theorem dX1_refusesClose_14 : decode cX1_refusesClose 14 = .ok (.if_icmp .ge 11, 3) := by decide +kernel
theorem dX1_refusesClose_17 : decode cX1_refusesClose 17 = .ok (.aload_n 0, 1) := by decide +kernel
theorem dX1_refusesClose_18 : decode cX1_refusesClose 18 = .ok (.getfield 32, 3) := by decide +kernel
theorem dX1_refusesClose_21 : decode cX1_refusesClose 21 = .ok (.iconst (-1), 1) := by decide +kernel
theorem dX1_refusesClose_22 : decode cX1_refusesClose 22 = .ok (.if_icmp .ne 6, 3) := by decide +kernel
theorem dX1_refusesClose_25 : decode cX1_refusesClose 25 = .ok (.bipush (-6), 2) := by decide +kernel
theorem dX1_refusesClose_27 : decode cX1_refusesClose 27 = .ok (.ireturn, 1) := by decide +kernel
theorem dX1_refusesClose_28 : decode cX1_refusesClose 28 = .ok (.aload_n 0, 1) := by decide +kernel
theorem dX1_refusesClose_29 : decode cX1_refusesClose 29 = .ok (.aload_n 0, 1) := by decide +kernel
theorem dX1_refusesClose_30 : decode cX1_refusesClose 30 = .ok (.getfield 21, 3) := by decide +kernel
theorem dX1_refusesClose_33 : decode cX1_refusesClose 33 = .ok (.getfield 99, 3) := by decide +kernel
theorem dX1_refusesClose_36 : decode cX1_refusesClose 36 = .ok (.aload_n 1, 1) := by decide +kernel
theorem dX1_refusesClose_37 : decode cX1_refusesClose 37 = .ok (.invokevirtual 168, 3) := by decide +kernel
theorem dX1_refusesClose_40 : decode cX1_refusesClose 40 = .ok (.aload_n 0, 1) := by decide +kernel
theorem dX1_refusesClose_41 : decode cX1_refusesClose 41 = .ok (.aload_n 1, 1) := by decide +kernel
theorem dX1_refusesClose_42 : decode cX1_refusesClose 42 = .ok (.invokevirtual 106, 3) := by decide +kernel
theorem dX1_refusesClose_45 : decode cX1_refusesClose 45 = .ok (.ireturn, 1) := by decide +kernel
theorem dX1_fillClosing_0 : decode cX1_fillClosing 0 = .ok (.aload_n 0, 1) := by decide +kernel
theorem dX1_fillClosing_1 : decode cX1_fillClosing 1 = .ok (.getfield 28, 3) := by decide +kernel
theorem dX1_fillClosing_4 : decode cX1_fillClosing 4 = .ok (.aload_n 0, 1) := by decide +kernel
theorem dX1_fillClosing_5 : decode cX1_fillClosing 5 = .ok (.getfield 21, 3) := by decide +kernel
theorem dX1_fillClosing_8 : decode cX1_fillClosing 8 = .ok (.iload_n 1, 1) := by decide +kernel
theorem dX1_fillClosing_9 : decode cX1_fillClosing 9 = .ok (.invokevirtual 171, 3) := by decide +kernel
theorem dX1_fillClosing_12 : decode cX1_fillClosing 12 = .ok (.aload_n 0, 1) := by decide +kernel
theorem dX1_fillClosing_13 : decode cX1_fillClosing 13 = .ok (.getfield 21, 3) := by decide +kernel
theorem dX1_fillClosing_16 : decode cX1_fillClosing 16 = .ok (.iload_n 1, 1) := by decide +kernel
theorem dX1_fillClosing_17 : decode cX1_fillClosing 17 = .ok (.invokevirtual 174, 3) := by decide +kernel
theorem dX1_fillClosing_20 : decode cX1_fillClosing 20 = .ok (.aload_n 0, 1) := by decide +kernel
theorem dX1_fillClosing_21 : decode cX1_fillClosing 21 = .ok (.getfield 41, 3) := by decide +kernel
theorem dX1_fillClosing_24 : decode cX1_fillClosing 24 = .ok (.invokevirtual 177, 3) := by decide +kernel
theorem dX1_fillClosing_27 : decode cX1_fillClosing 27 = .ok (.aload_n 2, 1) := by decide +kernel
theorem dX1_fillClosing_28 : decode cX1_fillClosing 28 = .ok (.invokevirtual 181, 3) := by decide +kernel
theorem dX1_fillClosing_31 : decode cX1_fillClosing 31 = .ok (.iconst 0, 1) := by decide +kernel
theorem dX1_fillClosing_32 : decode cX1_fillClosing 32 = .ok (.istore_n 3, 1) := by decide +kernel
theorem dX1_fillClosing_33 : decode cX1_fillClosing 33 = .ok (.iload_n 3, 1) := by decide +kernel
theorem dX1_fillClosing_34 : decode cX1_fillClosing 34 = .ok (.aload_n 0, 1) := by decide +kernel
theorem dX1_fillClosing_35 : decode cX1_fillClosing 35 = .ok (.getfield 12, 3) := by decide +kernel
theorem dX1_fillClosing_38 : decode cX1_fillClosing 38 = .ok (.getfield 61, 3) := by decide +kernel
theorem dX1_fillClosing_41 : decode cX1_fillClosing 41 = .ok (.if_icmp .ge 61, 3) := by decide +kernel
theorem dX1_fillClosing_44 : decode cX1_fillClosing 44 = .ok (.aload_n 0, 1) := by decide +kernel
theorem dX1_fillClosing_45 : decode cX1_fillClosing 45 = .ok (.getfield 12, 3) := by decide +kernel
theorem dX1_fillClosing_48 : decode cX1_fillClosing 48 = .ok (.getfield 182, 3) := by decide +kernel
theorem dX1_fillClosing_51 : decode cX1_fillClosing 51 = .ok (.iload_n 3, 1) := by decide +kernel
theorem dX1_fillClosing_52 : decode cX1_fillClosing 52 = .ok (.invokevirtual 79, 3) := by decide +kernel
theorem dX1_fillClosing_55 : decode cX1_fillClosing 55 = .ok (.istore 4, 2) := by decide +kernel
theorem dX1_fillClosing_57 : decode cX1_fillClosing 57 = .ok (.aload_n 0, 1) := by decide +kernel
theorem dX1_fillClosing_58 : decode cX1_fillClosing 58 = .ok (.iload 4, 2) := by decide +kernel
theorem dX1_fillClosing_60 : decode cX1_fillClosing 60 = .ok (.invokevirtual 185, 3) := by decide +kernel
theorem dX1_fillClosing_63 : decode cX1_fillClosing 63 = .ok (.ifCond .eq 33, 3) := by decide +kernel
theorem dX1_fillClosing_66 : decode cX1_fillClosing 66 = .ok (.aload_n 0, 1) := by decide +kernel
theorem dX1_fillClosing_67 : decode cX1_fillClosing 67 = .ok (.getfield 41, 3) := by decide +kernel
theorem dX1_fillClosing_70 : decode cX1_fillClosing 70 = .ok (.iload 4, 2) := by decide +kernel
theorem dX1_fillClosing_72 : decode cX1_fillClosing 72 = .ok (.invokevirtual 120, 3) := by decide +kernel
theorem dX1_fillClosing_75 : decode cX1_fillClosing 75 = .ok (.lconst 0, 1) := by decide +kernel
theorem dX1_fillClosing_76 : decode cX1_fillClosing 76 = .ok (.lcmp, 1) := by decide +kernel
theorem dX1_fillClosing_77 : decode cX1_fillClosing 77 = .ok (.ifCond .eq 19, 3) := by decide +kernel
theorem dX1_fillClosing_80 : decode cX1_fillClosing 80 = .ok (.aload_n 2, 1) := by decide +kernel
theorem dX1_fillClosing_81 : decode cX1_fillClosing 81 = .ok (.iload 4, 2) := by decide +kernel
theorem dX1_fillClosing_83 : decode cX1_fillClosing 83 = .ok (.aload_n 0, 1) := by decide +kernel
theorem dX1_fillClosing_84 : decode cX1_fillClosing 84 = .ok (.getfield 41, 3) := by decide +kernel
theorem dX1_fillClosing_87 : decode cX1_fillClosing 87 = .ok (.iload 4, 2) := by decide +kernel
theorem dX1_fillClosing_89 : decode cX1_fillClosing 89 = .ok (.invokevirtual 120, 3) := by decide +kernel
theorem dX1_fillClosing_92 : decode cX1_fillClosing 92 = .ok (.lneg, 1) := by decide +kernel
theorem dX1_fillClosing_93 : decode cX1_fillClosing 93 = .ok (.invokevirtual 188, 3) := by decide +kernel
theorem dX1_fillClosing_96 : decode cX1_fillClosing 96 = .ok (.iinc 3 1, 3) := by decide +kernel
theorem dX1_fillClosing_99 : decode cX1_fillClosing 99 = .ok (.goto (-66), 3) := by decide +kernel
theorem dX1_fillClosing_102 : decode cX1_fillClosing 102 = .ok (.aload_n 2, 1) := by decide +kernel
theorem dX1_fillClosing_103 : decode cX1_fillClosing 103 = .ok (.invokevirtual 92, 3) := by decide +kernel
theorem dX1_fillClosing_106 : decode cX1_fillClosing 106 = .ok (.lstore_n 3, 1) := by decide +kernel
theorem dX1_fillClosing_107 : decode cX1_fillClosing 107 = .ok (.lload_n 3, 1) := by decide +kernel
theorem dX1_fillClosing_108 : decode cX1_fillClosing 108 = .ok (.lconst 0, 1) := by decide +kernel
theorem dX1_fillClosing_109 : decode cX1_fillClosing 109 = .ok (.lcmp, 1) := by decide +kernel
theorem dX1_fillClosing_110 : decode cX1_fillClosing 110 = .ok (.ifCond .eq 13, 3) := by decide +kernel
theorem dX1_fillClosing_113 : decode cX1_fillClosing 113 = .ok (.aload_n 2, 1) := by decide +kernel
theorem dX1_fillClosing_114 : decode cX1_fillClosing 114 = .ok (.aload_n 0, 1) := by decide +kernel
theorem dX1_fillClosing_115 : decode cX1_fillClosing 115 = .ok (.getfield 32, 3) := by decide +kernel
theorem dX1_fillClosing_118 : decode cX1_fillClosing 118 = .ok (.lload_n 3, 1) := by decide +kernel
theorem dX1_fillClosing_119 : decode cX1_fillClosing 119 = .ok (.lneg, 1) := by decide +kernel
theorem dX1_fillClosing_120 : decode cX1_fillClosing 120 = .ok (.invokevirtual 188, 3) := by decide +kernel
theorem dX1_fillClosing_123 : decode cX1_fillClosing 123 = .ok (.return_, 1) := by decide +kernel
theorem dX1_isClosedOut_0 : decode cX1_isClosedOut 0 = .ok (.aload_n 0, 1) := by decide +kernel
theorem dX1_isClosedOut_1 : decode cX1_isClosedOut 1 = .ok (.getfield 12, 3) := by decide +kernel
theorem dX1_isClosedOut_4 : decode cX1_isClosedOut 4 = .ok (.getfield 75, 3) := by decide +kernel
theorem dX1_isClosedOut_7 : decode cX1_isClosedOut 7 = .ok (.iload_n 1, 1) := by decide +kernel
theorem dX1_isClosedOut_8 : decode cX1_isClosedOut 8 = .ok (.invokevirtual 79, 3) := by decide +kernel
theorem dX1_isClosedOut_11 : decode cX1_isClosedOut 11 = .ok (.istore_n 2, 1) := by decide +kernel
theorem dX1_isClosedOut_12 : decode cX1_isClosedOut 12 = .ok (.aload_n 0, 1) := by decide +kernel
theorem dX1_isClosedOut_13 : decode cX1_isClosedOut 13 = .ok (.getfield 12, 3) := by decide +kernel
theorem dX1_isClosedOut_16 : decode cX1_isClosedOut 16 = .ok (.iload_n 1, 1) := by decide +kernel
theorem dX1_isClosedOut_17 : decode cX1_isClosedOut 17 = .ok (.invokevirtual 64, 3) := by decide +kernel
theorem dX1_isClosedOut_20 : decode cX1_isClosedOut 20 = .ok (.ifCond .eq 17, 3) := by decide +kernel
theorem dX1_isClosedOut_23 : decode cX1_isClosedOut 23 = .ok (.iload_n 2, 1) := by decide +kernel
theorem dX1_isClosedOut_24 : decode cX1_isClosedOut 24 = .ok (.iconst 3, 1) := by decide +kernel
theorem dX1_isClosedOut_25 : decode cX1_isClosedOut 25 = .ok (.if_icmp .eq 8, 3) := by decide +kernel
theorem dX1_isClosedOut_28 : decode cX1_isClosedOut 28 = .ok (.iload_n 2, 1) := by decide +kernel
theorem dX1_isClosedOut_29 : decode cX1_isClosedOut 29 = .ok (.iconst 4, 1) := by decide +kernel
theorem dX1_isClosedOut_30 : decode cX1_isClosedOut 30 = .ok (.if_icmp .ne 7, 3) := by decide +kernel
theorem dX1_isClosedOut_33 : decode cX1_isClosedOut 33 = .ok (.iconst 1, 1) := by decide +kernel
theorem dX1_isClosedOut_34 : decode cX1_isClosedOut 34 = .ok (.goto 4, 3) := by decide +kernel
theorem dX1_isClosedOut_37 : decode cX1_isClosedOut 37 = .ok (.iconst 0, 1) := by decide +kernel
theorem dX1_isClosedOut_38 : decode cX1_isClosedOut 38 = .ok (.ireturn, 1) := by decide +kernel
theorem dX1_closePeriod_0 : decode cX1_closePeriod 0 = .ok (.aload_n 0, 1) := by decide +kernel
theorem dX1_closePeriod_1 : decode cX1_closePeriod 1 = .ok (.getfield 21, 3) := by decide +kernel
theorem dX1_closePeriod_4 : decode cX1_closePeriod 4 = .ok (.getfield 99, 3) := by decide +kernel
theorem dX1_closePeriod_7 : decode cX1_closePeriod 7 = .ok (.istore_n 2, 1) := by decide +kernel
theorem dX1_closePeriod_8 : decode cX1_closePeriod 8 = .ok (.iconst (-1), 1) := by decide +kernel
theorem dX1_closePeriod_9 : decode cX1_closePeriod 9 = .ok (.istore_n 3, 1) := by decide +kernel
theorem dX1_closePeriod_10 : decode cX1_closePeriod 10 = .ok (.aload_n 1, 1) := by decide +kernel
theorem dX1_closePeriod_11 : decode cX1_closePeriod 11 = .ok (.getfield 89, 3) := by decide +kernel
theorem dX1_closePeriod_14 : decode cX1_closePeriod 14 = .ok (.ifCond .le 20, 3) := by decide +kernel
theorem dX1_closePeriod_17 : decode cX1_closePeriod 17 = .ok (.aload_n 0, 1) := by decide +kernel
theorem dX1_closePeriod_18 : decode cX1_closePeriod 18 = .ok (.aload_n 1, 1) := by decide +kernel
theorem dX1_closePeriod_19 : decode cX1_closePeriod 19 = .ok (.aload_n 0, 1) := by decide +kernel
theorem dX1_closePeriod_20 : decode cX1_closePeriod 20 = .ok (.getfield 21, 3) := by decide +kernel
theorem dX1_closePeriod_23 : decode cX1_closePeriod 23 = .ok (.iload_n 2, 1) := by decide +kernel
theorem dX1_closePeriod_24 : decode cX1_closePeriod 24 = .ok (.invokevirtual 174, 3) := by decide +kernel
theorem dX1_closePeriod_27 : decode cX1_closePeriod 27 = .ok (.iconst 0, 1) := by decide +kernel
theorem dX1_closePeriod_28 : decode cX1_closePeriod 28 = .ok (.iconst 2, 1) := by decide +kernel
theorem dX1_closePeriod_29 : decode cX1_closePeriod 29 = .ok (.iload_n 2, 1) := by decide +kernel
theorem dX1_closePeriod_30 : decode cX1_closePeriod 30 = .ok (.invokevirtual 161, 3) := by decide +kernel
theorem dX1_closePeriod_33 : decode cX1_closePeriod 33 = .ok (.istore_n 3, 1) := by decide +kernel
theorem dX1_closePeriod_34 : decode cX1_closePeriod 34 = .ok (.aload_n 0, 1) := by decide +kernel
theorem dX1_closePeriod_35 : decode cX1_closePeriod 35 = .ok (.getfield 21, 3) := by decide +kernel
theorem dX1_closePeriod_38 : decode cX1_closePeriod 38 = .ok (.iload_n 3, 1) := by decide +kernel
theorem dX1_closePeriod_39 : decode cX1_closePeriod 39 = .ok (.invokevirtual 190, 3) := by decide +kernel
theorem dX1_closePeriod_42 : decode cX1_closePeriod 42 = .ok (.iload_n 2, 1) := by decide +kernel
theorem dX1_closePeriod_43 : decode cX1_closePeriod 43 = .ok (.ireturn, 1) := by decide +kernel
theorem dX1_refusesReopen_0 : decode cX1_refusesReopen 0 = .ok (.aload_n 0, 1) := by decide +kernel
theorem dX1_refusesReopen_1 : decode cX1_refusesReopen 1 = .ok (.getfield 21, 3) := by decide +kernel
theorem dX1_refusesReopen_4 : decode cX1_refusesReopen 4 = .ok (.getfield 99, 3) := by decide +kernel
theorem dX1_refusesReopen_7 : decode cX1_refusesReopen 7 = .ok (.ifCond .gt 6, 3) := by decide +kernel
theorem dX1_refusesReopen_10 : decode cX1_refusesReopen 10 = .ok (.bipush (-6), 2) := by decide +kernel
theorem dX1_refusesReopen_12 : decode cX1_refusesReopen 12 = .ok (.ireturn, 1) := by decide +kernel
theorem dX1_refusesReopen_13 : decode cX1_refusesReopen 13 = .ok (.aload_n 1, 1) := by decide +kernel
theorem dX1_refusesReopen_14 : decode cX1_refusesReopen 14 = .ok (.invokevirtual 181, 3) := by decide +kernel
theorem dX1_refusesReopen_17 : decode cX1_refusesReopen 17 = .ok (.aload_n 0, 1) := by decide +kernel
theorem dX1_refusesReopen_18 : decode cX1_refusesReopen 18 = .ok (.getfield 21, 3) := by decide +kernel
theorem dX1_refusesReopen_21 : decode cX1_refusesReopen 21 = .ok (.aload_n 0, 1) := by decide +kernel
theorem dX1_refusesReopen_22 : decode cX1_refusesReopen 22 = .ok (.getfield 21, 3) := by decide +kernel
theorem dX1_refusesReopen_25 : decode cX1_refusesReopen 25 = .ok (.getfield 99, 3) := by decide +kernel
theorem dX1_refusesReopen_28 : decode cX1_refusesReopen 28 = .ok (.iconst 1, 1) := by decide +kernel
theorem dX1_refusesReopen_29 : decode cX1_refusesReopen 29 = .ok (.isub, 1) := by decide +kernel
theorem dX1_refusesReopen_30 : decode cX1_refusesReopen 30 = .ok (.invokevirtual 193, 3) := by decide +kernel
theorem dX1_refusesReopen_33 : decode cX1_refusesReopen 33 = .ok (.istore_n 2, 1) := by decide +kernel
theorem dX1_refusesReopen_34 : decode cX1_refusesReopen 34 = .ok (.iload_n 2, 1) := by decide +kernel
theorem dX1_refusesReopen_35 : decode cX1_refusesReopen 35 = .ok (.iconst (-1), 1) := by decide +kernel
theorem dX1_refusesReopen_36 : decode cX1_refusesReopen 36 = .ok (.if_icmp .eq 12, 3) := by decide +kernel
theorem dX1_refusesReopen_39 : decode cX1_refusesReopen 39 = .ok (.aload_n 0, 1) := by decide +kernel
theorem dX1_refusesReopen_40 : decode cX1_refusesReopen 40 = .ok (.getfield 28, 3) := by decide +kernel
theorem dX1_refusesReopen_43 : decode cX1_refusesReopen 43 = .ok (.iload_n 2, 1) := by decide +kernel
theorem dX1_refusesReopen_44 : decode cX1_refusesReopen 44 = .ok (.aload_n 1, 1) := by decide +kernel
theorem dX1_refusesReopen_45 : decode cX1_refusesReopen 45 = .ok (.invokevirtual 150, 3) := by decide +kernel
theorem dX1_refusesReopen_48 : decode cX1_refusesReopen 48 = .ok (.aload_n 0, 1) := by decide +kernel
theorem dX1_refusesReopen_49 : decode cX1_refusesReopen 49 = .ok (.aload_n 1, 1) := by decide +kernel
theorem dX1_refusesReopen_50 : decode cX1_refusesReopen 50 = .ok (.invokevirtual 106, 3) := by decide +kernel
theorem dX1_refusesReopen_53 : decode cX1_refusesReopen 53 = .ok (.ireturn, 1) := by decide +kernel
theorem dX1_reopenPeriod_0 : decode cX1_reopenPeriod 0 = .ok (.aload_n 0, 1) := by decide +kernel
theorem dX1_reopenPeriod_1 : decode cX1_reopenPeriod 1 = .ok (.getfield 21, 3) := by decide +kernel
theorem dX1_reopenPeriod_4 : decode cX1_reopenPeriod 4 = .ok (.getfield 99, 3) := by decide +kernel
theorem dX1_reopenPeriod_7 : decode cX1_reopenPeriod 7 = .ok (.iconst 1, 1) := by decide +kernel
theorem dX1_reopenPeriod_8 : decode cX1_reopenPeriod 8 = .ok (.isub, 1) := by decide +kernel
theorem dX1_reopenPeriod_9 : decode cX1_reopenPeriod 9 = .ok (.istore_n 2, 1) := by decide +kernel
theorem dX1_reopenPeriod_10 : decode cX1_reopenPeriod 10 = .ok (.aload_n 1, 1) := by decide +kernel
theorem dX1_reopenPeriod_11 : decode cX1_reopenPeriod 11 = .ok (.getfield 89, 3) := by decide +kernel
theorem dX1_reopenPeriod_14 : decode cX1_reopenPeriod 14 = .ok (.ifCond .le 20, 3) := by decide +kernel
theorem dX1_reopenPeriod_17 : decode cX1_reopenPeriod 17 = .ok (.aload_n 0, 1) := by decide +kernel
theorem dX1_reopenPeriod_18 : decode cX1_reopenPeriod 18 = .ok (.aload_n 1, 1) := by decide +kernel
theorem dX1_reopenPeriod_19 : decode cX1_reopenPeriod 19 = .ok (.aload_n 0, 1) := by decide +kernel
theorem dX1_reopenPeriod_20 : decode cX1_reopenPeriod 20 = .ok (.getfield 21, 3) := by decide +kernel
theorem dX1_reopenPeriod_23 : decode cX1_reopenPeriod 23 = .ok (.iload_n 2, 1) := by decide +kernel
theorem dX1_reopenPeriod_24 : decode cX1_reopenPeriod 24 = .ok (.invokevirtual 174, 3) := by decide +kernel
theorem dX1_reopenPeriod_27 : decode cX1_reopenPeriod 27 = .ok (.iconst 0, 1) := by decide +kernel
theorem dX1_reopenPeriod_28 : decode cX1_reopenPeriod 28 = .ok (.iconst 3, 1) := by decide +kernel
theorem dX1_reopenPeriod_29 : decode cX1_reopenPeriod 29 = .ok (.iload_n 2, 1) := by decide +kernel
theorem dX1_reopenPeriod_30 : decode cX1_reopenPeriod 30 = .ok (.invokevirtual 161, 3) := by decide +kernel
theorem dX1_reopenPeriod_33 : decode cX1_reopenPeriod 33 = .ok (.pop, 1) := by decide +kernel
theorem dX1_reopenPeriod_34 : decode cX1_reopenPeriod 34 = .ok (.aload_n 0, 1) := by decide +kernel
theorem dX1_reopenPeriod_35 : decode cX1_reopenPeriod 35 = .ok (.getfield 21, 3) := by decide +kernel
theorem dX1_reopenPeriod_38 : decode cX1_reopenPeriod 38 = .ok (.invokevirtual 196, 3) := by decide +kernel
theorem dX1_reopenPeriod_41 : decode cX1_reopenPeriod 41 = .ok (.iload_n 2, 1) := by decide +kernel
theorem dX1_reopenPeriod_42 : decode cX1_reopenPeriod 42 = .ok (.ireturn, 1) := by decide +kernel
theorem dX1_sumInDays_0 : decode cX1_sumInDays 0 = .ok (.aload_n 0, 1) := by decide +kernel
theorem dX1_sumInDays_1 : decode cX1_sumInDays 1 = .ok (.getfield 28, 3) := by decide +kernel
theorem dX1_sumInDays_4 : decode cX1_sumInDays 4 = .ok (.iload_n 2, 1) := by decide +kernel
theorem dX1_sumInDays_5 : decode cX1_sumInDays 5 = .ok (.iload_n 3, 1) := by decide +kernel
theorem dX1_sumInDays_6 : decode cX1_sumInDays 6 = .ok (.aload_n 0, 1) := by decide +kernel
theorem dX1_sumInDays_7 : decode cX1_sumInDays 7 = .ok (.getfield 41, 3) := by decide +kernel
theorem dX1_sumInDays_10 : decode cX1_sumInDays 10 = .ok (.invokevirtual 177, 3) := by decide +kernel
theorem dX1_sumInDays_13 : decode cX1_sumInDays 13 = .ok (.aload_n 0, 1) := by decide +kernel
theorem dX1_sumInDays_14 : decode cX1_sumInDays 14 = .ok (.getfield 12, 3) := by decide +kernel
theorem dX1_sumInDays_17 : decode cX1_sumInDays 17 = .ok (.iload_n 1, 1) := by decide +kernel
theorem dX1_sumInDays_18 : decode cX1_sumInDays 18 = .ok (.aload_n 0, 1) := by decide +kernel
theorem dX1_sumInDays_19 : decode cX1_sumInDays 19 = .ok (.getfield 41, 3) := by decide +kernel
theorem dX1_sumInDays_22 : decode cX1_sumInDays 22 = .ok (.invokevirtual 199, 3) := by decide +kernel
theorem dX1_sumInDays_25 : decode cX1_sumInDays 25 = .ok (.lreturn, 1) := by decide +kernel
theorem dX2_init_0 : decode cX2_init 0 = .ok (.aload_n 0, 1) := by decide +kernel
theorem dX2_init_1 : decode cX2_init 1 = .ok (.invokespecial 3, 3) := by decide +kernel
theorem dX2_init_4 : decode cX2_init 4 = .ok (.aload_n 0, 1) := by decide +kernel
theorem dX2_init_5 : decode cX2_init 5 = .ok (.new 9, 3) := by decide +kernel
theorem dX2_init_8 : decode cX2_init 8 = .ok (.dup, 1) := by decide +kernel
theorem dX2_init_9 : decode cX2_init 9 = .ok (.sipush 400, 3) := by decide +kernel
theorem dX2_init_12 : decode cX2_init 12 = .ok (.invokespecial 11, 3) := by decide +kernel
theorem dX2_init_15 : decode cX2_init 15 = .ok (.putfield 14, 3) := by decide +kernel
theorem dX2_init_18 : decode cX2_init 18 = .ok (.aload_n 0, 1) := by decide +kernel
theorem dX2_init_19 : decode cX2_init 19 = .ok (.new 9, 3) := by decide +kernel
theorem dX2_init_22 : decode cX2_init 22 = .ok (.dup, 1) := by decide +kernel
theorem dX2_init_23 : decode cX2_init 23 = .ok (.sipush 400, 3) := by decide +kernel
theorem dX2_init_26 : decode cX2_init 26 = .ok (.invokespecial 11, 3) := by decide +kernel
theorem dX2_init_29 : decode cX2_init 29 = .ok (.putfield 20, 3) := by decide +kernel
theorem dX2_init_32 : decode cX2_init 32 = .ok (.aload_n 0, 1) := by decide +kernel
theorem dX2_init_33 : decode cX2_init 33 = .ok (.new 9, 3) := by decide +kernel
theorem dX2_init_36 : decode cX2_init 36 = .ok (.dup, 1) := by decide +kernel
theorem dX2_init_37 : decode cX2_init 37 = .ok (.sipush 400, 3) := by decide +kernel
theorem dX2_init_40 : decode cX2_init 40 = .ok (.invokespecial 11, 3) := by decide +kernel
theorem dX2_init_43 : decode cX2_init 43 = .ok (.putfield 23, 3) := by decide +kernel
theorem dX2_init_46 : decode cX2_init 46 = .ok (.aload_n 0, 1) := by decide +kernel
theorem dX2_init_47 : decode cX2_init 47 = .ok (.new 9, 3) := by decide +kernel
theorem dX2_init_50 : decode cX2_init 50 = .ok (.dup, 1) := by decide +kernel
theorem dX2_init_51 : decode cX2_init 51 = .ok (.sipush 400, 3) := by decide +kernel
theorem dX2_init_54 : decode cX2_init 54 = .ok (.invokespecial 11, 3) := by decide +kernel
theorem dX2_init_57 : decode cX2_init 57 = .ok (.putfield 26, 3) := by decide +kernel
theorem dX2_init_60 : decode cX2_init 60 = .ok (.aload_n 0, 1) := by decide +kernel
theorem dX2_init_61 : decode cX2_init 61 = .ok (.new 9, 3) := by decide +kernel
theorem dX2_init_64 : decode cX2_init 64 = .ok (.dup, 1) := by decide +kernel
theorem dX2_init_65 : decode cX2_init 65 = .ok (.sipush 400, 3) := by decide +kernel
theorem dX2_init_68 : decode cX2_init 68 = .ok (.invokespecial 11, 3) := by decide +kernel
theorem dX2_init_71 : decode cX2_init 71 = .ok (.putfield 29, 3) := by decide +kernel
theorem dX2_init_74 : decode cX2_init 74 = .ok (.aload_n 0, 1) := by decide +kernel
theorem dX2_init_75 : decode cX2_init 75 = .ok (.new 9, 3) := by decide +kernel
theorem dX2_init_78 : decode cX2_init 78 = .ok (.dup, 1) := by decide +kernel
theorem dX2_init_79 : decode cX2_init 79 = .ok (.sipush 400, 3) := by decide +kernel
theorem dX2_init_82 : decode cX2_init 82 = .ok (.invokespecial 11, 3) := by decide +kernel
theorem dX2_init_85 : decode cX2_init 85 = .ok (.putfield 32, 3) := by decide +kernel
theorem dX2_init_88 : decode cX2_init 88 = .ok (.aload_n 0, 1) := by decide +kernel
theorem dX2_init_89 : decode cX2_init 89 = .ok (.new 9, 3) := by decide +kernel
theorem dX2_init_92 : decode cX2_init 92 = .ok (.dup, 1) := by decide +kernel
theorem dX2_init_93 : decode cX2_init 93 = .ok (.sipush 400, 3) := by decide +kernel
theorem dX2_init_96 : decode cX2_init 96 = .ok (.invokespecial 11, 3) := by decide +kernel
theorem dX2_init_99 : decode cX2_init 99 = .ok (.putfield 35, 3) := by decide +kernel
theorem dX2_init_102 : decode cX2_init 102 = .ok (.aload_n 0, 1) := by decide +kernel
theorem dX2_init_103 : decode cX2_init 103 = .ok (.new 9, 3) := by decide +kernel
theorem dX2_init_106 : decode cX2_init 106 = .ok (.dup, 1) := by decide +kernel
theorem dX2_init_107 : decode cX2_init 107 = .ok (.sipush 24000, 3) := by decide +kernel
theorem dX2_init_110 : decode cX2_init 110 = .ok (.invokespecial 11, 3) := by decide +kernel
theorem dX2_init_113 : decode cX2_init 113 = .ok (.putfield 38, 3) := by decide +kernel
theorem dX2_init_116 : decode cX2_init 116 = .ok (.aload_n 0, 1) := by decide +kernel
theorem dX2_init_117 : decode cX2_init 117 = .ok (.new 41, 3) := by decide +kernel
theorem dX2_init_120 : decode cX2_init 120 = .ok (.dup, 1) := by decide +kernel
theorem dX2_init_121 : decode cX2_init 121 = .ok (.sipush 24000, 3) := by decide +kernel
theorem dX2_init_124 : decode cX2_init 124 = .ok (.invokespecial 43, 3) := by decide +kernel
theorem dX2_init_127 : decode cX2_init 127 = .ok (.putfield 44, 3) := by decide +kernel
theorem dX2_init_130 : decode cX2_init 130 = .ok (.return_, 1) := by decide +kernel
theorem dX2_clear_0 : decode cX2_clear 0 = .ok (.aload_n 0, 1) := by decide +kernel
theorem dX2_clear_1 : decode cX2_clear 1 = .ok (.iconst 0, 1) := by decide +kernel
theorem dX2_clear_2 : decode cX2_clear 2 = .ok (.putfield 48, 3) := by decide +kernel
theorem dX2_clear_5 : decode cX2_clear 5 = .ok (.aload_n 0, 1) := by decide +kernel
theorem dX2_clear_6 : decode cX2_clear 6 = .ok (.iconst 0, 1) := by decide +kernel
theorem dX2_clear_7 : decode cX2_clear 7 = .ok (.putfield 52, 3) := by decide +kernel
theorem dX2_clear_10 : decode cX2_clear 10 = .ok (.return_, 1) := by decide +kernel
theorem dX2_has_0 : decode cX2_has 0 = .ok (.iload_n 1, 1) := by decide +kernel
theorem dX2_has_1 : decode cX2_has 1 = .ok (.ifCond .lt 15, 3) := by decide +kernel
theorem dX2_has_4 : decode cX2_has 4 = .ok (.iload_n 1, 1) := by decide +kernel
theorem dX2_has_5 : decode cX2_has 5 = .ok (.aload_n 0, 1) := by decide +kernel
theorem dX2_has_6 : decode cX2_has 6 = .ok (.getfield 48, 3) := by decide +kernel
theorem dX2_has_9 : decode cX2_has 9 = .ok (.if_icmp .ge 7, 3) := by decide +kernel
theorem dX2_has_12 : decode cX2_has 12 = .ok (.iconst 1, 1) := by decide +kernel
theorem dX2_has_13 : decode cX2_has 13 = .ok (.goto 4, 3) := by decide +kernel
theorem dX2_has_16 : decode cX2_has 16 = .ok (.iconst 0, 1) := by decide +kernel
theorem dX2_has_17 : decode cX2_has 17 = .ok (.ireturn, 1) := by decide +kernel
theorem dX2_add_0 : decode cX2_add 0 = .ok (.aload_n 0, 1) := by decide +kernel
theorem dX2_add_1 : decode cX2_add 1 = .ok (.getfield 48, 3) := by decide +kernel
theorem dX2_add_4 : decode cX2_add 4 = .ok (.istore 6, 2) := by decide +kernel
theorem dX2_add_6 : decode cX2_add 6 = .ok (.aload_n 0, 1) := by decide +kernel
theorem dX2_add_7 : decode cX2_add 7 = .ok (.getfield 14, 3) := by decide +kernel
theorem dX2_add_10 : decode cX2_add 10 = .ok (.iload 6, 2) := by decide +kernel
theorem dX2_add_12 : decode cX2_add 12 = .ok (.iload_n 2, 1) := by decide +kernel
theorem dX2_add_13 : decode cX2_add 13 = .ok (.invokevirtual 55, 3) := by decide +kernel
theorem dX2_add_16 : decode cX2_add 16 = .ok (.aload_n 0, 1) := by decide +kernel
theorem dX2_add_17 : decode cX2_add 17 = .ok (.getfield 20, 3) := by decide +kernel
theorem dX2_add_20 : decode cX2_add 20 = .ok (.iload 6, 2) := by decide +kernel
theorem dX2_add_22 : decode cX2_add 22 = .ok (.iload_n 3, 1) := by decide +kernel
theorem dX2_add_23 : decode cX2_add 23 = .ok (.invokevirtual 55, 3) := by decide +kernel
theorem dX2_add_26 : decode cX2_add 26 = .ok (.aload_n 0, 1) := by decide +kernel
theorem dX2_add_27 : decode cX2_add 27 = .ok (.getfield 23, 3) := by decide +kernel
theorem dX2_add_30 : decode cX2_add 30 = .ok (.iload 6, 2) := by decide +kernel
theorem dX2_add_32 : decode cX2_add 32 = .ok (.iload 4, 2) := by decide +kernel
theorem dX2_add_34 : decode cX2_add 34 = .ok (.invokevirtual 55, 3) := by decide +kernel
theorem dX2_add_37 : decode cX2_add 37 = .ok (.aload_n 0, 1) := by decide +kernel
theorem dX2_add_38 : decode cX2_add 38 = .ok (.getfield 29, 3) := by decide +kernel
theorem dX2_add_41 : decode cX2_add 41 = .ok (.iload 6, 2) := by decide +kernel
theorem dX2_add_43 : decode cX2_add 43 = .ok (.iconst (-1), 1) := by decide +kernel
theorem dX2_add_44 : decode cX2_add 44 = .ok (.invokevirtual 55, 3) := by decide +kernel
theorem dX2_add_47 : decode cX2_add 47 = .ok (.aload_n 0, 1) := by decide +kernel
theorem dX2_add_48 : decode cX2_add 48 = .ok (.getfield 32, 3) := by decide +kernel
theorem dX2_add_51 : decode cX2_add 51 = .ok (.iload 6, 2) := by decide +kernel
theorem dX2_add_53 : decode cX2_add 53 = .ok (.iload 5, 2) := by decide +kernel
theorem dX2_add_55 : decode cX2_add 55 = .ok (.invokevirtual 55, 3) := by decide +kernel
theorem dX2_add_58 : decode cX2_add 58 = .ok (.aload_n 0, 1) := by decide +kernel
theorem dX2_add_59 : decode cX2_add 59 = .ok (.getfield 35, 3) := by decide +kernel
theorem dX2_add_62 : decode cX2_add 62 = .ok (.iload 6, 2) := by decide +kernel
theorem dX2_add_64 : decode cX2_add 64 = .ok (.aload_n 0, 1) := by decide +kernel
theorem dX2_add_65 : decode cX2_add 65 = .ok (.getfield 52, 3) := by decide +kernel
theorem dX2_add_68 : decode cX2_add 68 = .ok (.invokevirtual 55, 3) := by decide +kernel
theorem dX2_add_71 : decode cX2_add 71 = .ok (.aload_n 0, 1) := by decide +kernel
theorem dX2_add_72 : decode cX2_add 72 = .ok (.getfield 26, 3) := by decide +kernel
theorem dX2_add_75 : decode cX2_add 75 = .ok (.iload 6, 2) := by decide +kernel
theorem dX2_add_77 : decode cX2_add 77 = .ok (.aload_n 1, 1) := by decide +kernel
theorem dX2_add_78 : decode cX2_add 78 = .ok (.getfield 59, 3) := by decide +kernel
theorem dX2_add_81 : decode cX2_add 81 = .ok (.invokevirtual 55, 3) := by decide +kernel
theorem dX2_add_84 : decode cX2_add 84 = .ok (.iconst 0, 1) := by decide +kernel
theorem dX2_add_85 : decode cX2_add 85 = .ok (.istore 7, 2) := by decide +kernel
theorem dX2_add_87 : decode cX2_add 87 = .ok (.iload 7, 2) := by decide +kernel
theorem dX2_add_89 : decode cX2_add 89 = .ok (.aload_n 1, 1) := by decide +kernel
theorem dX2_add_90 : decode cX2_add 90 = .ok (.getfield 59, 3) := by decide +kernel
theorem dX2_add_93 : decode cX2_add 93 = .ok (.if_icmp .ge 59, 3) := by decide +kernel
theorem dX2_add_96 : decode cX2_add 96 = .ok (.aload_n 0, 1) := by decide +kernel
theorem dX2_add_97 : decode cX2_add 97 = .ok (.getfield 38, 3) := by decide +kernel
theorem dX2_add_100 : decode cX2_add 100 = .ok (.aload_n 0, 1) := by decide +kernel
theorem dX2_add_101 : decode cX2_add 101 = .ok (.getfield 52, 3) := by decide +kernel
theorem dX2_add_104 : decode cX2_add 104 = .ok (.aload_n 1, 1) := by decide +kernel
theorem dX2_add_105 : decode cX2_add 105 = .ok (.getfield 62, 3) := by decide +kernel
theorem dX2_add_108 : decode cX2_add 108 = .ok (.iload 7, 2) := by decide +kernel
theorem dX2_add_110 : decode cX2_add 110 = .ok (.invokevirtual 65, 3) := by decide +kernel
theorem dX2_add_113 : decode cX2_add 113 = .ok (.invokevirtual 55, 3) := by decide +kernel
theorem dX2_add_116 : decode cX2_add 116 = .ok (.aload_n 0, 1) := by decide +kernel
theorem dX2_add_117 : decode cX2_add 117 = .ok (.getfield 44, 3) := by decide +kernel
theorem dX2_add_120 : decode cX2_add 120 = .ok (.aload_n 0, 1) := by decide +kernel
theorem dX2_add_121 : decode cX2_add 121 = .ok (.getfield 52, 3) := by decide +kernel
theorem dX2_add_124 : decode cX2_add 124 = .ok (.aload_n 1, 1) := by decide +kernel
theorem dX2_add_125 : decode cX2_add 125 = .ok (.getfield 69, 3) := by decide +kernel
theorem dX2_add_128 : decode cX2_add 128 = .ok (.iload 7, 2) := by decide +kernel
theorem dX2_add_130 : decode cX2_add 130 = .ok (.invokevirtual 72, 3) := by decide +kernel
theorem dX2_add_133 : decode cX2_add 133 = .ok (.invokevirtual 75, 3) := by decide +kernel
theorem dX2_add_136 : decode cX2_add 136 = .ok (.aload_n 0, 1) := by decide +kernel
theorem dX2_add_137 : decode cX2_add 137 = .ok (.dup, 1) := by decide +kernel
theorem dX2_add_138 : decode cX2_add 138 = .ok (.getfield 52, 3) := by decide +kernel
theorem dX2_add_141 : decode cX2_add 141 = .ok (.iconst 1, 1) := by decide +kernel
theorem dX2_add_142 : decode cX2_add 142 = .ok (.iadd, 1) := by decide +kernel
theorem dX2_add_143 : decode cX2_add 143 = .ok (.putfield 52, 3) := by decide +kernel
theorem dX2_add_146 : decode cX2_add 146 = .ok (.iinc 7 1, 3) := by decide +kernel
theorem dX2_add_149 : decode cX2_add 149 = .ok (.goto (-62), 3) := by decide +kernel
theorem dX2_add_152 : decode cX2_add 152 = .ok (.aload_n 0, 1) := by decide +kernel
theorem dX2_add_153 : decode cX2_add 153 = .ok (.dup, 1) := by decide +kernel
theorem dX2_add_154 : decode cX2_add 154 = .ok (.getfield 48, 3) := by decide +kernel
theorem dX2_add_157 : decode cX2_add 157 = .ok (.iconst 1, 1) := by decide +kernel
theorem dX2_add_158 : decode cX2_add 158 = .ok (.iadd, 1) := by decide +kernel
theorem dX2_add_159 : decode cX2_add 159 = .ok (.putfield 48, 3) := by decide +kernel
theorem dX2_add_162 : decode cX2_add 162 = .ok (.iload 6, 2) := by decide +kernel
theorem dX2_add_164 : decode cX2_add 164 = .ok (.ireturn, 1) := by decide +kernel
theorem dX2_accountOf_0 : decode cX2_accountOf 0 = .ok (.aload_n 0, 1) := by decide +kernel
theorem dX2_accountOf_1 : decode cX2_accountOf 1 = .ok (.getfield 38, 3) := by decide +kernel
theorem dX2_accountOf_4 : decode cX2_accountOf 4 = .ok (.aload_n 0, 1) := by decide +kernel
theorem dX2_accountOf_5 : decode cX2_accountOf 5 = .ok (.getfield 35, 3) := by decide +kernel
theorem dX2_accountOf_8 : decode cX2_accountOf 8 = .ok (.iload_n 1, 1) := by decide +kernel
theorem dX2_accountOf_9 : decode cX2_accountOf 9 = .ok (.invokevirtual 65, 3) := by decide +kernel
theorem dX2_accountOf_12 : decode cX2_accountOf 12 = .ok (.iload_n 2, 1) := by decide +kernel
theorem dX2_accountOf_13 : decode cX2_accountOf 13 = .ok (.iadd, 1) := by decide +kernel
theorem dX2_accountOf_14 : decode cX2_accountOf 14 = .ok (.invokevirtual 65, 3) := by decide +kernel
theorem dX2_accountOf_17 : decode cX2_accountOf 17 = .ok (.ireturn, 1) := by decide +kernel
theorem dX2_amountOf_0 : decode cX2_amountOf 0 = .ok (.aload_n 0, 1) := by decide +kernel
theorem dX2_amountOf_1 : decode cX2_amountOf 1 = .ok (.getfield 44, 3) := by decide +kernel
theorem dX2_amountOf_4 : decode cX2_amountOf 4 = .ok (.aload_n 0, 1) := by decide +kernel
theorem dX2_amountOf_5 : decode cX2_amountOf 5 = .ok (.getfield 35, 3) := by decide +kernel
theorem dX2_amountOf_8 : decode cX2_amountOf 8 = .ok (.iload_n 1, 1) := by decide +kernel
theorem dX2_amountOf_9 : decode cX2_amountOf 9 = .ok (.invokevirtual 65, 3) := by decide +kernel
theorem dX2_amountOf_12 : decode cX2_amountOf 12 = .ok (.iload_n 2, 1) := by decide +kernel
theorem dX2_amountOf_13 : decode cX2_amountOf 13 = .ok (.iadd, 1) := by decide +kernel
theorem dX2_amountOf_14 : decode cX2_amountOf 14 = .ok (.invokevirtual 72, 3) := by decide +kernel
theorem dX2_amountOf_17 : decode cX2_amountOf 17 = .ok (.lreturn, 1) := by decide +kernel
theorem dX2_turn_0 : decode cX2_turn 0 = .ok (.aload_n 2, 1) := by decide +kernel
theorem dX2_turn_1 : decode cX2_turn 1 = .ok (.invokevirtual 78, 3) := by decide +kernel
theorem dX2_turn_4 : decode cX2_turn 4 = .ok (.iconst 0, 1) := by decide +kernel
theorem dX2_turn_5 : decode cX2_turn 5 = .ok (.istore_n 3, 1) := by decide +kernel
theorem dX2_turn_6 : decode cX2_turn 6 = .ok (.iload_n 3, 1) := by decide +kernel
theorem dX2_turn_7 : decode cX2_turn 7 = .ok (.aload_n 0, 1) := by decide +kernel
theorem dX2_turn_8 : decode cX2_turn 8 = .ok (.getfield 26, 3) := by decide +kernel
theorem dX2_turn_11 : decode cX2_turn 11 = .ok (.iload_n 1, 1) := by decide +kernel
theorem dX2_turn_12 : decode cX2_turn 12 = .ok (.invokevirtual 65, 3) := by decide +kernel
theorem dX2_turn_15 : decode cX2_turn 15 = .ok (.if_icmp .ge 26, 3) := by decide +kernel
theorem dX2_turn_18 : decode cX2_turn 18 = .ok (.aload_n 2, 1) := by decide +kernel
theorem dX2_turn_19 : decode cX2_turn 19 = .ok (.aload_n 0, 1) := by decide +kernel
theorem dX2_turn_20 : decode cX2_turn 20 = .ok (.iload_n 1, 1) := by decide +kernel
theorem dX2_turn_21 : decode cX2_turn 21 = .ok (.iload_n 3, 1) := by decide +kernel
theorem dX2_turn_22 : decode cX2_turn 22 = .ok (.invokevirtual 81, 3) := by decide +kernel
theorem dX2_turn_25 : decode cX2_turn 25 = .ok (.aload_n 0, 1) := by decide +kernel
theorem dX2_turn_26 : decode cX2_turn 26 = .ok (.iload_n 1, 1) := by decide +kernel
theorem dX2_turn_27 : decode cX2_turn 27 = .ok (.iload_n 3, 1) := by decide +kernel
theorem dX2_turn_28 : decode cX2_turn 28 = .ok (.invokevirtual 85, 3) := by decide +kernel
theorem dX2_turn_31 : decode cX2_turn 31 = .ok (.lneg, 1) := by decide +kernel
theorem dX2_turn_32 : decode cX2_turn 32 = .ok (.invokevirtual 89, 3) := by decide +kernel
theorem dX2_turn_35 : decode cX2_turn 35 = .ok (.iinc 3 1, 3) := by decide +kernel
theorem dX2_turn_38 : decode cX2_turn 38 = .ok (.goto (-32), 3) := by decide +kernel
theorem dX2_turn_41 : decode cX2_turn 41 = .ok (.return_, 1) := by decide +kernel
theorem dX2_gather_0 : decode cX2_gather 0 = .ok (.aload_n 3, 1) := by decide +kernel
theorem dX2_gather_1 : decode cX2_gather 1 = .ok (.invokevirtual 92, 3) := by decide +kernel
theorem dX2_gather_4 : decode cX2_gather 4 = .ok (.iconst 0, 1) := by decide +kernel
theorem dX2_gather_5 : decode cX2_gather 5 = .ok (.istore 4, 2) := by decide +kernel
theorem dX2_gather_7 : decode cX2_gather 7 = .ok (.iload 4, 2) := by decide +kernel
theorem dX2_gather_9 : decode cX2_gather 9 = .ok (.aload_n 0, 1) := by decide +kernel
theorem dX2_gather_10 : decode cX2_gather 10 = .ok (.getfield 48, 3) := by decide +kernel
theorem dX2_gather_13 : decode cX2_gather 13 = .ok (.if_icmp .ge 78, 3) := by decide +kernel
theorem dX2_gather_16 : decode cX2_gather 16 = .ok (.aload_n 0, 1) := by decide +kernel
theorem dX2_gather_17 : decode cX2_gather 17 = .ok (.getfield 14, 3) := by decide +kernel
theorem dX2_gather_20 : decode cX2_gather 20 = .ok (.iload 4, 2) := by decide +kernel
theorem dX2_gather_22 : decode cX2_gather 22 = .ok (.invokevirtual 65, 3) := by decide +kernel
theorem dX2_gather_25 : decode cX2_gather 25 = .ok (.iload_n 1, 1) := by decide +kernel
theorem dX2_gather_26 : decode cX2_gather 26 = .ok (.if_icmp .lt 59, 3) := by decide +kernel
theorem dX2_gather_29 : decode cX2_gather 29 = .ok (.aload_n 0, 1) := by decide +kernel
theorem dX2_gather_30 : decode cX2_gather 30 = .ok (.getfield 14, 3) := by decide +kernel
theorem dX2_gather_33 : decode cX2_gather 33 = .ok (.iload 4, 2) := by decide +kernel
theorem dX2_gather_35 : decode cX2_gather 35 = .ok (.invokevirtual 65, 3) := by decide +kernel
theorem dX2_gather_38 : decode cX2_gather 38 = .ok (.iload_n 2, 1) := by decide +kernel
theorem dX2_gather_39 : decode cX2_gather 39 = .ok (.if_icmp .gt 46, 3) := by decide +kernel
theorem dX2_gather_42 : decode cX2_gather 42 = .ok (.iconst 0, 1) := by decide +kernel
theorem dX2_gather_43 : decode cX2_gather 43 = .ok (.istore 5, 2) := by decide +kernel
theorem dX2_gather_45 : decode cX2_gather 45 = .ok (.iload 5, 2) := by decide +kernel
theorem dX2_gather_47 : decode cX2_gather 47 = .ok (.aload_n 0, 1) := by decide +kernel
theorem dX2_gather_48 : decode cX2_gather 48 = .ok (.getfield 26, 3) := by decide +kernel
theorem dX2_gather_51 : decode cX2_gather 51 = .ok (.iload 4, 2) := by decide +kernel
theorem dX2_gather_53 : decode cX2_gather 53 = .ok (.invokevirtual 65, 3) := by decide +kernel
theorem dX2_gather_56 : decode cX2_gather 56 = .ok (.if_icmp .ge 29, 3) := by decide +kernel
theorem dX2_gather_59 : decode cX2_gather 59 = .ok (.aload_n 3, 1) := by decide +kernel
theorem dX2_gather_60 : decode cX2_gather 60 = .ok (.aload_n 0, 1) := by decide +kernel
theorem dX2_gather_61 : decode cX2_gather 61 = .ok (.iload 4, 2) := by decide +kernel
theorem dX2_gather_63 : decode cX2_gather 63 = .ok (.iload 5, 2) := by decide +kernel
theorem dX2_gather_65 : decode cX2_gather 65 = .ok (.invokevirtual 81, 3) := by decide +kernel
theorem dX2_gather_68 : decode cX2_gather 68 = .ok (.aload_n 0, 1) := by decide +kernel
theorem dX2_gather_69 : decode cX2_gather 69 = .ok (.iload 4, 2) := by decide +kernel
theorem dX2_gather_71 : decode cX2_gather 71 = .ok (.iload 5, 2) := by decide +kernel
theorem dX2_gather_73 : decode cX2_gather 73 = .ok (.invokevirtual 85, 3) := by decide +kernel
theorem dX2_gather_76 : decode cX2_gather 76 = .ok (.invokevirtual 93, 3) := by decide +kernel
theorem dX2_gather_79 : decode cX2_gather 79 = .ok (.iinc 5 1, 3) := by decide +kernel
theorem dX2_gather_82 : decode cX2_gather 82 = .ok (.goto (-37), 3) := by decide +kernel
theorem dX2_gather_85 : decode cX2_gather 85 = .ok (.iinc 4 1, 3) := by decide +kernel
theorem dX2_gather_88 : decode cX2_gather 88 = .ok (.goto (-81), 3) := by decide +kernel
theorem dX2_gather_91 : decode cX2_gather 91 = .ok (.return_, 1) := by decide +kernel
theorem dX2_ledgerLine_0 : decode cX2_ledgerLine 0 = .ok (.iconst 0, 1) := by decide +kernel
theorem dX2_ledgerLine_1 : decode cX2_ledgerLine 1 = .ok (.istore 4, 2) := by decide +kernel
theorem dX2_ledgerLine_3 : decode cX2_ledgerLine 3 = .ok (.lconst 0, 1) := by decide +kernel
theorem dX2_ledgerLine_4 : decode cX2_ledgerLine 4 = .ok (.lstore 5, 2) := by decide +kernel
theorem dX2_ledgerLine_6 : decode cX2_ledgerLine 6 = .ok (.iconst 0, 1) := by decide +kernel
theorem dX2_ledgerLine_7 : decode cX2_ledgerLine 7 = .ok (.istore 7, 2) := by decide +kernel
theorem dX2_ledgerLine_9 : decode cX2_ledgerLine 9 = .ok (.iload 7, 2) := by decide +kernel
theorem dX2_ledgerLine_11 : decode cX2_ledgerLine 11 = .ok (.aload_n 0, 1) := by decide +kernel
theorem dX2_ledgerLine_12 : decode cX2_ledgerLine 12 = .ok (.getfield 48, 3) := by decide +kernel
theorem dX2_ledgerLine_15 : decode cX2_ledgerLine 15 = .ok (.if_icmp .ge 83, 3) := by decide +kernel
theorem dX2_ledgerLine_18 : decode cX2_ledgerLine 18 = .ok (.iconst 0, 1) := by decide +kernel
theorem dX2_ledgerLine_19 : decode cX2_ledgerLine 19 = .ok (.istore 8, 2) := by decide +kernel
theorem dX2_ledgerLine_21 : decode cX2_ledgerLine 21 = .ok (.iload 8, 2) := by decide +kernel
theorem dX2_ledgerLine_23 : decode cX2_ledgerLine 23 = .ok (.aload_n 0, 1) := by decide +kernel
theorem dX2_ledgerLine_24 : decode cX2_ledgerLine 24 = .ok (.getfield 26, 3) := by decide +kernel
theorem dX2_ledgerLine_27 : decode cX2_ledgerLine 27 = .ok (.iload 7, 2) := by decide +kernel
theorem dX2_ledgerLine_29 : decode cX2_ledgerLine 29 = .ok (.invokevirtual 65, 3) := by decide +kernel
theorem dX2_ledgerLine_32 : decode cX2_ledgerLine 32 = .ok (.if_icmp .ge 60, 3) := by decide +kernel
theorem dX2_ledgerLine_35 : decode cX2_ledgerLine 35 = .ok (.aload_n 0, 1) := by decide +kernel
theorem dX2_ledgerLine_36 : decode cX2_ledgerLine 36 = .ok (.iload 7, 2) := by decide +kernel
theorem dX2_ledgerLine_38 : decode cX2_ledgerLine 38 = .ok (.iload 8, 2) := by decide +kernel
theorem dX2_ledgerLine_40 : decode cX2_ledgerLine 40 = .ok (.invokevirtual 81, 3) := by decide +kernel
theorem dX2_ledgerLine_43 : decode cX2_ledgerLine 43 = .ok (.iload_n 1, 1) := by decide +kernel
theorem dX2_ledgerLine_44 : decode cX2_ledgerLine 44 = .ok (.if_icmp .ne 42, 3) := by decide +kernel
theorem dX2_ledgerLine_47 : decode cX2_ledgerLine 47 = .ok (.lload 5, 2) := by decide +kernel
theorem dX2_ledgerLine_49 : decode cX2_ledgerLine 49 = .ok (.aload_n 0, 1) := by decide +kernel
theorem dX2_ledgerLine_50 : decode cX2_ledgerLine 50 = .ok (.iload 7, 2) := by decide +kernel
theorem dX2_ledgerLine_52 : decode cX2_ledgerLine 52 = .ok (.iload 8, 2) := by decide +kernel
theorem dX2_ledgerLine_54 : decode cX2_ledgerLine 54 = .ok (.invokevirtual 85, 3) := by decide +kernel
theorem dX2_ledgerLine_57 : decode cX2_ledgerLine 57 = .ok (.ladd, 1) := by decide +kernel
theorem dX2_ledgerLine_58 : decode cX2_ledgerLine 58 = .ok (.lstore 5, 2) := by decide +kernel
theorem dX2_ledgerLine_60 : decode cX2_ledgerLine 60 = .ok (.iload 4, 2) := by decide +kernel
theorem dX2_ledgerLine_62 : decode cX2_ledgerLine 62 = .ok (.iload_n 2, 1) := by decide +kernel
theorem dX2_ledgerLine_63 : decode cX2_ledgerLine 63 = .ok (.if_icmp .ne 20, 3) := by decide +kernel
theorem dX2_ledgerLine_66 : decode cX2_ledgerLine 66 = .ok (.iload 7, 2) := by decide +kernel
theorem dX2_ledgerLine_68 : decode cX2_ledgerLine 68 = .ok (.aload_n 0, 1) := by decide +kernel
theorem dX2_ledgerLine_69 : decode cX2_ledgerLine 69 = .ok (.iload 7, 2) := by decide +kernel
theorem dX2_ledgerLine_71 : decode cX2_ledgerLine 71 = .ok (.iload 8, 2) := by decide +kernel
theorem dX2_ledgerLine_73 : decode cX2_ledgerLine 73 = .ok (.invokevirtual 85, 3) := by decide +kernel
theorem dX2_ledgerLine_76 : decode cX2_ledgerLine 76 = .ok (.lload 5, 2) := by decide +kernel
theorem dX2_ledgerLine_78 : decode cX2_ledgerLine 78 = .ok (.iload_n 3, 1) := by decide +kernel
theorem dX2_ledgerLine_79 : decode cX2_ledgerLine 79 = .ok (.invokestatic 96, 3) := by decide +kernel
theorem dX2_ledgerLine_82 : decode cX2_ledgerLine 82 = .ok (.lreturn, 1) := by decide +kernel
theorem dX2_ledgerLine_83 : decode cX2_ledgerLine 83 = .ok (.iinc 4 1, 3) := by decide +kernel
theorem dX2_ledgerLine_86 : decode cX2_ledgerLine 86 = .ok (.iinc 8 1, 3) := by decide +kernel
theorem dX2_ledgerLine_89 : decode cX2_ledgerLine 89 = .ok (.goto (-68), 3) := by decide +kernel
theorem dX2_ledgerLine_92 : decode cX2_ledgerLine 92 = .ok (.iinc 7 1, 3) := by decide +kernel
theorem dX2_ledgerLine_95 : decode cX2_ledgerLine 95 = .ok (.goto (-86), 3) := by decide +kernel
theorem dX2_ledgerLine_98 : decode cX2_ledgerLine 98 = .ok (.ldc2_w 100, 3) := by decide +kernel
theorem dX2_ledgerLine_101 : decode cX2_ledgerLine 101 = .ok (.lreturn, 1) := by decide +kernel
theorem dX2_toldOfLedger_0 : decode cX2_toldOfLedger 0 = .ok (.iload 5, 2) := by decide +kernel
theorem dX2_toldOfLedger_2 : decode cX2_toldOfLedger 2 = .ok (.tableswitch 33 0 2 #[26, 29, 31], 26) := by decide +kernel
theorem dX2_toldOfLedger_28 : decode cX2_toldOfLedger 28 = .ok (.iload_n 0, 1) := by decide +kernel
theorem dX2_toldOfLedger_29 : decode cX2_toldOfLedger 29 = .ok (.i2l, 1) := by decide +kernel
theorem dX2_toldOfLedger_30 : decode cX2_toldOfLedger 30 = .ok (.lreturn, 1) := by decide +kernel
theorem dX2_toldOfLedger_31 : decode cX2_toldOfLedger 31 = .ok (.lload_n 1, 1) := by decide +kernel
theorem dX2_toldOfLedger_32 : decode cX2_toldOfLedger 32 = .ok (.lreturn, 1) := by decide +kernel
theorem dX2_toldOfLedger_33 : decode cX2_toldOfLedger 33 = .ok (.lload_n 3, 1) := by decide +kernel
theorem dX2_toldOfLedger_34 : decode cX2_toldOfLedger 34 = .ok (.lreturn, 1) := by decide +kernel
theorem dX2_toldOfLedger_35 : decode cX2_toldOfLedger 35 = .ok (.ldc2_w 100, 3) := by decide +kernel
theorem dX2_toldOfLedger_38 : decode cX2_toldOfLedger 38 = .ok (.lreturn, 1) := by decide +kernel
theorem dX2_told_0 : decode cX2_told 0 = .ok (.iload_n 2, 1) := by decide +kernel
theorem dX2_told_1 : decode cX2_told 1 = .ok (.tableswitch 93 0 5 #[39, 48, 57, 66, 75, 84], 39) := by decide +kernel
theorem dX2_told_40 : decode cX2_told 40 = .ok (.aload_n 0, 1) := by decide +kernel
theorem dX2_told_41 : decode cX2_told 41 = .ok (.getfield 14, 3) := by decide +kernel
theorem dX2_told_44 : decode cX2_told 44 = .ok (.iload_n 1, 1) := by decide +kernel
theorem dX2_told_45 : decode cX2_told 45 = .ok (.invokevirtual 65, 3) := by decide +kernel
theorem dX2_told_48 : decode cX2_told 48 = .ok (.ireturn, 1) := by decide +kernel
theorem dX2_told_49 : decode cX2_told 49 = .ok (.aload_n 0, 1) := by decide +kernel
theorem dX2_told_50 : decode cX2_told 50 = .ok (.getfield 20, 3) := by decide +kernel
theorem dX2_told_53 : decode cX2_told 53 = .ok (.iload_n 1, 1) := by decide +kernel
theorem dX2_told_54 : decode cX2_told 54 = .ok (.invokevirtual 65, 3) := by decide +kernel
theorem dX2_told_57 : decode cX2_told 57 = .ok (.ireturn, 1) := by decide +kernel
theorem dX2_told_58 : decode cX2_told 58 = .ok (.aload_n 0, 1) := by decide +kernel
theorem dX2_told_59 : decode cX2_told 59 = .ok (.getfield 23, 3) := by decide +kernel
theorem dX2_told_62 : decode cX2_told 62 = .ok (.iload_n 1, 1) := by decide +kernel
theorem dX2_told_63 : decode cX2_told 63 = .ok (.invokevirtual 65, 3) := by decide +kernel
theorem dX2_told_66 : decode cX2_told 66 = .ok (.ireturn, 1) := by decide +kernel
theorem dX2_told_67 : decode cX2_told 67 = .ok (.aload_n 0, 1) := by decide +kernel
theorem dX2_told_68 : decode cX2_told 68 = .ok (.getfield 26, 3) := by decide +kernel
theorem dX2_told_71 : decode cX2_told 71 = .ok (.iload_n 1, 1) := by decide +kernel
theorem dX2_told_72 : decode cX2_told 72 = .ok (.invokevirtual 65, 3) := by decide +kernel
theorem dX2_told_75 : decode cX2_told 75 = .ok (.ireturn, 1) := by decide +kernel
theorem dX2_told_76 : decode cX2_told 76 = .ok (.aload_n 0, 1) := by decide +kernel
theorem dX2_told_77 : decode cX2_told 77 = .ok (.getfield 29, 3) := by decide +kernel
theorem dX2_told_80 : decode cX2_told 80 = .ok (.iload_n 1, 1) := by decide +kernel
theorem dX2_told_81 : decode cX2_told 81 = .ok (.invokevirtual 65, 3) := by decide +kernel
theorem dX2_told_84 : decode cX2_told 84 = .ok (.ireturn, 1) := by decide +kernel
theorem dX2_told_85 : decode cX2_told 85 = .ok (.aload_n 0, 1) := by decide +kernel
theorem dX2_told_86 : decode cX2_told 86 = .ok (.getfield 32, 3) := by decide +kernel
theorem dX2_told_89 : decode cX2_told 89 = .ok (.iload_n 1, 1) := by decide +kernel
theorem dX2_told_90 : decode cX2_told 90 = .ok (.invokevirtual 65, 3) := by decide +kernel
theorem dX2_told_93 : decode cX2_told 93 = .ok (.ireturn, 1) := by decide +kernel
theorem dX2_told_94 : decode cX2_told 94 = .ok (.bipush (-3), 2) := by decide +kernel
theorem dX2_told_96 : decode cX2_told 96 = .ok (.ireturn, 1) := by decide +kernel
theorem dX3_init_0 : decode cX3_init 0 = .ok (.aload_n 0, 1) := by decide +kernel
theorem dX3_init_1 : decode cX3_init 1 = .ok (.invokespecial 1, 3) := by decide +kernel
theorem dX3_init_4 : decode cX3_init 4 = .ok (.aload_n 0, 1) := by decide +kernel
theorem dX3_init_5 : decode cX3_init 5 = .ok (.iload_n 1, 1) := by decide +kernel
theorem dX3_init_6 : decode cX3_init 6 = .ok (.putfield 7, 3) := by decide +kernel
theorem dX3_init_9 : decode cX3_init 9 = .ok (.aload_n 0, 1) := by decide +kernel
theorem dX3_init_10 : decode cX3_init 10 = .ok (.bipush 16, 2) := by decide +kernel
theorem dX3_init_12 : decode cX3_init 12 = .ok (.newarray .int, 2) := by decide +kernel
theorem dX3_init_14 : decode cX3_init 14 = .ok (.putfield 13, 3) := by decide +kernel
theorem dX3_init_17 : decode cX3_init 17 = .ok (.return_, 1) := by decide +kernel
theorem dX3_at_0 : decode cX3_at 0 = .ok (.iload_n 1, 1) := by decide +kernel
theorem dX3_at_1 : decode cX3_at 1 = .ok (.ifCond .lt 21, 3) := by decide +kernel
theorem dX3_at_4 : decode cX3_at 4 = .ok (.iload_n 1, 1) := by decide +kernel
theorem dX3_at_5 : decode cX3_at 5 = .ok (.aload_n 0, 1) := by decide +kernel
theorem dX3_at_6 : decode cX3_at 6 = .ok (.getfield 13, 3) := by decide +kernel
theorem dX3_at_9 : decode cX3_at 9 = .ok (.arraylength, 1) := by decide +kernel
theorem dX3_at_10 : decode cX3_at 10 = .ok (.if_icmp .ge 12, 3) := by decide +kernel
theorem dX3_at_13 : decode cX3_at 13 = .ok (.aload_n 0, 1) := by decide +kernel
theorem dX3_at_14 : decode cX3_at 14 = .ok (.getfield 13, 3) := by decide +kernel
theorem dX3_at_17 : decode cX3_at 17 = .ok (.iload_n 1, 1) := by decide +kernel
theorem dX3_at_18 : decode cX3_at 18 = .ok (.iaload, 1) := by decide +kernel
theorem dX3_at_19 : decode cX3_at 19 = .ok (.goto 4, 3) := by decide +kernel
theorem dX3_at_22 : decode cX3_at 22 = .ok (.iconst 0, 1) := by decide +kernel
theorem dX3_at_23 : decode cX3_at 23 = .ok (.ireturn, 1) := by decide +kernel
theorem dX3_put_0 : decode cX3_put 0 = .ok (.iload_n 1, 1) := by decide +kernel
theorem dX3_put_1 : decode cX3_put 1 = .ok (.ifCond .lt 11, 3) := by decide +kernel
theorem dX3_put_4 : decode cX3_put 4 = .ok (.iload_n 1, 1) := by decide +kernel
theorem dX3_put_5 : decode cX3_put 5 = .ok (.aload_n 0, 1) := by decide +kernel
theorem dX3_put_6 : decode cX3_put 6 = .ok (.getfield 7, 3) := by decide +kernel
theorem dX3_put_9 : decode cX3_put 9 = .ok (.if_icmp .lt 4, 3) := by decide +kernel
theorem dX3_put_12 : decode cX3_put 12 = .ok (.return_, 1) := by decide +kernel
theorem dX3_put_13 : decode cX3_put 13 = .ok (.iload_n 1, 1) := by decide +kernel
theorem dX3_put_14 : decode cX3_put 14 = .ok (.aload_n 0, 1) := by decide +kernel
theorem dX3_put_15 : decode cX3_put 15 = .ok (.getfield 13, 3) := by decide +kernel
theorem dX3_put_18 : decode cX3_put 18 = .ok (.arraylength, 1) := by decide +kernel
theorem dX3_put_19 : decode cX3_put 19 = .ok (.if_icmp .lt 34, 3) := by decide +kernel
theorem dX3_put_22 : decode cX3_put 22 = .ok (.aload_n 0, 1) := by decide +kernel
theorem dX3_put_23 : decode cX3_put 23 = .ok (.aload_n 0, 1) := by decide +kernel
theorem dX3_put_24 : decode cX3_put 24 = .ok (.getfield 13, 3) := by decide +kernel
theorem dX3_put_27 : decode cX3_put 27 = .ok (.iload_n 1, 1) := by decide +kernel
theorem dX3_put_28 : decode cX3_put 28 = .ok (.iconst 1, 1) := by decide +kernel
theorem dX3_put_29 : decode cX3_put 29 = .ok (.iadd, 1) := by decide +kernel
theorem dX3_put_30 : decode cX3_put 30 = .ok (.aload_n 0, 1) := by decide +kernel
theorem dX3_put_31 : decode cX3_put 31 = .ok (.getfield 7, 3) := by decide +kernel
theorem dX3_put_34 : decode cX3_put 34 = .ok (.iconst 2, 1) := by decide +kernel
theorem dX3_put_35 : decode cX3_put 35 = .ok (.aload_n 0, 1) := by decide +kernel
theorem dX3_put_36 : decode cX3_put 36 = .ok (.getfield 13, 3) := by decide +kernel
theorem dX3_put_39 : decode cX3_put 39 = .ok (.arraylength, 1) := by decide +kernel
theorem dX3_put_40 : decode cX3_put 40 = .ok (.imul, 1) := by decide +kernel
theorem dX3_put_41 : decode cX3_put 41 = .ok (.invokestatic 17, 3) := by decide +kernel
theorem dX3_put_44 : decode cX3_put 44 = .ok (.invokestatic 23, 3) := by decide +kernel
theorem dX3_put_47 : decode cX3_put 47 = .ok (.invokestatic 26, 3) := by decide +kernel
theorem dX3_put_50 : decode cX3_put 50 = .ok (.putfield 13, 3) := by decide +kernel
theorem dX3_put_53 : decode cX3_put 53 = .ok (.aload_n 0, 1) := by decide +kernel
theorem dX3_put_54 : decode cX3_put 54 = .ok (.getfield 13, 3) := by decide +kernel
theorem dX3_put_57 : decode cX3_put 57 = .ok (.iload_n 1, 1) := by decide +kernel
theorem dX3_put_58 : decode cX3_put 58 = .ok (.iload_n 2, 1) := by decide +kernel
theorem dX3_put_59 : decode cX3_put 59 = .ok (.iastore, 1) := by decide +kernel
theorem dX3_put_60 : decode cX3_put 60 = .ok (.return_, 1) := by decide +kernel
theorem dX4_init_0 : decode cX4_init 0 = .ok (.aload_n 0, 1) := by decide +kernel
theorem dX4_init_1 : decode cX4_init 1 = .ok (.invokespecial 3, 3) := by decide +kernel
theorem dX4_init_4 : decode cX4_init 4 = .ok (.aload_n 0, 1) := by decide +kernel
theorem dX4_init_5 : decode cX4_init 5 = .ok (.new 9, 3) := by decide +kernel
theorem dX4_init_8 : decode cX4_init 8 = .ok (.dup, 1) := by decide +kernel
theorem dX4_init_9 : decode cX4_init 9 = .ok (.sipush 6000, 3) := by decide +kernel
theorem dX4_init_12 : decode cX4_init 12 = .ok (.invokespecial 11, 3) := by decide +kernel
theorem dX4_init_15 : decode cX4_init 15 = .ok (.putfield 14, 3) := by decide +kernel
theorem dX4_init_18 : decode cX4_init 18 = .ok (.aload_n 0, 1) := by decide +kernel
theorem dX4_init_19 : decode cX4_init 19 = .ok (.new 9, 3) := by decide +kernel
theorem dX4_init_22 : decode cX4_init 22 = .ok (.dup, 1) := by decide +kernel
theorem dX4_init_23 : decode cX4_init 23 = .ok (.sipush 255, 3) := by decide +kernel
theorem dX4_init_26 : decode cX4_init 26 = .ok (.invokespecial 11, 3) := by decide +kernel
theorem dX4_init_29 : decode cX4_init 29 = .ok (.putfield 20, 3) := by decide +kernel
theorem dX4_init_32 : decode cX4_init 32 = .ok (.return_, 1) := by decide +kernel
theorem dX4_begin_0 : decode cX4_begin 0 = .ok (.aload_n 0, 1) := by decide +kernel
theorem dX4_begin_1 : decode cX4_begin 1 = .ok (.iload_n 1, 1) := by decide +kernel
theorem dX4_begin_2 : decode cX4_begin 2 = .ok (.putfield 23, 3) := by decide +kernel
theorem dX4_begin_5 : decode cX4_begin 5 = .ok (.aload_n 0, 1) := by decide +kernel
theorem dX4_begin_6 : decode cX4_begin 6 = .ok (.iconst 0, 1) := by decide +kernel
theorem dX4_begin_7 : decode cX4_begin 7 = .ok (.putfield 27, 3) := by decide +kernel
theorem dX4_begin_10 : decode cX4_begin 10 = .ok (.return_, 1) := by decide +kernel
theorem dX4_number_0 : decode cX4_number 0 = .ok (.lload_n 1, 1) := by decide +kernel
theorem dX4_number_1 : decode cX4_number 1 = .ok (.iconst 1, 1) := by decide +kernel
theorem dX4_number_2 : decode cX4_number 2 = .ok (.lshl, 1) := by decide +kernel
theorem dX4_number_3 : decode cX4_number 3 = .ok (.lload_n 1, 1) := by decide +kernel
theorem dX4_number_4 : decode cX4_number 4 = .ok (.bipush 63, 2) := by decide +kernel
theorem dX4_number_6 : decode cX4_number 6 = .ok (.lshr, 1) := by decide +kernel
theorem dX4_number_7 : decode cX4_number 7 = .ok (.lxor, 1) := by decide +kernel
theorem dX4_number_8 : decode cX4_number 8 = .ok (.lstore_n 3, 1) := by decide +kernel
theorem dX4_number_9 : decode cX4_number 9 = .ok (.iconst 0, 1) := by decide +kernel
theorem dX4_number_10 : decode cX4_number 10 = .ok (.istore 5, 2) := by decide +kernel
theorem dX4_number_12 : decode cX4_number 12 = .ok (.iload 5, 2) := by decide +kernel
theorem dX4_number_14 : decode cX4_number 14 = .ok (.bipush 10, 2) := by decide +kernel
theorem dX4_number_16 : decode cX4_number 16 = .ok (.if_icmp .ge 67, 3) := by decide +kernel
theorem dX4_number_19 : decode cX4_number 19 = .ok (.lload_n 3, 1) := by decide +kernel
theorem dX4_number_20 : decode cX4_number 20 = .ok (.ldc2_w 30, 3) := by decide +kernel
theorem dX4_number_23 : decode cX4_number 23 = .ok (.land, 1) := by decide +kernel
theorem dX4_number_24 : decode cX4_number 24 = .ok (.l2i, 1) := by decide +kernel
theorem dX4_number_25 : decode cX4_number 25 = .ok (.istore 6, 2) := by decide +kernel
theorem dX4_number_27 : decode cX4_number 27 = .ok (.lload_n 3, 1) := by decide +kernel
theorem dX4_number_28 : decode cX4_number 28 = .ok (.bipush 7, 2) := by decide +kernel
theorem dX4_number_30 : decode cX4_number 30 = .ok (.lushr, 1) := by decide +kernel
theorem dX4_number_31 : decode cX4_number 31 = .ok (.lstore_n 3, 1) := by decide +kernel
theorem dX4_number_32 : decode cX4_number 32 = .ok (.aload_n 0, 1) := by decide +kernel
theorem dX4_number_33 : decode cX4_number 33 = .ok (.getfield 20, 3) := by decide +kernel
theorem dX4_number_36 : decode cX4_number 36 = .ok (.aload_n 0, 1) := by decide +kernel
theorem dX4_number_37 : decode cX4_number 37 = .ok (.getfield 27, 3) := by decide +kernel
theorem dX4_number_40 : decode cX4_number 40 = .ok (.lload_n 3, 1) := by decide +kernel
theorem dX4_number_41 : decode cX4_number 41 = .ok (.lconst 0, 1) := by decide +kernel
theorem dX4_number_42 : decode cX4_number 42 = .ok (.lcmp, 1) := by decide +kernel
theorem dX4_number_43 : decode cX4_number 43 = .ok (.ifCond .ne 8, 3) := by decide +kernel
theorem dX4_number_46 : decode cX4_number 46 = .ok (.iload 6, 2) := by decide +kernel
theorem dX4_number_48 : decode cX4_number 48 = .ok (.goto 9, 3) := by decide +kernel
theorem dX4_number_51 : decode cX4_number 51 = .ok (.iload 6, 2) := by decide +kernel
theorem dX4_number_53 : decode cX4_number 53 = .ok (.sipush 128, 3) := by decide +kernel
theorem dX4_number_56 : decode cX4_number 56 = .ok (.iadd, 1) := by decide +kernel
theorem dX4_number_57 : decode cX4_number 57 = .ok (.invokevirtual 32, 3) := by decide +kernel
theorem dX4_number_60 : decode cX4_number 60 = .ok (.aload_n 0, 1) := by decide +kernel
theorem dX4_number_61 : decode cX4_number 61 = .ok (.dup, 1) := by decide +kernel
theorem dX4_number_62 : decode cX4_number 62 = .ok (.getfield 27, 3) := by decide +kernel
theorem dX4_number_65 : decode cX4_number 65 = .ok (.iconst 1, 1) := by decide +kernel
theorem dX4_number_66 : decode cX4_number 66 = .ok (.iadd, 1) := by decide +kernel
theorem dX4_number_67 : decode cX4_number 67 = .ok (.putfield 27, 3) := by decide +kernel
theorem dX4_number_70 : decode cX4_number 70 = .ok (.lload_n 3, 1) := by decide +kernel
theorem dX4_number_71 : decode cX4_number 71 = .ok (.lconst 0, 1) := by decide +kernel
theorem dX4_number_72 : decode cX4_number 72 = .ok (.lcmp, 1) := by decide +kernel
theorem dX4_number_73 : decode cX4_number 73 = .ok (.ifCond .ne 4, 3) := by decide +kernel
theorem dX4_number_76 : decode cX4_number 76 = .ok (.return_, 1) := by decide +kernel
theorem dX4_number_77 : decode cX4_number 77 = .ok (.iinc 5 1, 3) := by decide +kernel
theorem dX4_number_80 : decode cX4_number 80 = .ok (.goto (-68), 3) := by decide +kernel
theorem dX4_number_83 : decode cX4_number 83 = .ok (.return_, 1) := by decide +kernel
theorem dX4_write_0 : decode cX4_write 0 = .ok (.aload_n 0, 1) := by decide +kernel
theorem dX4_write_1 : decode cX4_write 1 = .ok (.getfield 36, 3) := by decide +kernel
theorem dX4_write_4 : decode cX4_write 4 = .ok (.iconst 4, 1) := by decide +kernel
theorem dX4_write_5 : decode cX4_write 5 = .ok (.iadd, 1) := by decide +kernel
theorem dX4_write_6 : decode cX4_write 6 = .ok (.aload_n 0, 1) := by decide +kernel
theorem dX4_write_7 : decode cX4_write 7 = .ok (.getfield 27, 3) := by decide +kernel
theorem dX4_write_10 : decode cX4_write 10 = .ok (.iadd, 1) := by decide +kernel
theorem dX4_write_11 : decode cX4_write 11 = .ok (.sipush 6000, 3) := by decide +kernel
theorem dX4_write_14 : decode cX4_write 14 = .ok (.if_icmp .le 5, 3) := by decide +kernel
theorem dX4_write_17 : decode cX4_write 17 = .ok (.iconst 0, 1) := by decide +kernel
theorem dX4_write_18 : decode cX4_write 18 = .ok (.ireturn, 1) := by decide +kernel
theorem dX4_write_19 : decode cX4_write 19 = .ok (.aload_n 0, 1) := by decide +kernel
theorem dX4_write_20 : decode cX4_write 20 = .ok (.getfield 36, 3) := by decide +kernel
theorem dX4_write_23 : decode cX4_write 23 = .ok (.istore_n 1, 1) := by decide +kernel
theorem dX4_write_24 : decode cX4_write 24 = .ok (.aload_n 0, 1) := by decide +kernel
theorem dX4_write_25 : decode cX4_write 25 = .ok (.aload_n 0, 1) := by decide +kernel
theorem dX4_write_26 : decode cX4_write 26 = .ok (.getfield 27, 3) := by decide +kernel
theorem dX4_write_29 : decode cX4_write 29 = .ok (.invokevirtual 39, 3) := by decide +kernel
theorem dX4_write_32 : decode cX4_write 32 = .ok (.aload_n 0, 1) := by decide +kernel
theorem dX4_write_33 : decode cX4_write 33 = .ok (.aload_n 0, 1) := by decide +kernel
theorem dX4_write_34 : decode cX4_write 34 = .ok (.getfield 23, 3) := by decide +kernel
theorem dX4_write_37 : decode cX4_write 37 = .ok (.invokevirtual 39, 3) := by decide +kernel
theorem dX4_write_40 : decode cX4_write 40 = .ok (.iconst 0, 1) := by decide +kernel
theorem dX4_write_41 : decode cX4_write 41 = .ok (.istore_n 2, 1) := by decide +kernel
theorem dX4_write_42 : decode cX4_write 42 = .ok (.iload_n 2, 1) := by decide +kernel
theorem dX4_write_43 : decode cX4_write 43 = .ok (.aload_n 0, 1) := by decide +kernel
theorem dX4_write_44 : decode cX4_write 44 = .ok (.getfield 27, 3) := by decide +kernel
theorem dX4_write_47 : decode cX4_write 47 = .ok (.if_icmp .ge 21, 3) := by decide +kernel
theorem dX4_write_50 : decode cX4_write 50 = .ok (.aload_n 0, 1) := by decide +kernel
theorem dX4_write_51 : decode cX4_write 51 = .ok (.aload_n 0, 1) := by decide +kernel
theorem dX4_write_52 : decode cX4_write 52 = .ok (.getfield 20, 3) := by decide +kernel
theorem dX4_write_55 : decode cX4_write 55 = .ok (.iload_n 2, 1) := by decide +kernel
theorem dX4_write_56 : decode cX4_write 56 = .ok (.invokevirtual 41, 3) := by decide +kernel
theorem dX4_write_59 : decode cX4_write 59 = .ok (.invokevirtual 39, 3) := by decide +kernel
theorem dX4_write_62 : decode cX4_write 62 = .ok (.iinc 2 1, 3) := by decide +kernel
theorem dX4_write_65 : decode cX4_write 65 = .ok (.goto (-23), 3) := by decide +kernel
theorem dX4_write_68 : decode cX4_write 68 = .ok (.aload_n 0, 1) := by decide +kernel
theorem dX4_write_69 : decode cX4_write 69 = .ok (.iload_n 1, 1) := by decide +kernel
theorem dX4_write_70 : decode cX4_write 70 = .ok (.aload_n 0, 1) := by decide +kernel
theorem dX4_write_71 : decode cX4_write 71 = .ok (.getfield 36, 3) := by decide +kernel
theorem dX4_write_74 : decode cX4_write 74 = .ok (.invokevirtual 45, 3) := by decide +kernel
theorem dX4_write_77 : decode cX4_write 77 = .ok (.istore_n 2, 1) := by decide +kernel
theorem dX4_write_78 : decode cX4_write 78 = .ok (.aload_n 0, 1) := by decide +kernel
theorem dX4_write_79 : decode cX4_write 79 = .ok (.iload_n 2, 1) := by decide +kernel
theorem dX4_write_80 : decode cX4_write 80 = .ok (.bipush 8, 2) := by decide +kernel
theorem dX4_write_82 : decode cX4_write 82 = .ok (.ishr, 1) := by decide +kernel
theorem dX4_write_83 : decode cX4_write 83 = .ok (.invokevirtual 39, 3) := by decide +kernel
theorem dX4_write_86 : decode cX4_write 86 = .ok (.aload_n 0, 1) := by decide +kernel
theorem dX4_write_87 : decode cX4_write 87 = .ok (.iload_n 2, 1) := by decide +kernel
theorem dX4_write_88 : decode cX4_write 88 = .ok (.sipush 255, 3) := by decide +kernel
theorem dX4_write_91 : decode cX4_write 91 = .ok (.iand, 1) := by decide +kernel
theorem dX4_write_92 : decode cX4_write 92 = .ok (.invokevirtual 39, 3) := by decide +kernel
theorem dX4_write_95 : decode cX4_write 95 = .ok (.aload_n 0, 1) := by decide +kernel
theorem dX4_write_96 : decode cX4_write 96 = .ok (.dup, 1) := by decide +kernel
theorem dX4_write_97 : decode cX4_write 97 = .ok (.getfield 49, 3) := by decide +kernel
theorem dX4_write_100 : decode cX4_write 100 = .ok (.iconst 1, 1) := by decide +kernel
theorem dX4_write_101 : decode cX4_write 101 = .ok (.iadd, 1) := by decide +kernel
theorem dX4_write_102 : decode cX4_write 102 = .ok (.putfield 49, 3) := by decide +kernel
theorem dX4_write_105 : decode cX4_write 105 = .ok (.iconst 1, 1) := by decide +kernel
theorem dX4_write_106 : decode cX4_write 106 = .ok (.ireturn, 1) := by decide +kernel
theorem dX4_put_0 : decode cX4_put 0 = .ok (.aload_n 0, 1) := by decide +kernel
theorem dX4_put_1 : decode cX4_put 1 = .ok (.getfield 14, 3) := by decide +kernel
theorem dX4_put_4 : decode cX4_put 4 = .ok (.aload_n 0, 1) := by decide +kernel
theorem dX4_put_5 : decode cX4_put 5 = .ok (.getfield 36, 3) := by decide +kernel
theorem dX4_put_8 : decode cX4_put 8 = .ok (.iload_n 1, 1) := by decide +kernel
theorem dX4_put_9 : decode cX4_put 9 = .ok (.invokevirtual 32, 3) := by decide +kernel
theorem dX4_put_12 : decode cX4_put 12 = .ok (.aload_n 0, 1) := by decide +kernel
theorem dX4_put_13 : decode cX4_put 13 = .ok (.dup, 1) := by decide +kernel
theorem dX4_put_14 : decode cX4_put 14 = .ok (.getfield 36, 3) := by decide +kernel
theorem dX4_put_17 : decode cX4_put 17 = .ok (.iconst 1, 1) := by decide +kernel
theorem dX4_put_18 : decode cX4_put 18 = .ok (.iadd, 1) := by decide +kernel
theorem dX4_put_19 : decode cX4_put 19 = .ok (.putfield 36, 3) := by decide +kernel
theorem dX4_put_22 : decode cX4_put 22 = .ok (.return_, 1) := by decide +kernel
theorem dX4_checkOf_0 : decode cX4_checkOf 0 = .ok (.ldc 52, 2) := by decide +kernel
theorem dX4_checkOf_2 : decode cX4_checkOf 2 = .ok (.istore_n 3, 1) := by decide +kernel
theorem dX4_checkOf_3 : decode cX4_checkOf 3 = .ok (.iload_n 1, 1) := by decide +kernel
theorem dX4_checkOf_4 : decode cX4_checkOf 4 = .ok (.istore 4, 2) := by decide +kernel
theorem dX4_checkOf_6 : decode cX4_checkOf 6 = .ok (.iload 4, 2) := by decide +kernel
theorem dX4_checkOf_8 : decode cX4_checkOf 8 = .ok (.iload_n 2, 1) := by decide +kernel
theorem dX4_checkOf_9 : decode cX4_checkOf 9 = .ok (.if_icmp .ge 66, 3) := by decide +kernel
theorem dX4_checkOf_12 : decode cX4_checkOf 12 = .ok (.iload_n 3, 1) := by decide +kernel
theorem dX4_checkOf_13 : decode cX4_checkOf 13 = .ok (.aload_n 0, 1) := by decide +kernel
theorem dX4_checkOf_14 : decode cX4_checkOf 14 = .ok (.getfield 14, 3) := by decide +kernel
theorem dX4_checkOf_17 : decode cX4_checkOf 17 = .ok (.iload 4, 2) := by decide +kernel
theorem dX4_checkOf_19 : decode cX4_checkOf 19 = .ok (.invokevirtual 41, 3) := by decide +kernel
theorem dX4_checkOf_22 : decode cX4_checkOf 22 = .ok (.bipush 8, 2) := by decide +kernel
theorem dX4_checkOf_24 : decode cX4_checkOf 24 = .ok (.ishl, 1) := by decide +kernel
theorem dX4_checkOf_25 : decode cX4_checkOf 25 = .ok (.ixor, 1) := by decide +kernel
theorem dX4_checkOf_26 : decode cX4_checkOf 26 = .ok (.istore_n 3, 1) := by decide +kernel
theorem dX4_checkOf_27 : decode cX4_checkOf 27 = .ok (.iconst 0, 1) := by decide +kernel
theorem dX4_checkOf_28 : decode cX4_checkOf 28 = .ok (.istore 5, 2) := by decide +kernel
theorem dX4_checkOf_30 : decode cX4_checkOf 30 = .ok (.iload 5, 2) := by decide +kernel
theorem dX4_checkOf_32 : decode cX4_checkOf 32 = .ok (.bipush 8, 2) := by decide +kernel
theorem dX4_checkOf_34 : decode cX4_checkOf 34 = .ok (.if_icmp .ge 30, 3) := by decide +kernel
theorem dX4_checkOf_37 : decode cX4_checkOf 37 = .ok (.iload_n 3, 1) := by decide +kernel
theorem dX4_checkOf_38 : decode cX4_checkOf 38 = .ok (.ldc 53, 2) := by decide +kernel
theorem dX4_checkOf_40 : decode cX4_checkOf 40 = .ok (.iand, 1) := by decide +kernel
theorem dX4_checkOf_41 : decode cX4_checkOf 41 = .ok (.ifCond .ne 9, 3) := by decide +kernel
theorem dX4_checkOf_44 : decode cX4_checkOf 44 = .ok (.iload_n 3, 1) := by decide +kernel
theorem dX4_checkOf_45 : decode cX4_checkOf 45 = .ok (.iconst 1, 1) := by decide +kernel
theorem dX4_checkOf_46 : decode cX4_checkOf 46 = .ok (.ishl, 1) := by decide +kernel
theorem dX4_checkOf_47 : decode cX4_checkOf 47 = .ok (.goto 10, 3) := by decide +kernel
theorem dX4_checkOf_50 : decode cX4_checkOf 50 = .ok (.iload_n 3, 1) := by decide +kernel
theorem dX4_checkOf_51 : decode cX4_checkOf 51 = .ok (.iconst 1, 1) := by decide +kernel
theorem dX4_checkOf_52 : decode cX4_checkOf 52 = .ok (.ishl, 1) := by decide +kernel
theorem dX4_checkOf_53 : decode cX4_checkOf 53 = .ok (.sipush 4129, 3) := by decide +kernel
theorem dX4_checkOf_56 : decode cX4_checkOf 56 = .ok (.ixor, 1) := by decide +kernel
theorem dX4_checkOf_57 : decode cX4_checkOf 57 = .ok (.istore_n 3, 1) := by decide +kernel
theorem dX4_checkOf_58 : decode cX4_checkOf 58 = .ok (.iinc 5 1, 3) := by decide +kernel
theorem dX4_checkOf_61 : decode cX4_checkOf 61 = .ok (.goto (-31), 3) := by decide +kernel
theorem dX4_checkOf_64 : decode cX4_checkOf 64 = .ok (.iload_n 3, 1) := by decide +kernel
theorem dX4_checkOf_65 : decode cX4_checkOf 65 = .ok (.ldc 52, 2) := by decide +kernel
theorem dX4_checkOf_67 : decode cX4_checkOf 67 = .ok (.iand, 1) := by decide +kernel
theorem dX4_checkOf_68 : decode cX4_checkOf 68 = .ok (.istore_n 3, 1) := by decide +kernel
theorem dX4_checkOf_69 : decode cX4_checkOf 69 = .ok (.iinc 4 1, 3) := by decide +kernel
theorem dX4_checkOf_72 : decode cX4_checkOf 72 = .ok (.goto (-66), 3) := by decide +kernel
theorem dX4_checkOf_75 : decode cX4_checkOf 75 = .ok (.iload_n 3, 1) := by decide +kernel
theorem dX4_checkOf_76 : decode cX4_checkOf 76 = .ok (.ireturn, 1) := by decide +kernel
theorem dX4_recordAt_0 : decode cX4_recordAt 0 = .ok (.iload_n 1, 1) := by decide +kernel
theorem dX4_recordAt_1 : decode cX4_recordAt 1 = .ok (.iconst 4, 1) := by decide +kernel
theorem dX4_recordAt_2 : decode cX4_recordAt 2 = .ok (.iadd, 1) := by decide +kernel
theorem dX4_recordAt_3 : decode cX4_recordAt 3 = .ok (.aload_n 0, 1) := by decide +kernel
theorem dX4_recordAt_4 : decode cX4_recordAt 4 = .ok (.getfield 36, 3) := by decide +kernel
theorem dX4_recordAt_7 : decode cX4_recordAt 7 = .ok (.if_icmp .le 5, 3) := by decide +kernel
theorem dX4_recordAt_10 : decode cX4_recordAt 10 = .ok (.iconst 0, 1) := by decide +kernel
theorem dX4_recordAt_11 : decode cX4_recordAt 11 = .ok (.ireturn, 1) := by decide +kernel
theorem dX4_recordAt_12 : decode cX4_recordAt 12 = .ok (.aload_n 0, 1) := by decide +kernel
theorem dX4_recordAt_13 : decode cX4_recordAt 13 = .ok (.getfield 14, 3) := by decide +kernel
theorem dX4_recordAt_16 : decode cX4_recordAt 16 = .ok (.iload_n 1, 1) := by decide +kernel
theorem dX4_recordAt_17 : decode cX4_recordAt 17 = .ok (.invokevirtual 41, 3) := by decide +kernel
theorem dX4_recordAt_20 : decode cX4_recordAt 20 = .ok (.iconst 4, 1) := by decide +kernel
theorem dX4_recordAt_21 : decode cX4_recordAt 21 = .ok (.iadd, 1) := by decide +kernel
theorem dX4_recordAt_22 : decode cX4_recordAt 22 = .ok (.istore_n 2, 1) := by decide +kernel
theorem dX4_recordAt_23 : decode cX4_recordAt 23 = .ok (.iload_n 1, 1) := by decide +kernel
theorem dX4_recordAt_24 : decode cX4_recordAt 24 = .ok (.iload_n 2, 1) := by decide +kernel
theorem dX4_recordAt_25 : decode cX4_recordAt 25 = .ok (.iadd, 1) := by decide +kernel
theorem dX4_recordAt_26 : decode cX4_recordAt 26 = .ok (.aload_n 0, 1) := by decide +kernel
theorem dX4_recordAt_27 : decode cX4_recordAt 27 = .ok (.getfield 36, 3) := by decide +kernel
theorem dX4_recordAt_30 : decode cX4_recordAt 30 = .ok (.if_icmp .le 5, 3) := by decide +kernel
theorem dX4_recordAt_33 : decode cX4_recordAt 33 = .ok (.iconst 0, 1) := by decide +kernel
theorem dX4_recordAt_34 : decode cX4_recordAt 34 = .ok (.ireturn, 1) := by decide +kernel
theorem dX4_recordAt_35 : decode cX4_recordAt 35 = .ok (.iload_n 1, 1) := by decide +kernel
theorem dX4_recordAt_36 : decode cX4_recordAt 36 = .ok (.iload_n 2, 1) := by decide +kernel
theorem dX4_recordAt_37 : decode cX4_recordAt 37 = .ok (.iadd, 1) := by decide +kernel
theorem dX4_recordAt_38 : decode cX4_recordAt 38 = .ok (.iconst 2, 1) := by decide +kernel
theorem dX4_recordAt_39 : decode cX4_recordAt 39 = .ok (.isub, 1) := by decide +kernel
theorem dX4_recordAt_40 : decode cX4_recordAt 40 = .ok (.istore_n 3, 1) := by decide +kernel
theorem dX4_recordAt_41 : decode cX4_recordAt 41 = .ok (.aload_n 0, 1) := by decide +kernel
theorem dX4_recordAt_42 : decode cX4_recordAt 42 = .ok (.getfield 14, 3) := by decide +kernel
theorem dX4_recordAt_45 : decode cX4_recordAt 45 = .ok (.iload_n 3, 1) := by decide +kernel
theorem dX4_recordAt_46 : decode cX4_recordAt 46 = .ok (.invokevirtual 41, 3) := by decide +kernel
theorem dX4_recordAt_49 : decode cX4_recordAt 49 = .ok (.bipush 8, 2) := by decide +kernel
theorem dX4_recordAt_51 : decode cX4_recordAt 51 = .ok (.ishl, 1) := by decide +kernel
theorem dX4_recordAt_52 : decode cX4_recordAt 52 = .ok (.aload_n 0, 1) := by decide +kernel
theorem dX4_recordAt_53 : decode cX4_recordAt 53 = .ok (.getfield 14, 3) := by decide +kernel
theorem dX4_recordAt_56 : decode cX4_recordAt 56 = .ok (.iload_n 3, 1) := by decide +kernel
theorem dX4_recordAt_57 : decode cX4_recordAt 57 = .ok (.iconst 1, 1) := by decide +kernel
theorem dX4_recordAt_58 : decode cX4_recordAt 58 = .ok (.iadd, 1) := by decide +kernel
theorem dX4_recordAt_59 : decode cX4_recordAt 59 = .ok (.invokevirtual 41, 3) := by decide +kernel
theorem dX4_recordAt_62 : decode cX4_recordAt 62 = .ok (.iadd, 1) := by decide +kernel
theorem dX4_recordAt_63 : decode cX4_recordAt 63 = .ok (.istore 4, 2) := by decide +kernel
theorem dX4_recordAt_65 : decode cX4_recordAt 65 = .ok (.iload 4, 2) := by decide +kernel
theorem dX4_recordAt_67 : decode cX4_recordAt 67 = .ok (.aload_n 0, 1) := by decide +kernel
theorem dX4_recordAt_68 : decode cX4_recordAt 68 = .ok (.iload_n 1, 1) := by decide +kernel
theorem dX4_recordAt_69 : decode cX4_recordAt 69 = .ok (.iload_n 3, 1) := by decide +kernel
theorem dX4_recordAt_70 : decode cX4_recordAt 70 = .ok (.invokevirtual 45, 3) := by decide +kernel
theorem dX4_recordAt_73 : decode cX4_recordAt 73 = .ok (.if_icmp .ne 7, 3) := by decide +kernel
theorem dX4_recordAt_76 : decode cX4_recordAt 76 = .ok (.iload_n 2, 1) := by decide +kernel
theorem dX4_recordAt_77 : decode cX4_recordAt 77 = .ok (.goto 4, 3) := by decide +kernel
theorem dX4_recordAt_80 : decode cX4_recordAt 80 = .ok (.iconst 0, 1) := by decide +kernel
theorem dX4_recordAt_81 : decode cX4_recordAt 81 = .ok (.ireturn, 1) := by decide +kernel
theorem dX4_makeDurable_0 : decode cX4_makeDurable 0 = .ok (.aload_n 0, 1) := by decide +kernel
theorem dX4_makeDurable_1 : decode cX4_makeDurable 1 = .ok (.getfield 36, 3) := by decide +kernel
theorem dX4_makeDurable_4 : decode cX4_makeDurable 4 = .ok (.aload_n 0, 1) := by decide +kernel
theorem dX4_makeDurable_5 : decode cX4_makeDurable 5 = .ok (.getfield 54, 3) := by decide +kernel
theorem dX4_makeDurable_8 : decode cX4_makeDurable 8 = .ok (.isub, 1) := by decide +kernel
theorem dX4_makeDurable_9 : decode cX4_makeDurable 9 = .ok (.istore_n 1, 1) := by decide +kernel
theorem dX4_makeDurable_10 : decode cX4_makeDurable 10 = .ok (.aload_n 0, 1) := by decide +kernel
theorem dX4_makeDurable_11 : decode cX4_makeDurable 11 = .ok (.aload_n 0, 1) := by decide +kernel
theorem dX4_makeDurable_12 : decode cX4_makeDurable 12 = .ok (.getfield 36, 3) := by decide +kernel
theorem dX4_makeDurable_15 : decode cX4_makeDurable 15 = .ok (.putfield 54, 3) := by decide +kernel
theorem dX4_makeDurable_18 : decode cX4_makeDurable 18 = .ok (.iload_n 1, 1) := by decide +kernel
theorem dX4_makeDurable_19 : decode cX4_makeDurable 19 = .ok (.ireturn, 1) := by decide +kernel
theorem dX4_tear_0 : decode cX4_tear 0 = .ok (.iload_n 1, 1) := by decide +kernel
theorem dX4_tear_1 : decode cX4_tear 1 = .ok (.aload_n 0, 1) := by decide +kernel
theorem dX4_tear_2 : decode cX4_tear 2 = .ok (.getfield 36, 3) := by decide +kernel
theorem dX4_tear_5 : decode cX4_tear 5 = .ok (.aload_n 0, 1) := by decide +kernel
theorem dX4_tear_6 : decode cX4_tear 6 = .ok (.getfield 54, 3) := by decide +kernel
theorem dX4_tear_9 : decode cX4_tear 9 = .ok (.isub, 1) := by decide +kernel
theorem dX4_tear_10 : decode cX4_tear 10 = .ok (.invokestatic 57, 3) := by decide +kernel
theorem dX4_tear_13 : decode cX4_tear 13 = .ok (.istore_n 3, 1) := by decide +kernel
theorem dX4_tear_14 : decode cX4_tear 14 = .ok (.aload_n 0, 1) := by decide +kernel
theorem dX4_tear_15 : decode cX4_tear 15 = .ok (.aload_n 0, 1) := by decide +kernel
theorem dX4_tear_16 : decode cX4_tear 16 = .ok (.getfield 54, 3) := by decide +kernel
theorem dX4_tear_19 : decode cX4_tear 19 = .ok (.iload_n 3, 1) := by decide +kernel
theorem dX4_tear_20 : decode cX4_tear 20 = .ok (.iadd, 1) := by decide +kernel
theorem dX4_tear_21 : decode cX4_tear 21 = .ok (.putfield 36, 3) := by decide +kernel
theorem dX4_tear_24 : decode cX4_tear 24 = .ok (.iload_n 3, 1) := by decide +kernel
theorem dX4_tear_25 : decode cX4_tear 25 = .ok (.ifCond .le 31, 3) := by decide +kernel
theorem dX4_tear_28 : decode cX4_tear 28 = .ok (.aload_n 0, 1) := by decide +kernel
theorem dX4_tear_29 : decode cX4_tear 29 = .ok (.getfield 14, 3) := by decide +kernel
theorem dX4_tear_32 : decode cX4_tear 32 = .ok (.aload_n 0, 1) := by decide +kernel
theorem dX4_tear_33 : decode cX4_tear 33 = .ok (.getfield 36, 3) := by decide +kernel
theorem dX4_tear_36 : decode cX4_tear 36 = .ok (.iconst 1, 1) := by decide +kernel
theorem dX4_tear_37 : decode cX4_tear 37 = .ok (.isub, 1) := by decide +kernel
theorem dX4_tear_38 : decode cX4_tear 38 = .ok (.aload_n 0, 1) := by decide +kernel
theorem dX4_tear_39 : decode cX4_tear 39 = .ok (.getfield 14, 3) := by decide +kernel
theorem dX4_tear_42 : decode cX4_tear 42 = .ok (.aload_n 0, 1) := by decide +kernel
theorem dX4_tear_43 : decode cX4_tear 43 = .ok (.getfield 36, 3) := by decide +kernel
theorem dX4_tear_46 : decode cX4_tear 46 = .ok (.iconst 1, 1) := by decide +kernel
theorem dX4_tear_47 : decode cX4_tear 47 = .ok (.isub, 1) := by decide +kernel
theorem dX4_tear_48 : decode cX4_tear 48 = .ok (.invokevirtual 41, 3) := by decide +kernel
theorem dX4_tear_51 : decode cX4_tear 51 = .ok (.iload_n 2, 1) := by decide +kernel
theorem dX4_tear_52 : decode cX4_tear 52 = .ok (.ixor, 1) := by decide +kernel
theorem dX4_tear_53 : decode cX4_tear 53 = .ok (.invokevirtual 32, 3) := by decide +kernel
theorem dX4_tear_56 : decode cX4_tear 56 = .ok (.return_, 1) := by decide +kernel
theorem dX4_cut_0 : decode cX4_cut 0 = .ok (.aload_n 0, 1) := by decide +kernel
theorem dX4_cut_1 : decode cX4_cut 1 = .ok (.iload_n 1, 1) := by decide +kernel
theorem dX4_cut_2 : decode cX4_cut 2 = .ok (.putfield 36, 3) := by decide +kernel
theorem dX4_cut_5 : decode cX4_cut 5 = .ok (.aload_n 0, 1) := by decide +kernel
theorem dX4_cut_6 : decode cX4_cut 6 = .ok (.iload_n 1, 1) := by decide +kernel
theorem dX4_cut_7 : decode cX4_cut 7 = .ok (.putfield 54, 3) := by decide +kernel
theorem dX4_cut_10 : decode cX4_cut 10 = .ok (.aload_n 0, 1) := by decide +kernel
theorem dX4_cut_11 : decode cX4_cut 11 = .ok (.iload_n 2, 1) := by decide +kernel
theorem dX4_cut_12 : decode cX4_cut 12 = .ok (.putfield 49, 3) := by decide +kernel
theorem dX4_cut_15 : decode cX4_cut 15 = .ok (.return_, 1) := by decide +kernel
theorem dX5_init_0 : decode cX5_init 0 = .ok (.aload_n 0, 1) := by decide +kernel
theorem dX5_init_1 : decode cX5_init 1 = .ok (.invokespecial 1, 3) := by decide +kernel
theorem dX5_init_4 : decode cX5_init 4 = .ok (.aload_n 0, 1) := by decide +kernel
theorem dX5_init_5 : decode cX5_init 5 = .ok (.new 7, 3) := by decide +kernel
theorem dX5_init_8 : decode cX5_init 8 = .ok (.dup, 1) := by decide +kernel
theorem dX5_init_9 : decode cX5_init 9 = .ok (.iload_n 1, 1) := by decide +kernel
theorem dX5_init_10 : decode cX5_init 10 = .ok (.invokespecial 9, 3) := by decide +kernel
theorem dX5_init_13 : decode cX5_init 13 = .ok (.putfield 12, 3) := by decide +kernel
theorem dX5_init_16 : decode cX5_init 16 = .ok (.aload_n 0, 1) := by decide +kernel
theorem dX5_init_17 : decode cX5_init 17 = .ok (.new 18, 3) := by decide +kernel
theorem dX5_init_20 : decode cX5_init 20 = .ok (.dup, 1) := by decide +kernel
theorem dX5_init_21 : decode cX5_init 21 = .ok (.iload_n 1, 1) := by decide +kernel
theorem dX5_init_22 : decode cX5_init 22 = .ok (.invokespecial 20, 3) := by decide +kernel
theorem dX5_init_25 : decode cX5_init 25 = .ok (.putfield 21, 3) := by decide +kernel
theorem dX5_init_28 : decode cX5_init 28 = .ok (.return_, 1) := by decide +kernel
theorem dX5_clear_0 : decode cX5_clear 0 = .ok (.aload_n 0, 1) := by decide +kernel
theorem dX5_clear_1 : decode cX5_clear 1 = .ok (.iconst 0, 1) := by decide +kernel
theorem dX5_clear_2 : decode cX5_clear 2 = .ok (.putfield 25, 3) := by decide +kernel
theorem dX5_clear_5 : decode cX5_clear 5 = .ok (.return_, 1) := by decide +kernel
theorem dX5_add_0 : decode cX5_add 0 = .ok (.aload_n 0, 1) := by decide +kernel
theorem dX5_add_1 : decode cX5_add 1 = .ok (.getfield 12, 3) := by decide +kernel
theorem dX5_add_4 : decode cX5_add 4 = .ok (.aload_n 0, 1) := by decide +kernel
theorem dX5_add_5 : decode cX5_add 5 = .ok (.getfield 25, 3) := by decide +kernel
theorem dX5_add_8 : decode cX5_add 8 = .ok (.iload_n 1, 1) := by decide +kernel
theorem dX5_add_9 : decode cX5_add 9 = .ok (.invokevirtual 29, 3) := by decide +kernel
theorem dX5_add_12 : decode cX5_add 12 = .ok (.aload_n 0, 1) := by decide +kernel
theorem dX5_add_13 : decode cX5_add 13 = .ok (.getfield 21, 3) := by decide +kernel
theorem dX5_add_16 : decode cX5_add 16 = .ok (.aload_n 0, 1) := by decide +kernel
theorem dX5_add_17 : decode cX5_add 17 = .ok (.getfield 25, 3) := by decide +kernel
theorem dX5_add_20 : decode cX5_add 20 = .ok (.lload_n 2, 1) := by decide +kernel
theorem dX5_add_21 : decode cX5_add 21 = .ok (.invokevirtual 33, 3) := by decide +kernel
theorem dX5_add_24 : decode cX5_add 24 = .ok (.aload_n 0, 1) := by decide +kernel
theorem dX5_add_25 : decode cX5_add 25 = .ok (.dup, 1) := by decide +kernel
theorem dX5_add_26 : decode cX5_add 26 = .ok (.getfield 25, 3) := by decide +kernel
theorem dX5_add_29 : decode cX5_add 29 = .ok (.iconst 1, 1) := by decide +kernel
theorem dX5_add_30 : decode cX5_add 30 = .ok (.iadd, 1) := by decide +kernel
theorem dX5_add_31 : decode cX5_add 31 = .ok (.putfield 25, 3) := by decide +kernel
theorem dX5_add_34 : decode cX5_add 34 = .ok (.return_, 1) := by decide +kernel
theorem dX5_total_0 : decode cX5_total 0 = .ok (.lconst 0, 1) := by decide +kernel
theorem dX5_total_1 : decode cX5_total 1 = .ok (.lstore_n 1, 1) := by decide +kernel
theorem dX5_total_2 : decode cX5_total 2 = .ok (.iconst 0, 1) := by decide +kernel
theorem dX5_total_3 : decode cX5_total 3 = .ok (.istore_n 3, 1) := by decide +kernel
theorem dX5_total_4 : decode cX5_total 4 = .ok (.iload_n 3, 1) := by decide +kernel
theorem dX5_total_5 : decode cX5_total 5 = .ok (.aload_n 0, 1) := by decide +kernel
theorem dX5_total_6 : decode cX5_total 6 = .ok (.getfield 25, 3) := by decide +kernel
theorem dX5_total_9 : decode cX5_total 9 = .ok (.if_icmp .ge 20, 3) := by decide +kernel
theorem dX5_total_12 : decode cX5_total 12 = .ok (.lload_n 1, 1) := by decide +kernel
theorem dX5_total_13 : decode cX5_total 13 = .ok (.aload_n 0, 1) := by decide +kernel
theorem dX5_total_14 : decode cX5_total 14 = .ok (.getfield 21, 3) := by decide +kernel
theorem dX5_total_17 : decode cX5_total 17 = .ok (.iload_n 3, 1) := by decide +kernel
theorem dX5_total_18 : decode cX5_total 18 = .ok (.invokevirtual 36, 3) := by decide +kernel
theorem dX5_total_21 : decode cX5_total 21 = .ok (.ladd, 1) := by decide +kernel
theorem dX5_total_22 : decode cX5_total 22 = .ok (.lstore_n 1, 1) := by decide +kernel
theorem dX5_total_23 : decode cX5_total 23 = .ok (.iinc 3 1, 3) := by decide +kernel
theorem dX5_total_26 : decode cX5_total 26 = .ok (.goto (-22), 3) := by decide +kernel
theorem dX5_total_29 : decode cX5_total 29 = .ok (.lload_n 1, 1) := by decide +kernel
theorem dX5_total_30 : decode cX5_total 30 = .ok (.lreturn, 1) := by decide +kernel
theorem dX6_init_0 : decode cX6_init 0 = .ok (.aload_n 0, 1) := by decide +kernel
theorem dX6_init_1 : decode cX6_init 1 = .ok (.invokespecial 1, 3) := by decide +kernel
theorem dX6_init_4 : decode cX6_init 4 = .ok (.aload_n 0, 1) := by decide +kernel
theorem dX6_init_5 : decode cX6_init 5 = .ok (.iload_n 1, 1) := by decide +kernel
theorem dX6_init_6 : decode cX6_init 6 = .ok (.putfield 7, 3) := by decide +kernel
theorem dX6_init_9 : decode cX6_init 9 = .ok (.aload_n 0, 1) := by decide +kernel
theorem dX6_init_10 : decode cX6_init 10 = .ok (.bipush 16, 2) := by decide +kernel
theorem dX6_init_12 : decode cX6_init 12 = .ok (.newarray .long, 2) := by decide +kernel
theorem dX6_init_14 : decode cX6_init 14 = .ok (.putfield 13, 3) := by decide +kernel
theorem dX6_init_17 : decode cX6_init 17 = .ok (.return_, 1) := by decide +kernel
theorem dX6_at_0 : decode cX6_at 0 = .ok (.iload_n 1, 1) := by decide +kernel
theorem dX6_at_1 : decode cX6_at 1 = .ok (.ifCond .lt 21, 3) := by decide +kernel
theorem dX6_at_4 : decode cX6_at 4 = .ok (.iload_n 1, 1) := by decide +kernel
theorem dX6_at_5 : decode cX6_at 5 = .ok (.aload_n 0, 1) := by decide +kernel
theorem dX6_at_6 : decode cX6_at 6 = .ok (.getfield 13, 3) := by decide +kernel
theorem dX6_at_9 : decode cX6_at 9 = .ok (.arraylength, 1) := by decide +kernel
theorem dX6_at_10 : decode cX6_at 10 = .ok (.if_icmp .ge 12, 3) := by decide +kernel
theorem dX6_at_13 : decode cX6_at 13 = .ok (.aload_n 0, 1) := by decide +kernel
theorem dX6_at_14 : decode cX6_at 14 = .ok (.getfield 13, 3) := by decide +kernel
theorem dX6_at_17 : decode cX6_at 17 = .ok (.iload_n 1, 1) := by decide +kernel
theorem dX6_at_18 : decode cX6_at 18 = .ok (.laload, 1) := by decide +kernel
theorem dX6_at_19 : decode cX6_at 19 = .ok (.goto 4, 3) := by decide +kernel
theorem dX6_at_22 : decode cX6_at 22 = .ok (.lconst 0, 1) := by decide +kernel
theorem dX6_at_23 : decode cX6_at 23 = .ok (.lreturn, 1) := by decide +kernel
theorem dX6_put_0 : decode cX6_put 0 = .ok (.iload_n 1, 1) := by decide +kernel
theorem dX6_put_1 : decode cX6_put 1 = .ok (.ifCond .lt 11, 3) := by decide +kernel
theorem dX6_put_4 : decode cX6_put 4 = .ok (.iload_n 1, 1) := by decide +kernel
theorem dX6_put_5 : decode cX6_put 5 = .ok (.aload_n 0, 1) := by decide +kernel
theorem dX6_put_6 : decode cX6_put 6 = .ok (.getfield 7, 3) := by decide +kernel
theorem dX6_put_9 : decode cX6_put 9 = .ok (.if_icmp .lt 4, 3) := by decide +kernel
theorem dX6_put_12 : decode cX6_put 12 = .ok (.return_, 1) := by decide +kernel
theorem dX6_put_13 : decode cX6_put 13 = .ok (.iload_n 1, 1) := by decide +kernel
theorem dX6_put_14 : decode cX6_put 14 = .ok (.aload_n 0, 1) := by decide +kernel
theorem dX6_put_15 : decode cX6_put 15 = .ok (.getfield 13, 3) := by decide +kernel
theorem dX6_put_18 : decode cX6_put 18 = .ok (.arraylength, 1) := by decide +kernel
theorem dX6_put_19 : decode cX6_put 19 = .ok (.if_icmp .lt 34, 3) := by decide +kernel
theorem dX6_put_22 : decode cX6_put 22 = .ok (.aload_n 0, 1) := by decide +kernel
theorem dX6_put_23 : decode cX6_put 23 = .ok (.aload_n 0, 1) := by decide +kernel
theorem dX6_put_24 : decode cX6_put 24 = .ok (.getfield 13, 3) := by decide +kernel
theorem dX6_put_27 : decode cX6_put 27 = .ok (.iload_n 1, 1) := by decide +kernel
theorem dX6_put_28 : decode cX6_put 28 = .ok (.iconst 1, 1) := by decide +kernel
theorem dX6_put_29 : decode cX6_put 29 = .ok (.iadd, 1) := by decide +kernel
theorem dX6_put_30 : decode cX6_put 30 = .ok (.aload_n 0, 1) := by decide +kernel
theorem dX6_put_31 : decode cX6_put 31 = .ok (.getfield 7, 3) := by decide +kernel
theorem dX6_put_34 : decode cX6_put 34 = .ok (.iconst 2, 1) := by decide +kernel
theorem dX6_put_35 : decode cX6_put 35 = .ok (.aload_n 0, 1) := by decide +kernel
theorem dX6_put_36 : decode cX6_put 36 = .ok (.getfield 13, 3) := by decide +kernel
theorem dX6_put_39 : decode cX6_put 39 = .ok (.arraylength, 1) := by decide +kernel
theorem dX6_put_40 : decode cX6_put 40 = .ok (.imul, 1) := by decide +kernel
theorem dX6_put_41 : decode cX6_put 41 = .ok (.invokestatic 17, 3) := by decide +kernel
theorem dX6_put_44 : decode cX6_put 44 = .ok (.invokestatic 23, 3) := by decide +kernel
theorem dX6_put_47 : decode cX6_put 47 = .ok (.invokestatic 26, 3) := by decide +kernel
theorem dX6_put_50 : decode cX6_put 50 = .ok (.putfield 13, 3) := by decide +kernel
theorem dX6_put_53 : decode cX6_put 53 = .ok (.aload_n 0, 1) := by decide +kernel
theorem dX6_put_54 : decode cX6_put 54 = .ok (.getfield 13, 3) := by decide +kernel
theorem dX6_put_57 : decode cX6_put 57 = .ok (.iload_n 1, 1) := by decide +kernel
theorem dX6_put_58 : decode cX6_put 58 = .ok (.lload_n 2, 1) := by decide +kernel
theorem dX6_put_59 : decode cX6_put 59 = .ok (.lastore, 1) := by decide +kernel
theorem dX6_put_60 : decode cX6_put 60 = .ok (.return_, 1) := by decide +kernel
theorem dX6_addTo_0 : decode cX6_addTo 0 = .ok (.aload_n 0, 1) := by decide +kernel
theorem dX6_addTo_1 : decode cX6_addTo 1 = .ok (.iload_n 1, 1) := by decide +kernel
theorem dX6_addTo_2 : decode cX6_addTo 2 = .ok (.aload_n 0, 1) := by decide +kernel
theorem dX6_addTo_3 : decode cX6_addTo 3 = .ok (.iload_n 1, 1) := by decide +kernel
theorem dX6_addTo_4 : decode cX6_addTo 4 = .ok (.invokevirtual 32, 3) := by decide +kernel
theorem dX6_addTo_7 : decode cX6_addTo 7 = .ok (.lload_n 2, 1) := by decide +kernel
theorem dX6_addTo_8 : decode cX6_addTo 8 = .ok (.ladd, 1) := by decide +kernel
theorem dX6_addTo_9 : decode cX6_addTo 9 = .ok (.invokevirtual 36, 3) := by decide +kernel
theorem dX6_addTo_12 : decode cX6_addTo 12 = .ok (.return_, 1) := by decide +kernel
theorem dX6_clear_0 : decode cX6_clear 0 = .ok (.aload_n 0, 1) := by decide +kernel
theorem dX6_clear_1 : decode cX6_clear 1 = .ok (.getfield 13, 3) := by decide +kernel
theorem dX6_clear_4 : decode cX6_clear 4 = .ok (.lconst 0, 1) := by decide +kernel
theorem dX6_clear_5 : decode cX6_clear 5 = .ok (.invokestatic 40, 3) := by decide +kernel
theorem dX6_clear_8 : decode cX6_clear 8 = .ok (.return_, 1) := by decide +kernel
theorem dX7_init_0 : decode cX7_init 0 = .ok (.aload_n 0, 1) := by decide +kernel
theorem dX7_init_1 : decode cX7_init 1 = .ok (.invokespecial 3, 3) := by decide +kernel
theorem dX7_init_4 : decode cX7_init 4 = .ok (.aload_n 0, 1) := by decide +kernel
theorem dX7_init_5 : decode cX7_init 5 = .ok (.new 9, 3) := by decide +kernel
theorem dX7_init_8 : decode cX7_init 8 = .ok (.dup, 1) := by decide +kernel
theorem dX7_init_9 : decode cX7_init 9 = .ok (.bipush 24, 2) := by decide +kernel
theorem dX7_init_11 : decode cX7_init 11 = .ok (.invokespecial 11, 3) := by decide +kernel
theorem dX7_init_14 : decode cX7_init 14 = .ok (.putfield 14, 3) := by decide +kernel
theorem dX7_init_17 : decode cX7_init 17 = .ok (.aload_n 0, 1) := by decide +kernel
theorem dX7_init_18 : decode cX7_init 18 = .ok (.new 9, 3) := by decide +kernel
theorem dX7_init_21 : decode cX7_init 21 = .ok (.dup, 1) := by decide +kernel
theorem dX7_init_22 : decode cX7_init 22 = .ok (.bipush 24, 2) := by decide +kernel
theorem dX7_init_24 : decode cX7_init 24 = .ok (.invokespecial 11, 3) := by decide +kernel
theorem dX7_init_27 : decode cX7_init 27 = .ok (.putfield 20, 3) := by decide +kernel
theorem dX7_init_30 : decode cX7_init 30 = .ok (.return_, 1) := by decide +kernel
theorem dX7_clear_0 : decode cX7_clear 0 = .ok (.aload_n 0, 1) := by decide +kernel
theorem dX7_clear_1 : decode cX7_clear 1 = .ok (.iconst 0, 1) := by decide +kernel
theorem dX7_clear_2 : decode cX7_clear 2 = .ok (.putfield 23, 3) := by decide +kernel
theorem dX7_clear_5 : decode cX7_clear 5 = .ok (.aload_n 0, 1) := by decide +kernel
theorem dX7_clear_6 : decode cX7_clear 6 = .ok (.iconst 0, 1) := by decide +kernel
theorem dX7_clear_7 : decode cX7_clear 7 = .ok (.putfield 27, 3) := by decide +kernel
theorem dX7_clear_10 : decode cX7_clear 10 = .ok (.return_, 1) := by decide +kernel
theorem dX7_has_0 : decode cX7_has 0 = .ok (.iload_n 1, 1) := by decide +kernel
theorem dX7_has_1 : decode cX7_has 1 = .ok (.ifCond .lt 15, 3) := by decide +kernel
theorem dX7_has_4 : decode cX7_has 4 = .ok (.iload_n 1, 1) := by decide +kernel
theorem dX7_has_5 : decode cX7_has 5 = .ok (.aload_n 0, 1) := by decide +kernel
theorem dX7_has_6 : decode cX7_has 6 = .ok (.getfield 23, 3) := by decide +kernel
theorem dX7_has_9 : decode cX7_has 9 = .ok (.if_icmp .ge 7, 3) := by decide +kernel
theorem dX7_has_12 : decode cX7_has 12 = .ok (.iconst 1, 1) := by decide +kernel
theorem dX7_has_13 : decode cX7_has 13 = .ok (.goto 4, 3) := by decide +kernel
theorem dX7_has_16 : decode cX7_has 16 = .ok (.iconst 0, 1) := by decide +kernel
theorem dX7_has_17 : decode cX7_has 17 = .ok (.ireturn, 1) := by decide +kernel
theorem dX7_add_0 : decode cX7_add 0 = .ok (.aload_n 0, 1) := by decide +kernel
theorem dX7_add_1 : decode cX7_add 1 = .ok (.getfield 23, 3) := by decide +kernel
theorem dX7_add_4 : decode cX7_add 4 = .ok (.istore_n 2, 1) := by decide +kernel
theorem dX7_add_5 : decode cX7_add 5 = .ok (.aload_n 0, 1) := by decide +kernel
theorem dX7_add_6 : decode cX7_add 6 = .ok (.getfield 14, 3) := by decide +kernel
theorem dX7_add_9 : decode cX7_add 9 = .ok (.iload_n 2, 1) := by decide +kernel
theorem dX7_add_10 : decode cX7_add 10 = .ok (.iload_n 1, 1) := by decide +kernel
theorem dX7_add_11 : decode cX7_add 11 = .ok (.invokevirtual 30, 3) := by decide +kernel
theorem dX7_add_14 : decode cX7_add 14 = .ok (.aload_n 0, 1) := by decide +kernel
theorem dX7_add_15 : decode cX7_add 15 = .ok (.getfield 20, 3) := by decide +kernel
theorem dX7_add_18 : decode cX7_add 18 = .ok (.iload_n 2, 1) := by decide +kernel
theorem dX7_add_19 : decode cX7_add 19 = .ok (.iconst (-1), 1) := by decide +kernel
theorem dX7_add_20 : decode cX7_add 20 = .ok (.invokevirtual 30, 3) := by decide +kernel
theorem dX7_add_23 : decode cX7_add 23 = .ok (.aload_n 0, 1) := by decide +kernel
theorem dX7_add_24 : decode cX7_add 24 = .ok (.dup, 1) := by decide +kernel
theorem dX7_add_25 : decode cX7_add 25 = .ok (.getfield 23, 3) := by decide +kernel
theorem dX7_add_28 : decode cX7_add 28 = .ok (.iconst 1, 1) := by decide +kernel
theorem dX7_add_29 : decode cX7_add 29 = .ok (.iadd, 1) := by decide +kernel
theorem dX7_add_30 : decode cX7_add 30 = .ok (.putfield 23, 3) := by decide +kernel
theorem dX7_add_33 : decode cX7_add 33 = .ok (.iload_n 2, 1) := by decide +kernel
theorem dX7_add_34 : decode cX7_add 34 = .ok (.ireturn, 1) := by decide +kernel
theorem dX7_firstDay_0 : decode cX7_firstDay 0 = .ok (.iload_n 1, 1) := by decide +kernel
theorem dX7_firstDay_1 : decode cX7_firstDay 1 = .ok (.ifCond .ne 7, 3) := by decide +kernel
theorem dX7_firstDay_4 : decode cX7_firstDay 4 = .ok (.iconst 0, 1) := by decide +kernel
theorem dX7_firstDay_5 : decode cX7_firstDay 5 = .ok (.goto 15, 3) := by decide +kernel
theorem dX7_firstDay_8 : decode cX7_firstDay 8 = .ok (.aload_n 0, 1) := by decide +kernel
theorem dX7_firstDay_9 : decode cX7_firstDay 9 = .ok (.getfield 14, 3) := by decide +kernel
theorem dX7_firstDay_12 : decode cX7_firstDay 12 = .ok (.iload_n 1, 1) := by decide +kernel
theorem dX7_firstDay_13 : decode cX7_firstDay 13 = .ok (.iconst 1, 1) := by decide +kernel
theorem dX7_firstDay_14 : decode cX7_firstDay 14 = .ok (.isub, 1) := by decide +kernel
theorem dX7_firstDay_15 : decode cX7_firstDay 15 = .ok (.invokevirtual 34, 3) := by decide +kernel
theorem dX7_firstDay_18 : decode cX7_firstDay 18 = .ok (.iconst 1, 1) := by decide +kernel
theorem dX7_firstDay_19 : decode cX7_firstDay 19 = .ok (.iadd, 1) := by decide +kernel
theorem dX7_firstDay_20 : decode cX7_firstDay 20 = .ok (.ireturn, 1) := by decide +kernel
theorem dX7_lastDay_0 : decode cX7_lastDay 0 = .ok (.aload_n 0, 1) := by decide +kernel
theorem dX7_lastDay_1 : decode cX7_lastDay 1 = .ok (.getfield 14, 3) := by decide +kernel
theorem dX7_lastDay_4 : decode cX7_lastDay 4 = .ok (.iload_n 1, 1) := by decide +kernel
theorem dX7_lastDay_5 : decode cX7_lastDay 5 = .ok (.invokevirtual 34, 3) := by decide +kernel
theorem dX7_lastDay_8 : decode cX7_lastDay 8 = .ok (.ireturn, 1) := by decide +kernel
theorem dX7_firstFreeDay_0 : decode cX7_firstFreeDay 0 = .ok (.aload_n 0, 1) := by decide +kernel
theorem dX7_firstFreeDay_1 : decode cX7_firstFreeDay 1 = .ok (.aload_n 0, 1) := by decide +kernel
theorem dX7_firstFreeDay_2 : decode cX7_firstFreeDay 2 = .ok (.getfield 23, 3) := by decide +kernel
theorem dX7_firstFreeDay_5 : decode cX7_firstFreeDay 5 = .ok (.invokevirtual 38, 3) := by decide +kernel
theorem dX7_firstFreeDay_8 : decode cX7_firstFreeDay 8 = .ok (.ireturn, 1) := by decide +kernel
theorem dX7_withDay_0 : decode cX7_withDay 0 = .ok (.iconst 0, 1) := by decide +kernel
theorem dX7_withDay_1 : decode cX7_withDay 1 = .ok (.istore_n 2, 1) := by decide +kernel
theorem dX7_withDay_2 : decode cX7_withDay 2 = .ok (.iload_n 2, 1) := by decide +kernel
theorem dX7_withDay_3 : decode cX7_withDay 3 = .ok (.aload_n 0, 1) := by decide +kernel
theorem dX7_withDay_4 : decode cX7_withDay 4 = .ok (.getfield 23, 3) := by decide +kernel
theorem dX7_withDay_7 : decode cX7_withDay 7 = .ok (.if_icmp .ge 27, 3) := by decide +kernel
theorem dX7_withDay_10 : decode cX7_withDay 10 = .ok (.iload_n 1, 1) := by decide +kernel
theorem dX7_withDay_11 : decode cX7_withDay 11 = .ok (.ifCond .lt 17, 3) := by decide +kernel
theorem dX7_withDay_14 : decode cX7_withDay 14 = .ok (.iload_n 1, 1) := by decide +kernel
theorem dX7_withDay_15 : decode cX7_withDay 15 = .ok (.aload_n 0, 1) := by decide +kernel
theorem dX7_withDay_16 : decode cX7_withDay 16 = .ok (.getfield 14, 3) := by decide +kernel
theorem dX7_withDay_19 : decode cX7_withDay 19 = .ok (.iload_n 2, 1) := by decide +kernel
theorem dX7_withDay_20 : decode cX7_withDay 20 = .ok (.invokevirtual 34, 3) := by decide +kernel
theorem dX7_withDay_23 : decode cX7_withDay 23 = .ok (.if_icmp .gt 5, 3) := by decide +kernel
theorem dX7_withDay_26 : decode cX7_withDay 26 = .ok (.iload_n 2, 1) := by decide +kernel
theorem dX7_withDay_27 : decode cX7_withDay 27 = .ok (.ireturn, 1) := by decide +kernel
theorem dX7_withDay_28 : decode cX7_withDay 28 = .ok (.iinc 2 1, 3) := by decide +kernel
theorem dX7_withDay_31 : decode cX7_withDay 31 = .ok (.goto (-29), 3) := by decide +kernel
theorem dX7_withDay_34 : decode cX7_withDay 34 = .ok (.iconst (-1), 1) := by decide +kernel
theorem dX7_withDay_35 : decode cX7_withDay 35 = .ok (.ireturn, 1) := by decide +kernel
theorem dX7_closingOf_0 : decode cX7_closingOf 0 = .ok (.aload_n 0, 1) := by decide +kernel
theorem dX7_closingOf_1 : decode cX7_closingOf 1 = .ok (.getfield 20, 3) := by decide +kernel
theorem dX7_closingOf_4 : decode cX7_closingOf 4 = .ok (.iload_n 1, 1) := by decide +kernel
theorem dX7_closingOf_5 : decode cX7_closingOf 5 = .ok (.invokevirtual 34, 3) := by decide +kernel
theorem dX7_closingOf_8 : decode cX7_closingOf 8 = .ok (.ireturn, 1) := by decide +kernel
theorem dX7_closeFirstOpen_0 : decode cX7_closeFirstOpen 0 = .ok (.aload_n 0, 1) := by decide +kernel
theorem dX7_closeFirstOpen_1 : decode cX7_closeFirstOpen 1 = .ok (.getfield 20, 3) := by decide +kernel
theorem dX7_closeFirstOpen_4 : decode cX7_closeFirstOpen 4 = .ok (.aload_n 0, 1) := by decide +kernel
theorem dX7_closeFirstOpen_5 : decode cX7_closeFirstOpen 5 = .ok (.getfield 27, 3) := by decide +kernel
theorem dX7_closeFirstOpen_8 : decode cX7_closeFirstOpen 8 = .ok (.iload_n 1, 1) := by decide +kernel
theorem dX7_closeFirstOpen_9 : decode cX7_closeFirstOpen 9 = .ok (.invokevirtual 30, 3) := by decide +kernel
theorem dX7_closeFirstOpen_12 : decode cX7_closeFirstOpen 12 = .ok (.aload_n 0, 1) := by decide +kernel
theorem dX7_closeFirstOpen_13 : decode cX7_closeFirstOpen 13 = .ok (.dup, 1) := by decide +kernel
theorem dX7_closeFirstOpen_14 : decode cX7_closeFirstOpen 14 = .ok (.getfield 27, 3) := by decide +kernel
theorem dX7_closeFirstOpen_17 : decode cX7_closeFirstOpen 17 = .ok (.iconst 1, 1) := by decide +kernel
theorem dX7_closeFirstOpen_18 : decode cX7_closeFirstOpen 18 = .ok (.iadd, 1) := by decide +kernel
theorem dX7_closeFirstOpen_19 : decode cX7_closeFirstOpen 19 = .ok (.putfield 27, 3) := by decide +kernel
theorem dX7_closeFirstOpen_22 : decode cX7_closeFirstOpen 22 = .ok (.return_, 1) := by decide +kernel
theorem dX7_openLastClosed_0 : decode cX7_openLastClosed 0 = .ok (.aload_n 0, 1) := by decide +kernel
theorem dX7_openLastClosed_1 : decode cX7_openLastClosed 1 = .ok (.dup, 1) := by decide +kernel
theorem dX7_openLastClosed_2 : decode cX7_openLastClosed 2 = .ok (.getfield 27, 3) := by decide +kernel
theorem dX7_openLastClosed_5 : decode cX7_openLastClosed 5 = .ok (.iconst 1, 1) := by decide +kernel
theorem dX7_openLastClosed_6 : decode cX7_openLastClosed 6 = .ok (.isub, 1) := by decide +kernel
theorem dX7_openLastClosed_7 : decode cX7_openLastClosed 7 = .ok (.putfield 27, 3) := by decide +kernel
theorem dX7_openLastClosed_10 : decode cX7_openLastClosed 10 = .ok (.aload_n 0, 1) := by decide +kernel
theorem dX7_openLastClosed_11 : decode cX7_openLastClosed 11 = .ok (.getfield 20, 3) := by decide +kernel
theorem dX7_openLastClosed_14 : decode cX7_openLastClosed 14 = .ok (.aload_n 0, 1) := by decide +kernel
theorem dX7_openLastClosed_15 : decode cX7_openLastClosed 15 = .ok (.getfield 27, 3) := by decide +kernel
theorem dX7_openLastClosed_18 : decode cX7_openLastClosed 18 = .ok (.iconst (-1), 1) := by decide +kernel
theorem dX7_openLastClosed_19 : decode cX7_openLastClosed 19 = .ok (.invokevirtual 30, 3) := by decide +kernel
theorem dX7_openLastClosed_22 : decode cX7_openLastClosed 22 = .ok (.return_, 1) := by decide +kernel
theorem dX7_told_0 : decode cX7_told 0 = .ok (.iload_n 2, 1) := by decide +kernel
theorem dX7_told_1 : decode cX7_told 1 = .ok (.tableswitch 63 0 3 #[31, 37, 43, 57], 31) := by decide +kernel
theorem dX7_told_32 : decode cX7_told 32 = .ok (.aload_n 0, 1) := by decide +kernel
theorem dX7_told_33 : decode cX7_told 33 = .ok (.iload_n 1, 1) := by decide +kernel
theorem dX7_told_34 : decode cX7_told 34 = .ok (.invokevirtual 38, 3) := by decide +kernel
theorem dX7_told_37 : decode cX7_told 37 = .ok (.ireturn, 1) := by decide +kernel
theorem dX7_told_38 : decode cX7_told 38 = .ok (.aload_n 0, 1) := by decide +kernel
theorem dX7_told_39 : decode cX7_told 39 = .ok (.iload_n 1, 1) := by decide +kernel
theorem dX7_told_40 : decode cX7_told 40 = .ok (.invokevirtual 41, 3) := by decide +kernel
theorem dX7_told_43 : decode cX7_told 43 = .ok (.ireturn, 1) := by decide +kernel
theorem dX7_told_44 : decode cX7_told 44 = .ok (.iload_n 1, 1) := by decide +kernel
theorem dX7_told_45 : decode cX7_told 45 = .ok (.aload_n 0, 1) := by decide +kernel
theorem dX7_told_46 : decode cX7_told 46 = .ok (.getfield 27, 3) := by decide +kernel
theorem dX7_told_49 : decode cX7_told 49 = .ok (.if_icmp .ge 7, 3) := by decide +kernel
theorem dX7_told_52 : decode cX7_told 52 = .ok (.iconst 1, 1) := by decide +kernel
theorem dX7_told_53 : decode cX7_told 53 = .ok (.goto 4, 3) := by decide +kernel
theorem dX7_told_56 : decode cX7_told 56 = .ok (.iconst 0, 1) := by decide +kernel
theorem dX7_told_57 : decode cX7_told 57 = .ok (.ireturn, 1) := by decide +kernel
theorem dX7_told_58 : decode cX7_told 58 = .ok (.aload_n 0, 1) := by decide +kernel
theorem dX7_told_59 : decode cX7_told 59 = .ok (.iload_n 1, 1) := by decide +kernel
theorem dX7_told_60 : decode cX7_told 60 = .ok (.invokevirtual 44, 3) := by decide +kernel
theorem dX7_told_63 : decode cX7_told 63 = .ok (.ireturn, 1) := by decide +kernel
theorem dX7_told_64 : decode cX7_told 64 = .ok (.bipush (-3), 2) := by decide +kernel
theorem dX7_told_66 : decode cX7_told 66 = .ok (.ireturn, 1) := by decide +kernel
theorem dX8_init_0 : decode cX8_init 0 = .ok (.aload_n 0, 1) := by decide +kernel
theorem dX8_init_1 : decode cX8_init 1 = .ok (.invokespecial 3, 3) := by decide +kernel
theorem dX8_init_4 : decode cX8_init 4 = .ok (.aload_n 0, 1) := by decide +kernel
theorem dX8_init_5 : decode cX8_init 5 = .ok (.new 9, 3) := by decide +kernel
theorem dX8_init_8 : decode cX8_init 8 = .ok (.dup, 1) := by decide +kernel
theorem dX8_init_9 : decode cX8_init 9 = .ok (.bipush 60, 2) := by decide +kernel
theorem dX8_init_11 : decode cX8_init 11 = .ok (.invokespecial 11, 3) := by decide +kernel
theorem dX8_init_14 : decode cX8_init 14 = .ok (.putfield 14, 3) := by decide +kernel
theorem dX8_init_17 : decode cX8_init 17 = .ok (.aload_n 0, 1) := by decide +kernel
theorem dX8_init_18 : decode cX8_init 18 = .ok (.aload_n 1, 1) := by decide +kernel
theorem dX8_init_19 : decode cX8_init 19 = .ok (.putfield 20, 3) := by decide +kernel
theorem dX8_init_22 : decode cX8_init 22 = .ok (.aload_n 0, 1) := by decide +kernel
theorem dX8_init_23 : decode cX8_init 23 = .ok (.aload_n 2, 1) := by decide +kernel
theorem dX8_init_24 : decode cX8_init 24 = .ok (.putfield 24, 3) := by decide +kernel
theorem dX8_init_27 : decode cX8_init 27 = .ok (.return_, 1) := by decide +kernel
theorem dX8_redoAll_0 : decode cX8_redoAll 0 = .ok (.aload_n 0, 1) := by decide +kernel
theorem dX8_redoAll_1 : decode cX8_redoAll 1 = .ok (.getfield 24, 3) := by decide +kernel
theorem dX8_redoAll_4 : decode cX8_redoAll 4 = .ok (.invokevirtual 28, 3) := by decide +kernel
theorem dX8_redoAll_7 : decode cX8_redoAll 7 = .ok (.iconst 0, 1) := by decide +kernel
theorem dX8_redoAll_8 : decode cX8_redoAll 8 = .ok (.istore_n 1, 1) := by decide +kernel
theorem dX8_redoAll_9 : decode cX8_redoAll 9 = .ok (.iconst 0, 1) := by decide +kernel
theorem dX8_redoAll_10 : decode cX8_redoAll 10 = .ok (.istore_n 2, 1) := by decide +kernel
theorem dX8_redoAll_11 : decode cX8_redoAll 11 = .ok (.aload_n 0, 1) := by decide +kernel
theorem dX8_redoAll_12 : decode cX8_redoAll 12 = .ok (.getfield 20, 3) := by decide +kernel
theorem dX8_redoAll_15 : decode cX8_redoAll 15 = .ok (.iload_n 1, 1) := by decide +kernel
theorem dX8_redoAll_16 : decode cX8_redoAll 16 = .ok (.invokevirtual 33, 3) := by decide +kernel
theorem dX8_redoAll_19 : decode cX8_redoAll 19 = .ok (.istore_n 3, 1) := by decide +kernel
theorem dX8_redoAll_20 : decode cX8_redoAll 20 = .ok (.iload_n 3, 1) := by decide +kernel
theorem dX8_redoAll_21 : decode cX8_redoAll 21 = .ok (.ifCond .le 38, 3) := by decide +kernel
theorem dX8_redoAll_24 : decode cX8_redoAll 24 = .ok (.iload_n 1, 1) := by decide +kernel
theorem dX8_redoAll_25 : decode cX8_redoAll 25 = .ok (.sipush 6000, 3) := by decide +kernel
theorem dX8_redoAll_28 : decode cX8_redoAll 28 = .ok (.if_icmp .ge 31, 3) := by decide +kernel
theorem dX8_redoAll_31 : decode cX8_redoAll 31 = .ok (.aload_n 0, 1) := by decide +kernel
theorem dX8_redoAll_32 : decode cX8_redoAll 32 = .ok (.iload_n 1, 1) := by decide +kernel
theorem dX8_redoAll_33 : decode cX8_redoAll 33 = .ok (.iload_n 3, 1) := by decide +kernel
theorem dX8_redoAll_34 : decode cX8_redoAll 34 = .ok (.invokevirtual 39, 3) := by decide +kernel
theorem dX8_redoAll_37 : decode cX8_redoAll 37 = .ok (.ifCond .eq 22, 3) := by decide +kernel
theorem dX8_redoAll_40 : decode cX8_redoAll 40 = .ok (.iload_n 1, 1) := by decide +kernel
theorem dX8_redoAll_41 : decode cX8_redoAll 41 = .ok (.iload_n 3, 1) := by decide +kernel
theorem dX8_redoAll_42 : decode cX8_redoAll 42 = .ok (.iadd, 1) := by decide +kernel
theorem dX8_redoAll_43 : decode cX8_redoAll 43 = .ok (.istore_n 1, 1) := by decide +kernel
theorem dX8_redoAll_44 : decode cX8_redoAll 44 = .ok (.iinc 2 1, 3) := by decide +kernel
theorem dX8_redoAll_47 : decode cX8_redoAll 47 = .ok (.aload_n 0, 1) := by decide +kernel
theorem dX8_redoAll_48 : decode cX8_redoAll 48 = .ok (.getfield 20, 3) := by decide +kernel
theorem dX8_redoAll_51 : decode cX8_redoAll 51 = .ok (.iload_n 1, 1) := by decide +kernel
theorem dX8_redoAll_52 : decode cX8_redoAll 52 = .ok (.invokevirtual 33, 3) := by decide +kernel
theorem dX8_redoAll_55 : decode cX8_redoAll 55 = .ok (.istore_n 3, 1) := by decide +kernel
theorem dX8_redoAll_56 : decode cX8_redoAll 56 = .ok (.goto (-36), 3) := by decide +kernel
theorem dX8_redoAll_59 : decode cX8_redoAll 59 = .ok (.aload_n 0, 1) := by decide +kernel
theorem dX8_redoAll_60 : decode cX8_redoAll 60 = .ok (.getfield 20, 3) := by decide +kernel
theorem dX8_redoAll_63 : decode cX8_redoAll 63 = .ok (.iload_n 1, 1) := by decide +kernel
theorem dX8_redoAll_64 : decode cX8_redoAll 64 = .ok (.iload_n 2, 1) := by decide +kernel
theorem dX8_redoAll_65 : decode cX8_redoAll 65 = .ok (.invokevirtual 43, 3) := by decide +kernel
theorem dX8_redoAll_68 : decode cX8_redoAll 68 = .ok (.return_, 1) := by decide +kernel
theorem dX8_redo_0 : decode cX8_redo 0 = .ok (.aload_n 0, 1) := by decide +kernel
theorem dX8_redo_1 : decode cX8_redo 1 = .ok (.iload_n 1, 1) := by decide +kernel
theorem dX8_redo_2 : decode cX8_redo 2 = .ok (.iconst 2, 1) := by decide +kernel
theorem dX8_redo_3 : decode cX8_redo 3 = .ok (.iadd, 1) := by decide +kernel
theorem dX8_redo_4 : decode cX8_redo 4 = .ok (.putfield 47, 3) := by decide +kernel
theorem dX8_redo_7 : decode cX8_redo 7 = .ok (.aload_n 0, 1) := by decide +kernel
theorem dX8_redo_8 : decode cX8_redo 8 = .ok (.iload_n 1, 1) := by decide +kernel
theorem dX8_redo_9 : decode cX8_redo 9 = .ok (.iload_n 2, 1) := by decide +kernel
theorem dX8_redo_10 : decode cX8_redo 10 = .ok (.iadd, 1) := by decide +kernel
theorem dX8_redo_11 : decode cX8_redo 11 = .ok (.iconst 2, 1) := by decide +kernel
theorem dX8_redo_12 : decode cX8_redo 12 = .ok (.isub, 1) := by decide +kernel
theorem dX8_redo_13 : decode cX8_redo 13 = .ok (.putfield 51, 3) := by decide +kernel
theorem dX8_redo_16 : decode cX8_redo 16 = .ok (.aload_n 0, 1) := by decide +kernel
theorem dX8_redo_17 : decode cX8_redo 17 = .ok (.iconst 0, 1) := by decide +kernel
theorem dX8_redo_18 : decode cX8_redo 18 = .ok (.putfield 54, 3) := by decide +kernel
theorem dX8_redo_21 : decode cX8_redo 21 = .ok (.aload_n 0, 1) := by decide +kernel
theorem dX8_redo_22 : decode cX8_redo 22 = .ok (.getfield 20, 3) := by decide +kernel
theorem dX8_redo_25 : decode cX8_redo 25 = .ok (.getfield 58, 3) := by decide +kernel
theorem dX8_redo_28 : decode cX8_redo 28 = .ok (.iload_n 1, 1) := by decide +kernel
theorem dX8_redo_29 : decode cX8_redo 29 = .ok (.iconst 1, 1) := by decide +kernel
theorem dX8_redo_30 : decode cX8_redo 30 = .ok (.iadd, 1) := by decide +kernel
theorem dX8_redo_31 : decode cX8_redo 31 = .ok (.invokevirtual 62, 3) := by decide +kernel
theorem dX8_redo_34 : decode cX8_redo 34 = .ok (.tableswitch 86 1 8 #[46, 51, 56, 61, 66, 71, 76, 81], 46) := by decide +kernel
theorem dX8_redo_80 : decode cX8_redo 80 = .ok (.aload_n 0, 1) := by decide +kernel
theorem dX8_redo_81 : decode cX8_redo 81 = .ok (.invokevirtual 66, 3) := by decide +kernel
theorem dX8_redo_84 : decode cX8_redo 84 = .ok (.ireturn, 1) := by decide +kernel
theorem dX8_redo_85 : decode cX8_redo 85 = .ok (.aload_n 0, 1) := by decide +kernel
theorem dX8_redo_86 : decode cX8_redo 86 = .ok (.invokevirtual 70, 3) := by decide +kernel
theorem dX8_redo_89 : decode cX8_redo 89 = .ok (.ireturn, 1) := by decide +kernel
theorem dX8_redo_90 : decode cX8_redo 90 = .ok (.aload_n 0, 1) := by decide +kernel
theorem dX8_redo_91 : decode cX8_redo 91 = .ok (.invokevirtual 73, 3) := by decide +kernel
theorem dX8_redo_94 : decode cX8_redo 94 = .ok (.ireturn, 1) := by decide +kernel
theorem dX8_redo_95 : decode cX8_redo 95 = .ok (.aload_n 0, 1) := by decide +kernel
theorem dX8_redo_96 : decode cX8_redo 96 = .ok (.invokevirtual 76, 3) := by decide +kernel
theorem dX8_redo_99 : decode cX8_redo 99 = .ok (.ireturn, 1) := by decide +kernel
theorem dX8_redo_100 : decode cX8_redo 100 = .ok (.aload_n 0, 1) := by decide +kernel
theorem dX8_redo_101 : decode cX8_redo 101 = .ok (.invokevirtual 79, 3) := by decide +kernel
theorem dX8_redo_104 : decode cX8_redo 104 = .ok (.ireturn, 1) := by decide +kernel
theorem dX8_redo_105 : decode cX8_redo 105 = .ok (.aload_n 0, 1) := by decide +kernel
theorem dX8_redo_106 : decode cX8_redo 106 = .ok (.invokevirtual 82, 3) := by decide +kernel
theorem dX8_redo_109 : decode cX8_redo 109 = .ok (.ireturn, 1) := by decide +kernel
theorem dX8_redo_110 : decode cX8_redo 110 = .ok (.aload_n 0, 1) := by decide +kernel
theorem dX8_redo_111 : decode cX8_redo 111 = .ok (.invokevirtual 85, 3) := by decide +kernel
theorem dX8_redo_114 : decode cX8_redo 114 = .ok (.ireturn, 1) := by decide +kernel
theorem dX8_redo_115 : decode cX8_redo 115 = .ok (.aload_n 0, 1) := by decide +kernel
theorem dX8_redo_116 : decode cX8_redo 116 = .ok (.invokevirtual 88, 3) := by decide +kernel
theorem dX8_redo_119 : decode cX8_redo 119 = .ok (.ireturn, 1) := by decide +kernel
theorem dX8_redo_120 : decode cX8_redo 120 = .ok (.iconst 0, 1) := by decide +kernel
theorem dX8_redo_121 : decode cX8_redo 121 = .ok (.ireturn, 1) := by decide +kernel
end
section
theorem dX8_redoAccount_0 : decode cX8_redoAccount 0 = .ok (.aload_n 0, 1) := by decide +kernel
theorem dX8_redoAccount_1 : decode cX8_redoAccount 1 = .ok (.invokevirtual 91, 3) := by decide +kernel
theorem dX8_redoAccount_4 : decode cX8_redoAccount 4 = .ok (.istore_n 1, 1) := by decide +kernel
theorem dX8_redoAccount_5 : decode cX8_redoAccount 5 = .ok (.aload_n 0, 1) := by decide +kernel
theorem dX8_redoAccount_6 : decode cX8_redoAccount 6 = .ok (.invokevirtual 91, 3) := by decide +kernel
theorem dX8_redoAccount_9 : decode cX8_redoAccount 9 = .ok (.istore_n 2, 1) := by decide +kernel
theorem dX8_redoAccount_10 : decode cX8_redoAccount 10 = .ok (.aload_n 0, 1) := by decide +kernel
theorem dX8_redoAccount_11 : decode cX8_redoAccount 11 = .ok (.invokevirtual 91, 3) := by decide +kernel
theorem dX8_redoAccount_14 : decode cX8_redoAccount 14 = .ok (.istore_n 3, 1) := by decide +kernel
theorem dX8_redoAccount_15 : decode cX8_redoAccount 15 = .ok (.aload_n 0, 1) := by decide +kernel
theorem dX8_redoAccount_16 : decode cX8_redoAccount 16 = .ok (.invokevirtual 95, 3) := by decide +kernel
theorem dX8_redoAccount_19 : decode cX8_redoAccount 19 = .ok (.istore 4, 2) := by decide +kernel
theorem dX8_redoAccount_21 : decode cX8_redoAccount 21 = .ok (.aload_n 0, 1) := by decide +kernel
theorem dX8_redoAccount_22 : decode cX8_redoAccount 22 = .ok (.invokevirtual 98, 3) := by decide +kernel
theorem dX8_redoAccount_25 : decode cX8_redoAccount 25 = .ok (.ifCond .eq 16, 3) := by decide +kernel
theorem dX8_redoAccount_28 : decode cX8_redoAccount 28 = .ok (.aload_n 0, 1) := by decide +kernel
theorem dX8_redoAccount_29 : decode cX8_redoAccount 29 = .ok (.getfield 24, 3) := by decide +kernel
theorem dX8_redoAccount_32 : decode cX8_redoAccount 32 = .ok (.iload_n 1, 1) := by decide +kernel
theorem dX8_redoAccount_33 : decode cX8_redoAccount 33 = .ok (.iload_n 2, 1) := by decide +kernel
theorem dX8_redoAccount_34 : decode cX8_redoAccount 34 = .ok (.iload_n 3, 1) := by decide +kernel
theorem dX8_redoAccount_35 : decode cX8_redoAccount 35 = .ok (.invokevirtual 101, 3) := by decide +kernel
theorem dX8_redoAccount_38 : decode cX8_redoAccount 38 = .ok (.ifCond .eq 5, 3) := by decide +kernel
theorem dX8_redoAccount_41 : decode cX8_redoAccount 41 = .ok (.iconst 0, 1) := by decide +kernel
theorem dX8_redoAccount_42 : decode cX8_redoAccount 42 = .ok (.ireturn, 1) := by decide +kernel
theorem dX8_redoAccount_43 : decode cX8_redoAccount 43 = .ok (.aload_n 0, 1) := by decide +kernel
theorem dX8_redoAccount_44 : decode cX8_redoAccount 44 = .ok (.getfield 24, 3) := by decide +kernel
theorem dX8_redoAccount_47 : decode cX8_redoAccount 47 = .ok (.getfield 105, 3) := by decide +kernel
theorem dX8_redoAccount_50 : decode cX8_redoAccount 50 = .ok (.iload_n 1, 1) := by decide +kernel
theorem dX8_redoAccount_51 : decode cX8_redoAccount 51 = .ok (.iload_n 2, 1) := by decide +kernel
theorem dX8_redoAccount_52 : decode cX8_redoAccount 52 = .ok (.iload_n 3, 1) := by decide +kernel
theorem dX8_redoAccount_53 : decode cX8_redoAccount 53 = .ok (.iload 4, 2) := by decide +kernel
theorem dX8_redoAccount_55 : decode cX8_redoAccount 55 = .ok (.invokevirtual 109, 3) := by decide +kernel
theorem dX8_redoAccount_58 : decode cX8_redoAccount 58 = .ok (.pop, 1) := by decide +kernel
theorem dX8_redoAccount_59 : decode cX8_redoAccount 59 = .ok (.iconst 1, 1) := by decide +kernel
theorem dX8_redoAccount_60 : decode cX8_redoAccount 60 = .ok (.ireturn, 1) := by decide +kernel
theorem dX8_redoShut_0 : decode cX8_redoShut 0 = .ok (.aload_n 0, 1) := by decide +kernel
theorem dX8_redoShut_1 : decode cX8_redoShut 1 = .ok (.invokevirtual 91, 3) := by decide +kernel
theorem dX8_redoShut_4 : decode cX8_redoShut 4 = .ok (.istore_n 1, 1) := by decide +kernel
theorem dX8_redoShut_5 : decode cX8_redoShut 5 = .ok (.aload_n 0, 1) := by decide +kernel
theorem dX8_redoShut_6 : decode cX8_redoShut 6 = .ok (.invokevirtual 95, 3) := by decide +kernel
theorem dX8_redoShut_9 : decode cX8_redoShut 9 = .ok (.istore_n 2, 1) := by decide +kernel
theorem dX8_redoShut_10 : decode cX8_redoShut 10 = .ok (.aload_n 0, 1) := by decide +kernel
theorem dX8_redoShut_11 : decode cX8_redoShut 11 = .ok (.invokevirtual 98, 3) := by decide +kernel
theorem dX8_redoShut_14 : decode cX8_redoShut 14 = .ok (.ifCond .eq 15, 3) := by decide +kernel
theorem dX8_redoShut_17 : decode cX8_redoShut 17 = .ok (.aload_n 0, 1) := by decide +kernel
theorem dX8_redoShut_18 : decode cX8_redoShut 18 = .ok (.getfield 24, 3) := by decide +kernel
theorem dX8_redoShut_21 : decode cX8_redoShut 21 = .ok (.iload_n 1, 1) := by decide +kernel
theorem dX8_redoShut_22 : decode cX8_redoShut 22 = .ok (.iload_n 2, 1) := by decide +kernel
theorem dX8_redoShut_23 : decode cX8_redoShut 23 = .ok (.invokevirtual 115, 3) := by decide +kernel
theorem dX8_redoShut_26 : decode cX8_redoShut 26 = .ok (.ifCond .eq 5, 3) := by decide +kernel
theorem dX8_redoShut_29 : decode cX8_redoShut 29 = .ok (.iconst 0, 1) := by decide +kernel
theorem dX8_redoShut_30 : decode cX8_redoShut 30 = .ok (.ireturn, 1) := by decide +kernel
theorem dX8_redoShut_31 : decode cX8_redoShut 31 = .ok (.aload_n 0, 1) := by decide +kernel
theorem dX8_redoShut_32 : decode cX8_redoShut 32 = .ok (.getfield 24, 3) := by decide +kernel
theorem dX8_redoShut_35 : decode cX8_redoShut 35 = .ok (.getfield 105, 3) := by decide +kernel
theorem dX8_redoShut_38 : decode cX8_redoShut 38 = .ok (.iload_n 1, 1) := by decide +kernel
theorem dX8_redoShut_39 : decode cX8_redoShut 39 = .ok (.iload_n 2, 1) := by decide +kernel
theorem dX8_redoShut_40 : decode cX8_redoShut 40 = .ok (.invokevirtual 119, 3) := by decide +kernel
theorem dX8_redoShut_43 : decode cX8_redoShut 43 = .ok (.iconst 1, 1) := by decide +kernel
theorem dX8_redoShut_44 : decode cX8_redoShut 44 = .ok (.ireturn, 1) := by decide +kernel
theorem dX8_redoPeriod_0 : decode cX8_redoPeriod 0 = .ok (.aload_n 0, 1) := by decide +kernel
theorem dX8_redoPeriod_1 : decode cX8_redoPeriod 1 = .ok (.invokevirtual 91, 3) := by decide +kernel
theorem dX8_redoPeriod_4 : decode cX8_redoPeriod 4 = .ok (.istore_n 1, 1) := by decide +kernel
theorem dX8_redoPeriod_5 : decode cX8_redoPeriod 5 = .ok (.aload_n 0, 1) := by decide +kernel
theorem dX8_redoPeriod_6 : decode cX8_redoPeriod 6 = .ok (.invokevirtual 98, 3) := by decide +kernel
theorem dX8_redoPeriod_9 : decode cX8_redoPeriod 9 = .ok (.ifCond .eq 14, 3) := by decide +kernel
theorem dX8_redoPeriod_12 : decode cX8_redoPeriod 12 = .ok (.aload_n 0, 1) := by decide +kernel
theorem dX8_redoPeriod_13 : decode cX8_redoPeriod 13 = .ok (.getfield 24, 3) := by decide +kernel
theorem dX8_redoPeriod_16 : decode cX8_redoPeriod 16 = .ok (.iload_n 1, 1) := by decide +kernel
theorem dX8_redoPeriod_17 : decode cX8_redoPeriod 17 = .ok (.invokevirtual 123, 3) := by decide +kernel
theorem dX8_redoPeriod_20 : decode cX8_redoPeriod 20 = .ok (.ifCond .eq 5, 3) := by decide +kernel
theorem dX8_redoPeriod_23 : decode cX8_redoPeriod 23 = .ok (.iconst 0, 1) := by decide +kernel
theorem dX8_redoPeriod_24 : decode cX8_redoPeriod 24 = .ok (.ireturn, 1) := by decide +kernel
theorem dX8_redoPeriod_25 : decode cX8_redoPeriod 25 = .ok (.aload_n 0, 1) := by decide +kernel
theorem dX8_redoPeriod_26 : decode cX8_redoPeriod 26 = .ok (.getfield 24, 3) := by decide +kernel
theorem dX8_redoPeriod_29 : decode cX8_redoPeriod 29 = .ok (.getfield 126, 3) := by decide +kernel
theorem dX8_redoPeriod_32 : decode cX8_redoPeriod 32 = .ok (.iload_n 1, 1) := by decide +kernel
theorem dX8_redoPeriod_33 : decode cX8_redoPeriod 33 = .ok (.invokevirtual 130, 3) := by decide +kernel
theorem dX8_redoPeriod_36 : decode cX8_redoPeriod 36 = .ok (.pop, 1) := by decide +kernel
theorem dX8_redoPeriod_37 : decode cX8_redoPeriod 37 = .ok (.iconst 1, 1) := by decide +kernel
theorem dX8_redoPeriod_38 : decode cX8_redoPeriod 38 = .ok (.ireturn, 1) := by decide +kernel
theorem dX8_redoOwner_0 : decode cX8_redoOwner 0 = .ok (.aload_n 0, 1) := by decide +kernel
theorem dX8_redoOwner_1 : decode cX8_redoOwner 1 = .ok (.invokevirtual 91, 3) := by decide +kernel
theorem dX8_redoOwner_4 : decode cX8_redoOwner 4 = .ok (.istore_n 1, 1) := by decide +kernel
theorem dX8_redoOwner_5 : decode cX8_redoOwner 5 = .ok (.aload_n 0, 1) := by decide +kernel
theorem dX8_redoOwner_6 : decode cX8_redoOwner 6 = .ok (.invokevirtual 98, 3) := by decide +kernel
theorem dX8_redoOwner_9 : decode cX8_redoOwner 9 = .ok (.ifCond .eq 14, 3) := by decide +kernel
theorem dX8_redoOwner_12 : decode cX8_redoOwner 12 = .ok (.aload_n 0, 1) := by decide +kernel
theorem dX8_redoOwner_13 : decode cX8_redoOwner 13 = .ok (.getfield 24, 3) := by decide +kernel
theorem dX8_redoOwner_16 : decode cX8_redoOwner 16 = .ok (.iload_n 1, 1) := by decide +kernel
theorem dX8_redoOwner_17 : decode cX8_redoOwner 17 = .ok (.invokevirtual 134, 3) := by decide +kernel
theorem dX8_redoOwner_20 : decode cX8_redoOwner 20 = .ok (.ifCond .eq 5, 3) := by decide +kernel
theorem dX8_redoOwner_23 : decode cX8_redoOwner 23 = .ok (.iconst 0, 1) := by decide +kernel
theorem dX8_redoOwner_24 : decode cX8_redoOwner 24 = .ok (.ireturn, 1) := by decide +kernel
theorem dX8_redoOwner_25 : decode cX8_redoOwner 25 = .ok (.aload_n 0, 1) := by decide +kernel
theorem dX8_redoOwner_26 : decode cX8_redoOwner 26 = .ok (.getfield 24, 3) := by decide +kernel
theorem dX8_redoOwner_29 : decode cX8_redoOwner 29 = .ok (.iload_n 1, 1) := by decide +kernel
theorem dX8_redoOwner_30 : decode cX8_redoOwner 30 = .ok (.invokevirtual 137, 3) := by decide +kernel
theorem dX8_redoOwner_33 : decode cX8_redoOwner 33 = .ok (.pop, 1) := by decide +kernel
theorem dX8_redoOwner_34 : decode cX8_redoOwner 34 = .ok (.iconst 1, 1) := by decide +kernel
theorem dX8_redoOwner_35 : decode cX8_redoOwner 35 = .ok (.ireturn, 1) := by decide +kernel
theorem dX8_redoPost_0 : decode cX8_redoPost 0 = .ok (.aload_n 0, 1) := by decide +kernel
theorem dX8_redoPost_1 : decode cX8_redoPost 1 = .ok (.invokevirtual 91, 3) := by decide +kernel
theorem dX8_redoPost_4 : decode cX8_redoPost 4 = .ok (.istore_n 1, 1) := by decide +kernel
theorem dX8_redoPost_5 : decode cX8_redoPost 5 = .ok (.aload_n 0, 1) := by decide +kernel
theorem dX8_redoPost_6 : decode cX8_redoPost 6 = .ok (.invokevirtual 91, 3) := by decide +kernel
theorem dX8_redoPost_9 : decode cX8_redoPost 9 = .ok (.istore_n 2, 1) := by decide +kernel
theorem dX8_redoPost_10 : decode cX8_redoPost 10 = .ok (.aload_n 0, 1) := by decide +kernel
theorem dX8_redoPost_11 : decode cX8_redoPost 11 = .ok (.invokevirtual 140, 3) := by decide +kernel
theorem dX8_redoPost_14 : decode cX8_redoPost 14 = .ok (.ifCond .eq 25, 3) := by decide +kernel
theorem dX8_redoPost_17 : decode cX8_redoPost 17 = .ok (.aload_n 0, 1) := by decide +kernel
theorem dX8_redoPost_18 : decode cX8_redoPost 18 = .ok (.invokevirtual 98, 3) := by decide +kernel
theorem dX8_redoPost_21 : decode cX8_redoPost 21 = .ok (.ifCond .eq 18, 3) := by decide +kernel
theorem dX8_redoPost_24 : decode cX8_redoPost 24 = .ok (.aload_n 0, 1) := by decide +kernel
theorem dX8_redoPost_25 : decode cX8_redoPost 25 = .ok (.getfield 24, 3) := by decide +kernel
theorem dX8_redoPost_28 : decode cX8_redoPost 28 = .ok (.aload_n 0, 1) := by decide +kernel
theorem dX8_redoPost_29 : decode cX8_redoPost 29 = .ok (.getfield 14, 3) := by decide +kernel
theorem dX8_redoPost_32 : decode cX8_redoPost 32 = .ok (.iload_n 1, 1) := by decide +kernel
theorem dX8_redoPost_33 : decode cX8_redoPost 33 = .ok (.invokevirtual 143, 3) := by decide +kernel
theorem dX8_redoPost_36 : decode cX8_redoPost 36 = .ok (.ifCond .eq 5, 3) := by decide +kernel
theorem dX8_redoPost_39 : decode cX8_redoPost 39 = .ok (.iconst 0, 1) := by decide +kernel
theorem dX8_redoPost_40 : decode cX8_redoPost 40 = .ok (.ireturn, 1) := by decide +kernel
theorem dX8_redoPost_41 : decode cX8_redoPost 41 = .ok (.aload_n 0, 1) := by decide +kernel
theorem dX8_redoPost_42 : decode cX8_redoPost 42 = .ok (.getfield 24, 3) := by decide +kernel
theorem dX8_redoPost_45 : decode cX8_redoPost 45 = .ok (.aload_n 0, 1) := by decide +kernel
theorem dX8_redoPost_46 : decode cX8_redoPost 46 = .ok (.getfield 14, 3) := by decide +kernel
theorem dX8_redoPost_49 : decode cX8_redoPost 49 = .ok (.iload_n 1, 1) := by decide +kernel
theorem dX8_redoPost_50 : decode cX8_redoPost 50 = .ok (.iload_n 2, 1) := by decide +kernel
theorem dX8_redoPost_51 : decode cX8_redoPost 51 = .ok (.iconst 0, 1) := by decide +kernel
theorem dX8_redoPost_52 : decode cX8_redoPost 52 = .ok (.iconst (-1), 1) := by decide +kernel
theorem dX8_redoPost_53 : decode cX8_redoPost 53 = .ok (.invokevirtual 147, 3) := by decide +kernel
theorem dX8_redoPost_56 : decode cX8_redoPost 56 = .ok (.pop, 1) := by decide +kernel
theorem dX8_redoPost_57 : decode cX8_redoPost 57 = .ok (.iconst 1, 1) := by decide +kernel
theorem dX8_redoPost_58 : decode cX8_redoPost 58 = .ok (.ireturn, 1) := by decide +kernel
theorem dX8_readLines_0 : decode cX8_readLines 0 = .ok (.aload_n 0, 1) := by decide +kernel
theorem dX8_readLines_1 : decode cX8_readLines 1 = .ok (.invokevirtual 91, 3) := by decide +kernel
theorem dX8_readLines_4 : decode cX8_readLines 4 = .ok (.istore_n 1, 1) := by decide +kernel
theorem dX8_readLines_5 : decode cX8_readLines 5 = .ok (.aload_n 0, 1) := by decide +kernel
theorem dX8_readLines_6 : decode cX8_readLines 6 = .ok (.getfield 14, 3) := by decide +kernel
theorem dX8_readLines_9 : decode cX8_readLines 9 = .ok (.invokevirtual 151, 3) := by decide +kernel
theorem dX8_readLines_12 : decode cX8_readLines 12 = .ok (.iload_n 1, 1) := by decide +kernel
theorem dX8_readLines_13 : decode cX8_readLines 13 = .ok (.ifCond .lt 9, 3) := by decide +kernel
theorem dX8_readLines_16 : decode cX8_readLines 16 = .ok (.iload_n 1, 1) := by decide +kernel
theorem dX8_readLines_17 : decode cX8_readLines 17 = .ok (.bipush 8, 2) := by decide +kernel
theorem dX8_readLines_19 : decode cX8_readLines 19 = .ok (.if_icmp .le 5, 3) := by decide +kernel
theorem dX8_readLines_22 : decode cX8_readLines 22 = .ok (.iconst 0, 1) := by decide +kernel
theorem dX8_readLines_23 : decode cX8_readLines 23 = .ok (.ireturn, 1) := by decide +kernel
theorem dX8_readLines_24 : decode cX8_readLines 24 = .ok (.iconst 0, 1) := by decide +kernel
theorem dX8_readLines_25 : decode cX8_readLines 25 = .ok (.istore_n 2, 1) := by decide +kernel
theorem dX8_readLines_26 : decode cX8_readLines 26 = .ok (.iload_n 2, 1) := by decide +kernel
theorem dX8_readLines_27 : decode cX8_readLines 27 = .ok (.iload_n 1, 1) := by decide +kernel
theorem dX8_readLines_28 : decode cX8_readLines 28 = .ok (.if_icmp .ge 52, 3) := by decide +kernel
theorem dX8_readLines_31 : decode cX8_readLines 31 = .ok (.aload_n 0, 1) := by decide +kernel
theorem dX8_readLines_32 : decode cX8_readLines 32 = .ok (.invokevirtual 91, 3) := by decide +kernel
theorem dX8_readLines_35 : decode cX8_readLines 35 = .ok (.istore_n 3, 1) := by decide +kernel
theorem dX8_readLines_36 : decode cX8_readLines 36 = .ok (.aload_n 0, 1) := by decide +kernel
theorem dX8_readLines_37 : decode cX8_readLines 37 = .ok (.invokevirtual 152, 3) := by decide +kernel
theorem dX8_readLines_40 : decode cX8_readLines 40 = .ok (.lstore 4, 2) := by decide +kernel
theorem dX8_readLines_42 : decode cX8_readLines 42 = .ok (.aload_n 0, 1) := by decide +kernel
theorem dX8_readLines_43 : decode cX8_readLines 43 = .ok (.getfield 54, 3) := by decide +kernel
theorem dX8_readLines_46 : decode cX8_readLines 46 = .ok (.ifCond .ne 16, 3) := by decide +kernel
theorem dX8_readLines_49 : decode cX8_readLines 49 = .ok (.aload_n 0, 1) := by decide +kernel
theorem dX8_readLines_50 : decode cX8_readLines 50 = .ok (.getfield 24, 3) := by decide +kernel
theorem dX8_readLines_53 : decode cX8_readLines 53 = .ok (.iload_n 3, 1) := by decide +kernel
theorem dX8_readLines_54 : decode cX8_readLines 54 = .ok (.lload 4, 2) := by decide +kernel
theorem dX8_readLines_56 : decode cX8_readLines 56 = .ok (.invokevirtual 156, 3) := by decide +kernel
theorem dX8_readLines_59 : decode cX8_readLines 59 = .ok (.ifCond .eq 5, 3) := by decide +kernel
theorem dX8_readLines_62 : decode cX8_readLines 62 = .ok (.iconst 0, 1) := by decide +kernel
theorem dX8_readLines_63 : decode cX8_readLines 63 = .ok (.ireturn, 1) := by decide +kernel
theorem dX8_readLines_64 : decode cX8_readLines 64 = .ok (.aload_n 0, 1) := by decide +kernel
theorem dX8_readLines_65 : decode cX8_readLines 65 = .ok (.getfield 14, 3) := by decide +kernel
theorem dX8_readLines_68 : decode cX8_readLines 68 = .ok (.iload_n 3, 1) := by decide +kernel
theorem dX8_readLines_69 : decode cX8_readLines 69 = .ok (.lload 4, 2) := by decide +kernel
theorem dX8_readLines_71 : decode cX8_readLines 71 = .ok (.invokevirtual 160, 3) := by decide +kernel
theorem dX8_readLines_74 : decode cX8_readLines 74 = .ok (.iinc 2 1, 3) := by decide +kernel
theorem dX8_readLines_77 : decode cX8_readLines 77 = .ok (.goto (-51), 3) := by decide +kernel
theorem dX8_readLines_80 : decode cX8_readLines 80 = .ok (.iconst 1, 1) := by decide +kernel
theorem dX8_readLines_81 : decode cX8_readLines 81 = .ok (.ireturn, 1) := by decide +kernel
theorem dX8_redoBack_0 : decode cX8_redoBack 0 = .ok (.aload_n 0, 1) := by decide +kernel
theorem dX8_redoBack_1 : decode cX8_redoBack 1 = .ok (.invokevirtual 91, 3) := by decide +kernel
theorem dX8_redoBack_4 : decode cX8_redoBack 4 = .ok (.istore_n 1, 1) := by decide +kernel
theorem dX8_redoBack_5 : decode cX8_redoBack 5 = .ok (.aload_n 0, 1) := by decide +kernel
theorem dX8_redoBack_6 : decode cX8_redoBack 6 = .ok (.invokevirtual 91, 3) := by decide +kernel
theorem dX8_redoBack_9 : decode cX8_redoBack 9 = .ok (.istore_n 2, 1) := by decide +kernel
theorem dX8_redoBack_10 : decode cX8_redoBack 10 = .ok (.aload_n 0, 1) := by decide +kernel
theorem dX8_redoBack_11 : decode cX8_redoBack 11 = .ok (.invokevirtual 98, 3) := by decide +kernel
theorem dX8_redoBack_14 : decode cX8_redoBack 14 = .ok (.ifCond .eq 19, 3) := by decide +kernel
theorem dX8_redoBack_17 : decode cX8_redoBack 17 = .ok (.aload_n 0, 1) := by decide +kernel
theorem dX8_redoBack_18 : decode cX8_redoBack 18 = .ok (.getfield 24, 3) := by decide +kernel
theorem dX8_redoBack_21 : decode cX8_redoBack 21 = .ok (.iload_n 1, 1) := by decide +kernel
theorem dX8_redoBack_22 : decode cX8_redoBack 22 = .ok (.iload_n 2, 1) := by decide +kernel
theorem dX8_redoBack_23 : decode cX8_redoBack 23 = .ok (.aload_n 0, 1) := by decide +kernel
theorem dX8_redoBack_24 : decode cX8_redoBack 24 = .ok (.getfield 14, 3) := by decide +kernel
theorem dX8_redoBack_27 : decode cX8_redoBack 27 = .ok (.invokevirtual 163, 3) := by decide +kernel
theorem dX8_redoBack_30 : decode cX8_redoBack 30 = .ok (.ifCond .eq 5, 3) := by decide +kernel
theorem dX8_redoBack_33 : decode cX8_redoBack 33 = .ok (.iconst 0, 1) := by decide +kernel
theorem dX8_redoBack_34 : decode cX8_redoBack 34 = .ok (.ireturn, 1) := by decide +kernel
theorem dX8_redoBack_35 : decode cX8_redoBack 35 = .ok (.aload_n 0, 1) := by decide +kernel
theorem dX8_redoBack_36 : decode cX8_redoBack 36 = .ok (.getfield 24, 3) := by decide +kernel
theorem dX8_redoBack_39 : decode cX8_redoBack 39 = .ok (.iload_n 1, 1) := by decide +kernel
theorem dX8_redoBack_40 : decode cX8_redoBack 40 = .ok (.iload_n 2, 1) := by decide +kernel
theorem dX8_redoBack_41 : decode cX8_redoBack 41 = .ok (.aload_n 0, 1) := by decide +kernel
theorem dX8_redoBack_42 : decode cX8_redoBack 42 = .ok (.getfield 14, 3) := by decide +kernel
theorem dX8_redoBack_45 : decode cX8_redoBack 45 = .ok (.invokevirtual 167, 3) := by decide +kernel
theorem dX8_redoBack_48 : decode cX8_redoBack 48 = .ok (.pop, 1) := by decide +kernel
theorem dX8_redoBack_49 : decode cX8_redoBack 49 = .ok (.iconst 1, 1) := by decide +kernel
theorem dX8_redoBack_50 : decode cX8_redoBack 50 = .ok (.ireturn, 1) := by decide +kernel
theorem dX8_redoClose_0 : decode cX8_redoClose 0 = .ok (.aload_n 0, 1) := by decide +kernel
theorem dX8_redoClose_1 : decode cX8_redoClose 1 = .ok (.invokevirtual 98, 3) := by decide +kernel
theorem dX8_redoClose_4 : decode cX8_redoClose 4 = .ok (.ifCond .eq 17, 3) := by decide +kernel
theorem dX8_redoClose_7 : decode cX8_redoClose 7 = .ok (.aload_n 0, 1) := by decide +kernel
theorem dX8_redoClose_8 : decode cX8_redoClose 8 = .ok (.getfield 24, 3) := by decide +kernel
theorem dX8_redoClose_11 : decode cX8_redoClose 11 = .ok (.aload_n 0, 1) := by decide +kernel
theorem dX8_redoClose_12 : decode cX8_redoClose 12 = .ok (.getfield 14, 3) := by decide +kernel
theorem dX8_redoClose_15 : decode cX8_redoClose 15 = .ok (.invokevirtual 170, 3) := by decide +kernel
theorem dX8_redoClose_18 : decode cX8_redoClose 18 = .ok (.ifCond .eq 5, 3) := by decide +kernel
theorem dX8_redoClose_21 : decode cX8_redoClose 21 = .ok (.iconst 0, 1) := by decide +kernel
theorem dX8_redoClose_22 : decode cX8_redoClose 22 = .ok (.ireturn, 1) := by decide +kernel
theorem dX8_redoClose_23 : decode cX8_redoClose 23 = .ok (.aload_n 0, 1) := by decide +kernel
theorem dX8_redoClose_24 : decode cX8_redoClose 24 = .ok (.getfield 24, 3) := by decide +kernel
theorem dX8_redoClose_27 : decode cX8_redoClose 27 = .ok (.aload_n 0, 1) := by decide +kernel
theorem dX8_redoClose_28 : decode cX8_redoClose 28 = .ok (.getfield 14, 3) := by decide +kernel
theorem dX8_redoClose_31 : decode cX8_redoClose 31 = .ok (.invokevirtual 174, 3) := by decide +kernel
theorem dX8_redoClose_34 : decode cX8_redoClose 34 = .ok (.pop, 1) := by decide +kernel
theorem dX8_redoClose_35 : decode cX8_redoClose 35 = .ok (.iconst 1, 1) := by decide +kernel
theorem dX8_redoClose_36 : decode cX8_redoClose 36 = .ok (.ireturn, 1) := by decide +kernel
theorem dX8_redoReopen_0 : decode cX8_redoReopen 0 = .ok (.aload_n 0, 1) := by decide +kernel
theorem dX8_redoReopen_1 : decode cX8_redoReopen 1 = .ok (.invokevirtual 98, 3) := by decide +kernel
theorem dX8_redoReopen_4 : decode cX8_redoReopen 4 = .ok (.ifCond .eq 17, 3) := by decide +kernel
theorem dX8_redoReopen_7 : decode cX8_redoReopen 7 = .ok (.aload_n 0, 1) := by decide +kernel
theorem dX8_redoReopen_8 : decode cX8_redoReopen 8 = .ok (.getfield 24, 3) := by decide +kernel
theorem dX8_redoReopen_11 : decode cX8_redoReopen 11 = .ok (.aload_n 0, 1) := by decide +kernel
theorem dX8_redoReopen_12 : decode cX8_redoReopen 12 = .ok (.getfield 14, 3) := by decide +kernel
theorem dX8_redoReopen_15 : decode cX8_redoReopen 15 = .ok (.invokevirtual 177, 3) := by decide +kernel
theorem dX8_redoReopen_18 : decode cX8_redoReopen 18 = .ok (.ifCond .eq 5, 3) := by decide +kernel
theorem dX8_redoReopen_21 : decode cX8_redoReopen 21 = .ok (.iconst 0, 1) := by decide +kernel
theorem dX8_redoReopen_22 : decode cX8_redoReopen 22 = .ok (.ireturn, 1) := by decide +kernel
theorem dX8_redoReopen_23 : decode cX8_redoReopen 23 = .ok (.aload_n 0, 1) := by decide +kernel
theorem dX8_redoReopen_24 : decode cX8_redoReopen 24 = .ok (.getfield 24, 3) := by decide +kernel
theorem dX8_redoReopen_27 : decode cX8_redoReopen 27 = .ok (.aload_n 0, 1) := by decide +kernel
theorem dX8_redoReopen_28 : decode cX8_redoReopen 28 = .ok (.getfield 14, 3) := by decide +kernel
theorem dX8_redoReopen_31 : decode cX8_redoReopen 31 = .ok (.invokevirtual 180, 3) := by decide +kernel
theorem dX8_redoReopen_34 : decode cX8_redoReopen 34 = .ok (.pop, 1) := by decide +kernel
theorem dX8_redoReopen_35 : decode cX8_redoReopen 35 = .ok (.iconst 1, 1) := by decide +kernel
theorem dX8_redoReopen_36 : decode cX8_redoReopen 36 = .ok (.ireturn, 1) := by decide +kernel
theorem dX8_isReadWhole_0 : decode cX8_isReadWhole 0 = .ok (.aload_n 0, 1) := by decide +kernel
theorem dX8_isReadWhole_1 : decode cX8_isReadWhole 1 = .ok (.getfield 54, 3) := by decide +kernel
theorem dX8_isReadWhole_4 : decode cX8_isReadWhole 4 = .ok (.ifCond .ne 18, 3) := by decide +kernel
theorem dX8_isReadWhole_7 : decode cX8_isReadWhole 7 = .ok (.aload_n 0, 1) := by decide +kernel
theorem dX8_isReadWhole_8 : decode cX8_isReadWhole 8 = .ok (.getfield 47, 3) := by decide +kernel
theorem dX8_isReadWhole_11 : decode cX8_isReadWhole 11 = .ok (.aload_n 0, 1) := by decide +kernel
theorem dX8_isReadWhole_12 : decode cX8_isReadWhole 12 = .ok (.getfield 51, 3) := by decide +kernel
theorem dX8_isReadWhole_15 : decode cX8_isReadWhole 15 = .ok (.if_icmp .ne 7, 3) := by decide +kernel
theorem dX8_isReadWhole_18 : decode cX8_isReadWhole 18 = .ok (.iconst 1, 1) := by decide +kernel
theorem dX8_isReadWhole_19 : decode cX8_isReadWhole 19 = .ok (.goto 4, 3) := by decide +kernel
theorem dX8_isReadWhole_22 : decode cX8_isReadWhole 22 = .ok (.iconst 0, 1) := by decide +kernel
theorem dX8_isReadWhole_23 : decode cX8_isReadWhole 23 = .ok (.ireturn, 1) := by decide +kernel
theorem dX8_nextFlag_0 : decode cX8_nextFlag 0 = .ok (.aload_n 0, 1) := by decide +kernel
theorem dX8_nextFlag_1 : decode cX8_nextFlag 1 = .ok (.invokevirtual 152, 3) := by decide +kernel
theorem dX8_nextFlag_4 : decode cX8_nextFlag 4 = .ok (.lstore_n 1, 1) := by decide +kernel
theorem dX8_nextFlag_5 : decode cX8_nextFlag 5 = .ok (.lload_n 1, 1) := by decide +kernel
theorem dX8_nextFlag_6 : decode cX8_nextFlag 6 = .ok (.lconst 0, 1) := by decide +kernel
theorem dX8_nextFlag_7 : decode cX8_nextFlag 7 = .ok (.lcmp, 1) := by decide +kernel
theorem dX8_nextFlag_8 : decode cX8_nextFlag 8 = .ok (.ifCond .eq 14, 3) := by decide +kernel
theorem dX8_nextFlag_11 : decode cX8_nextFlag 11 = .ok (.lload_n 1, 1) := by decide +kernel
theorem dX8_nextFlag_12 : decode cX8_nextFlag 12 = .ok (.lconst 1, 1) := by decide +kernel
theorem dX8_nextFlag_13 : decode cX8_nextFlag 13 = .ok (.lcmp, 1) := by decide +kernel
theorem dX8_nextFlag_14 : decode cX8_nextFlag 14 = .ok (.ifCond .eq 8, 3) := by decide +kernel
theorem dX8_nextFlag_17 : decode cX8_nextFlag 17 = .ok (.aload_n 0, 1) := by decide +kernel
theorem dX8_nextFlag_18 : decode cX8_nextFlag 18 = .ok (.iconst 1, 1) := by decide +kernel
theorem dX8_nextFlag_19 : decode cX8_nextFlag 19 = .ok (.putfield 54, 3) := by decide +kernel
theorem dX8_nextFlag_22 : decode cX8_nextFlag 22 = .ok (.lload_n 1, 1) := by decide +kernel
theorem dX8_nextFlag_23 : decode cX8_nextFlag 23 = .ok (.lconst 1, 1) := by decide +kernel
theorem dX8_nextFlag_24 : decode cX8_nextFlag 24 = .ok (.lcmp, 1) := by decide +kernel
theorem dX8_nextFlag_25 : decode cX8_nextFlag 25 = .ok (.ifCond .ne 7, 3) := by decide +kernel
theorem dX8_nextFlag_28 : decode cX8_nextFlag 28 = .ok (.iconst 1, 1) := by decide +kernel
theorem dX8_nextFlag_29 : decode cX8_nextFlag 29 = .ok (.goto 4, 3) := by decide +kernel
theorem dX8_nextFlag_32 : decode cX8_nextFlag 32 = .ok (.iconst 0, 1) := by decide +kernel
theorem dX8_nextFlag_33 : decode cX8_nextFlag 33 = .ok (.ireturn, 1) := by decide +kernel
theorem dX8_nextInt_0 : decode cX8_nextInt 0 = .ok (.aload_n 0, 1) := by decide +kernel
theorem dX8_nextInt_1 : decode cX8_nextInt 1 = .ok (.invokevirtual 152, 3) := by decide +kernel
theorem dX8_nextInt_4 : decode cX8_nextInt 4 = .ok (.lstore_n 1, 1) := by decide +kernel
theorem dX8_nextInt_5 : decode cX8_nextInt 5 = .ok (.lload_n 1, 1) := by decide +kernel
theorem dX8_nextInt_6 : decode cX8_nextInt 6 = .ok (.lload_n 1, 1) := by decide +kernel
theorem dX8_nextInt_7 : decode cX8_nextInt 7 = .ok (.l2i, 1) := by decide +kernel
theorem dX8_nextInt_8 : decode cX8_nextInt 8 = .ok (.i2l, 1) := by decide +kernel
theorem dX8_nextInt_9 : decode cX8_nextInt 9 = .ok (.lcmp, 1) := by decide +kernel
theorem dX8_nextInt_10 : decode cX8_nextInt 10 = .ok (.ifCond .eq 8, 3) := by decide +kernel
theorem dX8_nextInt_13 : decode cX8_nextInt 13 = .ok (.aload_n 0, 1) := by decide +kernel
theorem dX8_nextInt_14 : decode cX8_nextInt 14 = .ok (.iconst 1, 1) := by decide +kernel
theorem dX8_nextInt_15 : decode cX8_nextInt 15 = .ok (.putfield 54, 3) := by decide +kernel
theorem dX8_nextInt_18 : decode cX8_nextInt 18 = .ok (.lload_n 1, 1) := by decide +kernel
theorem dX8_nextInt_19 : decode cX8_nextInt 19 = .ok (.l2i, 1) := by decide +kernel
theorem dX8_nextInt_20 : decode cX8_nextInt 20 = .ok (.ireturn, 1) := by decide +kernel
theorem dX8_nextNumber_0 : decode cX8_nextNumber 0 = .ok (.lconst 0, 1) := by decide +kernel
theorem dX8_nextNumber_1 : decode cX8_nextNumber 1 = .ok (.lstore_n 1, 1) := by decide +kernel
theorem dX8_nextNumber_2 : decode cX8_nextNumber 2 = .ok (.iconst 0, 1) := by decide +kernel
theorem dX8_nextNumber_3 : decode cX8_nextNumber 3 = .ok (.istore_n 3, 1) := by decide +kernel
theorem dX8_nextNumber_4 : decode cX8_nextNumber 4 = .ok (.iload_n 3, 1) := by decide +kernel
theorem dX8_nextNumber_5 : decode cX8_nextNumber 5 = .ok (.bipush 10, 2) := by decide +kernel
theorem dX8_nextNumber_7 : decode cX8_nextNumber 7 = .ok (.if_icmp .ge 92, 3) := by decide +kernel
theorem dX8_nextNumber_10 : decode cX8_nextNumber 10 = .ok (.aload_n 0, 1) := by decide +kernel
theorem dX8_nextNumber_11 : decode cX8_nextNumber 11 = .ok (.getfield 47, 3) := by decide +kernel
theorem dX8_nextNumber_14 : decode cX8_nextNumber 14 = .ok (.aload_n 0, 1) := by decide +kernel
theorem dX8_nextNumber_15 : decode cX8_nextNumber 15 = .ok (.getfield 51, 3) := by decide +kernel
theorem dX8_nextNumber_18 : decode cX8_nextNumber 18 = .ok (.if_icmp .ge 81, 3) := by decide +kernel
theorem dX8_nextNumber_21 : decode cX8_nextNumber 21 = .ok (.aload_n 0, 1) := by decide +kernel
theorem dX8_nextNumber_22 : decode cX8_nextNumber 22 = .ok (.getfield 20, 3) := by decide +kernel
theorem dX8_nextNumber_25 : decode cX8_nextNumber 25 = .ok (.getfield 58, 3) := by decide +kernel
theorem dX8_nextNumber_28 : decode cX8_nextNumber 28 = .ok (.aload_n 0, 1) := by decide +kernel
theorem dX8_nextNumber_29 : decode cX8_nextNumber 29 = .ok (.getfield 47, 3) := by decide +kernel
theorem dX8_nextNumber_32 : decode cX8_nextNumber 32 = .ok (.invokevirtual 62, 3) := by decide +kernel
theorem dX8_nextNumber_35 : decode cX8_nextNumber 35 = .ok (.istore 4, 2) := by decide +kernel
theorem dX8_nextNumber_37 : decode cX8_nextNumber 37 = .ok (.aload_n 0, 1) := by decide +kernel
theorem dX8_nextNumber_38 : decode cX8_nextNumber 38 = .ok (.dup, 1) := by decide +kernel
theorem dX8_nextNumber_39 : decode cX8_nextNumber 39 = .ok (.getfield 47, 3) := by decide +kernel
theorem dX8_nextNumber_42 : decode cX8_nextNumber 42 = .ok (.iconst 1, 1) := by decide +kernel
theorem dX8_nextNumber_43 : decode cX8_nextNumber 43 = .ok (.iadd, 1) := by decide +kernel
theorem dX8_nextNumber_44 : decode cX8_nextNumber 44 = .ok (.putfield 47, 3) := by decide +kernel
theorem dX8_nextNumber_47 : decode cX8_nextNumber 47 = .ok (.iload_n 3, 1) := by decide +kernel
theorem dX8_nextNumber_48 : decode cX8_nextNumber 48 = .ok (.bipush 9, 2) := by decide +kernel
theorem dX8_nextNumber_50 : decode cX8_nextNumber 50 = .ok (.if_icmp .ne 12, 3) := by decide +kernel
theorem dX8_nextNumber_53 : decode cX8_nextNumber 53 = .ok (.iload 4, 2) := by decide +kernel
theorem dX8_nextNumber_55 : decode cX8_nextNumber 55 = .ok (.iconst 1, 1) := by decide +kernel
theorem dX8_nextNumber_56 : decode cX8_nextNumber 56 = .ok (.if_icmp .le 6, 3) := by decide +kernel
theorem dX8_nextNumber_59 : decode cX8_nextNumber 59 = .ok (.goto 40, 3) := by decide +kernel
theorem dX8_nextNumber_62 : decode cX8_nextNumber 62 = .ok (.lload_n 1, 1) := by decide +kernel
theorem dX8_nextNumber_63 : decode cX8_nextNumber 63 = .ok (.iload 4, 2) := by decide +kernel
theorem dX8_nextNumber_65 : decode cX8_nextNumber 65 = .ok (.bipush 127, 2) := by decide +kernel
theorem dX8_nextNumber_67 : decode cX8_nextNumber 67 = .ok (.iand, 1) := by decide +kernel
theorem dX8_nextNumber_68 : decode cX8_nextNumber 68 = .ok (.i2l, 1) := by decide +kernel
theorem dX8_nextNumber_69 : decode cX8_nextNumber 69 = .ok (.bipush 7, 2) := by decide +kernel
theorem dX8_nextNumber_71 : decode cX8_nextNumber 71 = .ok (.iload_n 3, 1) := by decide +kernel
theorem dX8_nextNumber_72 : decode cX8_nextNumber 72 = .ok (.imul, 1) := by decide +kernel
theorem dX8_nextNumber_73 : decode cX8_nextNumber 73 = .ok (.lshl, 1) := by decide +kernel
theorem dX8_nextNumber_74 : decode cX8_nextNumber 74 = .ok (.lor, 1) := by decide +kernel
theorem dX8_nextNumber_75 : decode cX8_nextNumber 75 = .ok (.lstore_n 1, 1) := by decide +kernel
theorem dX8_nextNumber_76 : decode cX8_nextNumber 76 = .ok (.iload 4, 2) := by decide +kernel
theorem dX8_nextNumber_78 : decode cX8_nextNumber 78 = .ok (.sipush 128, 3) := by decide +kernel
theorem dX8_nextNumber_81 : decode cX8_nextNumber 81 = .ok (.if_icmp .ge 12, 3) := by decide +kernel
theorem dX8_nextNumber_84 : decode cX8_nextNumber 84 = .ok (.lload_n 1, 1) := by decide +kernel
theorem dX8_nextNumber_85 : decode cX8_nextNumber 85 = .ok (.iconst 1, 1) := by decide +kernel
theorem dX8_nextNumber_86 : decode cX8_nextNumber 86 = .ok (.lushr, 1) := by decide +kernel
theorem dX8_nextNumber_87 : decode cX8_nextNumber 87 = .ok (.lload_n 1, 1) := by decide +kernel
theorem dX8_nextNumber_88 : decode cX8_nextNumber 88 = .ok (.lconst 1, 1) := by decide +kernel
theorem dX8_nextNumber_89 : decode cX8_nextNumber 89 = .ok (.land, 1) := by decide +kernel
theorem dX8_nextNumber_90 : decode cX8_nextNumber 90 = .ok (.lneg, 1) := by decide +kernel
theorem dX8_nextNumber_91 : decode cX8_nextNumber 91 = .ok (.lxor, 1) := by decide +kernel
theorem dX8_nextNumber_92 : decode cX8_nextNumber 92 = .ok (.lreturn, 1) := by decide +kernel
theorem dX8_nextNumber_93 : decode cX8_nextNumber 93 = .ok (.iinc 3 1, 3) := by decide +kernel
theorem dX8_nextNumber_96 : decode cX8_nextNumber 96 = .ok (.goto (-92), 3) := by decide +kernel
theorem dX8_nextNumber_99 : decode cX8_nextNumber 99 = .ok (.aload_n 0, 1) := by decide +kernel
theorem dX8_nextNumber_100 : decode cX8_nextNumber 100 = .ok (.iconst 1, 1) := by decide +kernel
theorem dX8_nextNumber_101 : decode cX8_nextNumber 101 = .ok (.putfield 54, 3) := by decide +kernel
theorem dX8_nextNumber_104 : decode cX8_nextNumber 104 = .ok (.lconst 0, 1) := by decide +kernel
theorem dX8_nextNumber_105 : decode cX8_nextNumber 105 = .ok (.lreturn, 1) := by decide +kernel
theorem dX9_init_0 : decode cX9_init 0 = .ok (.aload_n 0, 1) := by decide +kernel
theorem dX9_init_1 : decode cX9_init 1 = .ok (.invokespecial 3, 3) := by decide +kernel
theorem dX9_init_4 : decode cX9_init 4 = .ok (.aload_n 0, 1) := by decide +kernel
theorem dX9_init_5 : decode cX9_init 5 = .ok (.new 9, 3) := by decide +kernel
theorem dX9_init_8 : decode cX9_init 8 = .ok (.dup, 1) := by decide +kernel
theorem dX9_init_9 : decode cX9_init 9 = .ok (.bipush 7, 2) := by decide +kernel
theorem dX9_init_11 : decode cX9_init 11 = .ok (.invokespecial 11, 3) := by decide +kernel
theorem dX9_init_14 : decode cX9_init 14 = .ok (.putfield 14, 3) := by decide +kernel
theorem dX9_init_17 : decode cX9_init 17 = .ok (.aload_n 0, 1) := by decide +kernel
theorem dX9_init_18 : decode cX9_init 18 = .ok (.new 20, 3) := by decide +kernel
theorem dX9_init_21 : decode cX9_init 21 = .ok (.dup, 1) := by decide +kernel
theorem dX9_init_22 : decode cX9_init 22 = .ok (.bipush 7, 2) := by decide +kernel
theorem dX9_init_24 : decode cX9_init 24 = .ok (.invokespecial 22, 3) := by decide +kernel
theorem dX9_init_27 : decode cX9_init 27 = .ok (.putfield 23, 3) := by decide +kernel
theorem dX9_init_30 : decode cX9_init 30 = .ok (.aload_n 0, 1) := by decide +kernel
theorem dX9_init_31 : decode cX9_init 31 = .ok (.new 9, 3) := by decide +kernel
theorem dX9_init_34 : decode cX9_init 34 = .ok (.dup, 1) := by decide +kernel
theorem dX9_init_35 : decode cX9_init 35 = .ok (.bipush 7, 2) := by decide +kernel
theorem dX9_init_37 : decode cX9_init 37 = .ok (.invokespecial 11, 3) := by decide +kernel
theorem dX9_init_40 : decode cX9_init 40 = .ok (.putfield 27, 3) := by decide +kernel
theorem dX9_init_43 : decode cX9_init 43 = .ok (.return_, 1) := by decide +kernel
theorem dX9_clear_0 : decode cX9_clear 0 = .ok (.aload_n 0, 1) := by decide +kernel
theorem dX9_clear_1 : decode cX9_clear 1 = .ok (.iconst 0, 1) := by decide +kernel
theorem dX9_clear_2 : decode cX9_clear 2 = .ok (.putfield 30, 3) := by decide +kernel
theorem dX9_clear_5 : decode cX9_clear 5 = .ok (.return_, 1) := by decide +kernel
theorem dX9_add_0 : decode cX9_add 0 = .ok (.aload_n 0, 1) := by decide +kernel
theorem dX9_add_1 : decode cX9_add 1 = .ok (.getfield 23, 3) := by decide +kernel
theorem dX9_add_4 : decode cX9_add 4 = .ok (.aload_n 0, 1) := by decide +kernel
theorem dX9_add_5 : decode cX9_add 5 = .ok (.getfield 30, 3) := by decide +kernel
theorem dX9_add_8 : decode cX9_add 8 = .ok (.iload_n 1, 1) := by decide +kernel
theorem dX9_add_9 : decode cX9_add 9 = .ok (.invokevirtual 34, 3) := by decide +kernel
theorem dX9_add_12 : decode cX9_add 12 = .ok (.aload_n 0, 1) := by decide +kernel
theorem dX9_add_13 : decode cX9_add 13 = .ok (.dup, 1) := by decide +kernel
theorem dX9_add_14 : decode cX9_add 14 = .ok (.getfield 30, 3) := by decide +kernel
theorem dX9_add_17 : decode cX9_add 17 = .ok (.iconst 1, 1) := by decide +kernel
theorem dX9_add_18 : decode cX9_add 18 = .ok (.iadd, 1) := by decide +kernel
theorem dX9_add_19 : decode cX9_add 19 = .ok (.putfield 30, 3) := by decide +kernel
theorem dX9_add_22 : decode cX9_add 22 = .ok (.return_, 1) := by decide +kernel
theorem dX9_divide_0 : decode cX9_divide 0 = .ok (.lconst 0, 1) := by decide +kernel
theorem dX9_divide_1 : decode cX9_divide 1 = .ok (.lstore_n 3, 1) := by decide +kernel
theorem dX9_divide_2 : decode cX9_divide 2 = .ok (.iconst 0, 1) := by decide +kernel
theorem dX9_divide_3 : decode cX9_divide 3 = .ok (.istore 5, 2) := by decide +kernel
theorem dX9_divide_5 : decode cX9_divide 5 = .ok (.iload 5, 2) := by decide +kernel
theorem dX9_divide_7 : decode cX9_divide 7 = .ok (.aload_n 0, 1) := by decide +kernel
theorem dX9_divide_8 : decode cX9_divide 8 = .ok (.getfield 30, 3) := by decide +kernel
theorem dX9_divide_11 : decode cX9_divide 11 = .ok (.if_icmp .ge 22, 3) := by decide +kernel
theorem dX9_divide_14 : decode cX9_divide 14 = .ok (.lload_n 3, 1) := by decide +kernel
theorem dX9_divide_15 : decode cX9_divide 15 = .ok (.aload_n 0, 1) := by decide +kernel
theorem dX9_divide_16 : decode cX9_divide 16 = .ok (.getfield 23, 3) := by decide +kernel
theorem dX9_divide_19 : decode cX9_divide 19 = .ok (.iload 5, 2) := by decide +kernel
theorem dX9_divide_21 : decode cX9_divide 21 = .ok (.invokevirtual 38, 3) := by decide +kernel
theorem dX9_divide_24 : decode cX9_divide 24 = .ok (.i2l, 1) := by decide +kernel
theorem dX9_divide_25 : decode cX9_divide 25 = .ok (.ladd, 1) := by decide +kernel
theorem dX9_divide_26 : decode cX9_divide 26 = .ok (.lstore_n 3, 1) := by decide +kernel
theorem dX9_divide_27 : decode cX9_divide 27 = .ok (.iinc 5 1, 3) := by decide +kernel
theorem dX9_divide_30 : decode cX9_divide 30 = .ok (.goto (-25), 3) := by decide +kernel
theorem dX9_divide_33 : decode cX9_divide 33 = .ok (.lload_n 3, 1) := by decide +kernel
theorem dX9_divide_34 : decode cX9_divide 34 = .ok (.lconst 0, 1) := by decide +kernel
theorem dX9_divide_35 : decode cX9_divide 35 = .ok (.lcmp, 1) := by decide +kernel
theorem dX9_divide_36 : decode cX9_divide 36 = .ok (.ifCond .gt 5, 3) := by decide +kernel
theorem dX9_divide_39 : decode cX9_divide 39 = .ok (.iconst 0, 1) := by decide +kernel
theorem dX9_divide_40 : decode cX9_divide 40 = .ok (.ireturn, 1) := by decide +kernel
theorem dX9_divide_41 : decode cX9_divide 41 = .ok (.lload_n 1, 1) := by decide +kernel
theorem dX9_divide_42 : decode cX9_divide 42 = .ok (.lstore 5, 2) := by decide +kernel
theorem dX9_divide_44 : decode cX9_divide 44 = .ok (.iconst 0, 1) := by decide +kernel
theorem dX9_divide_45 : decode cX9_divide 45 = .ok (.istore 7, 2) := by decide +kernel
theorem dX9_divide_47 : decode cX9_divide 47 = .ok (.iload 7, 2) := by decide +kernel
theorem dX9_divide_49 : decode cX9_divide 49 = .ok (.aload_n 0, 1) := by decide +kernel
theorem dX9_divide_50 : decode cX9_divide 50 = .ok (.getfield 30, 3) := by decide +kernel
theorem dX9_divide_53 : decode cX9_divide 53 = .ok (.if_icmp .ge 66, 3) := by decide +kernel
theorem dX9_divide_56 : decode cX9_divide 56 = .ok (.lload_n 1, 1) := by decide +kernel
theorem dX9_divide_57 : decode cX9_divide 57 = .ok (.aload_n 0, 1) := by decide +kernel
theorem dX9_divide_58 : decode cX9_divide 58 = .ok (.getfield 23, 3) := by decide +kernel
theorem dX9_divide_61 : decode cX9_divide 61 = .ok (.iload 7, 2) := by decide +kernel
theorem dX9_divide_63 : decode cX9_divide 63 = .ok (.invokevirtual 38, 3) := by decide +kernel
theorem dX9_divide_66 : decode cX9_divide 66 = .ok (.i2l, 1) := by decide +kernel
theorem dX9_divide_67 : decode cX9_divide 67 = .ok (.lmul, 1) := by decide +kernel
theorem dX9_divide_68 : decode cX9_divide 68 = .ok (.lstore 8, 2) := by decide +kernel
theorem dX9_divide_70 : decode cX9_divide 70 = .ok (.aload_n 0, 1) := by decide +kernel
theorem dX9_divide_71 : decode cX9_divide 71 = .ok (.getfield 14, 3) := by decide +kernel
theorem dX9_divide_74 : decode cX9_divide 74 = .ok (.iload 7, 2) := by decide +kernel
theorem dX9_divide_76 : decode cX9_divide 76 = .ok (.lload 8, 2) := by decide +kernel
theorem dX9_divide_78 : decode cX9_divide 78 = .ok (.lload_n 3, 1) := by decide +kernel
theorem dX9_divide_79 : decode cX9_divide 79 = .ok (.ldiv, 1) := by decide +kernel
theorem dX9_divide_80 : decode cX9_divide 80 = .ok (.invokevirtual 42, 3) := by decide +kernel
theorem dX9_divide_83 : decode cX9_divide 83 = .ok (.aload_n 0, 1) := by decide +kernel
theorem dX9_divide_84 : decode cX9_divide 84 = .ok (.getfield 27, 3) := by decide +kernel
theorem dX9_divide_87 : decode cX9_divide 87 = .ok (.iload 7, 2) := by decide +kernel
theorem dX9_divide_89 : decode cX9_divide 89 = .ok (.lload 8, 2) := by decide +kernel
theorem dX9_divide_91 : decode cX9_divide 91 = .ok (.lload_n 3, 1) := by decide +kernel
theorem dX9_divide_92 : decode cX9_divide 92 = .ok (.lrem, 1) := by decide +kernel
theorem dX9_divide_93 : decode cX9_divide 93 = .ok (.invokestatic 45, 3) := by decide +kernel
theorem dX9_divide_96 : decode cX9_divide 96 = .ok (.invokevirtual 42, 3) := by decide +kernel
theorem dX9_divide_99 : decode cX9_divide 99 = .ok (.lload 5, 2) := by decide +kernel
theorem dX9_divide_101 : decode cX9_divide 101 = .ok (.aload_n 0, 1) := by decide +kernel
theorem dX9_divide_102 : decode cX9_divide 102 = .ok (.getfield 14, 3) := by decide +kernel
theorem dX9_divide_105 : decode cX9_divide 105 = .ok (.iload 7, 2) := by decide +kernel
theorem dX9_divide_107 : decode cX9_divide 107 = .ok (.invokevirtual 51, 3) := by decide +kernel
theorem dX9_divide_110 : decode cX9_divide 110 = .ok (.lsub, 1) := by decide +kernel
theorem dX9_divide_111 : decode cX9_divide 111 = .ok (.lstore 5, 2) := by decide +kernel
theorem dX9_divide_113 : decode cX9_divide 113 = .ok (.iinc 7 1, 3) := by decide +kernel
theorem dX9_divide_116 : decode cX9_divide 116 = .ok (.goto (-69), 3) := by decide +kernel
theorem dX9_divide_119 : decode cX9_divide 119 = .ok (.aload_n 0, 1) := by decide +kernel
theorem dX9_divide_120 : decode cX9_divide 120 = .ok (.lload 5, 2) := by decide +kernel
theorem dX9_divide_122 : decode cX9_divide 122 = .ok (.invokevirtual 54, 3) := by decide +kernel
theorem dX9_divide_125 : decode cX9_divide 125 = .ok (.iconst 1, 1) := by decide +kernel
theorem dX9_divide_126 : decode cX9_divide 126 = .ok (.ireturn, 1) := by decide +kernel
theorem dX9_giveRest_0 : decode cX9_giveRest 0 = .ok (.lload_n 1, 1) := by decide +kernel
theorem dX9_giveRest_1 : decode cX9_giveRest 1 = .ok (.lconst 0, 1) := by decide +kernel
theorem dX9_giveRest_2 : decode cX9_giveRest 2 = .ok (.lcmp, 1) := by decide +kernel
theorem dX9_giveRest_3 : decode cX9_giveRest 3 = .ok (.ifCond .ge 9, 3) := by decide +kernel
theorem dX9_giveRest_6 : decode cX9_giveRest 6 = .ok (.ldc2_w 58, 3) := by decide +kernel
theorem dX9_giveRest_9 : decode cX9_giveRest 9 = .ok (.goto 4, 3) := by decide +kernel
theorem dX9_giveRest_12 : decode cX9_giveRest 12 = .ok (.lconst 1, 1) := by decide +kernel
theorem dX9_giveRest_13 : decode cX9_giveRest 13 = .ok (.lstore_n 3, 1) := by decide +kernel
theorem dX9_giveRest_14 : decode cX9_giveRest 14 = .ok (.lload_n 1, 1) := by decide +kernel
theorem dX9_giveRest_15 : decode cX9_giveRest 15 = .ok (.invokestatic 45, 3) := by decide +kernel
theorem dX9_giveRest_18 : decode cX9_giveRest 18 = .ok (.lstore 5, 2) := by decide +kernel
theorem dX9_giveRest_20 : decode cX9_giveRest 20 = .ok (.iconst 0, 1) := by decide +kernel
theorem dX9_giveRest_21 : decode cX9_giveRest 21 = .ok (.istore 7, 2) := by decide +kernel
theorem dX9_giveRest_23 : decode cX9_giveRest 23 = .ok (.iload 7, 2) := by decide +kernel
theorem dX9_giveRest_25 : decode cX9_giveRest 25 = .ok (.aload_n 0, 1) := by decide +kernel
theorem dX9_giveRest_26 : decode cX9_giveRest 26 = .ok (.getfield 30, 3) := by decide +kernel
theorem dX9_giveRest_29 : decode cX9_giveRest 29 = .ok (.if_icmp .ge 46, 3) := by decide +kernel
theorem dX9_giveRest_32 : decode cX9_giveRest 32 = .ok (.iload 7, 2) := by decide +kernel
theorem dX9_giveRest_34 : decode cX9_giveRest 34 = .ok (.i2l, 1) := by decide +kernel
theorem dX9_giveRest_35 : decode cX9_giveRest 35 = .ok (.lload 5, 2) := by decide +kernel
theorem dX9_giveRest_37 : decode cX9_giveRest 37 = .ok (.lcmp, 1) := by decide +kernel
theorem dX9_giveRest_38 : decode cX9_giveRest 38 = .ok (.ifCond .ge 37, 3) := by decide +kernel
theorem dX9_giveRest_41 : decode cX9_giveRest 41 = .ok (.aload_n 0, 1) := by decide +kernel
theorem dX9_giveRest_42 : decode cX9_giveRest 42 = .ok (.invokevirtual 60, 3) := by decide +kernel
theorem dX9_giveRest_45 : decode cX9_giveRest 45 = .ok (.istore 8, 2) := by decide +kernel
theorem dX9_giveRest_47 : decode cX9_giveRest 47 = .ok (.aload_n 0, 1) := by decide +kernel
theorem dX9_giveRest_48 : decode cX9_giveRest 48 = .ok (.getfield 14, 3) := by decide +kernel
theorem dX9_giveRest_51 : decode cX9_giveRest 51 = .ok (.iload 8, 2) := by decide +kernel
theorem dX9_giveRest_53 : decode cX9_giveRest 53 = .ok (.lload_n 3, 1) := by decide +kernel
theorem dX9_giveRest_54 : decode cX9_giveRest 54 = .ok (.invokevirtual 64, 3) := by decide +kernel
theorem dX9_giveRest_57 : decode cX9_giveRest 57 = .ok (.aload_n 0, 1) := by decide +kernel
theorem dX9_giveRest_58 : decode cX9_giveRest 58 = .ok (.getfield 27, 3) := by decide +kernel
theorem dX9_giveRest_61 : decode cX9_giveRest 61 = .ok (.iload 8, 2) := by decide +kernel
theorem dX9_giveRest_63 : decode cX9_giveRest 63 = .ok (.ldc2_w 58, 3) := by decide +kernel
theorem dX9_giveRest_66 : decode cX9_giveRest 66 = .ok (.invokevirtual 42, 3) := by decide +kernel
theorem dX9_giveRest_69 : decode cX9_giveRest 69 = .ok (.iinc 7 1, 3) := by decide +kernel
theorem dX9_giveRest_72 : decode cX9_giveRest 72 = .ok (.goto (-49), 3) := by decide +kernel
theorem dX9_giveRest_75 : decode cX9_giveRest 75 = .ok (.return_, 1) := by decide +kernel
theorem dX9_withGreatestRemainder_0 : decode cX9_withGreatestRemainder 0 = .ok (.iconst 0, 1) := by decide +kernel
theorem dX9_withGreatestRemainder_1 : decode cX9_withGreatestRemainder 1 = .ok (.istore_n 1, 1) := by decide +kernel
theorem dX9_withGreatestRemainder_2 : decode cX9_withGreatestRemainder 2 = .ok (.iconst 1, 1) := by decide +kernel
theorem dX9_withGreatestRemainder_3 : decode cX9_withGreatestRemainder 3 = .ok (.istore_n 2, 1) := by decide +kernel
theorem dX9_withGreatestRemainder_4 : decode cX9_withGreatestRemainder 4 = .ok (.iload_n 2, 1) := by decide +kernel
theorem dX9_withGreatestRemainder_5 : decode cX9_withGreatestRemainder 5 = .ok (.aload_n 0, 1) := by decide +kernel
theorem dX9_withGreatestRemainder_6 : decode cX9_withGreatestRemainder 6 = .ok (.getfield 30, 3) := by decide +kernel
theorem dX9_withGreatestRemainder_9 : decode cX9_withGreatestRemainder 9 = .ok (.if_icmp .ge 31, 3) := by decide +kernel
theorem dX9_withGreatestRemainder_12 : decode cX9_withGreatestRemainder 12 = .ok (.aload_n 0, 1) := by decide +kernel
theorem dX9_withGreatestRemainder_13 : decode cX9_withGreatestRemainder 13 = .ok (.getfield 27, 3) := by decide +kernel
theorem dX9_withGreatestRemainder_16 : decode cX9_withGreatestRemainder 16 = .ok (.iload_n 2, 1) := by decide +kernel
theorem dX9_withGreatestRemainder_17 : decode cX9_withGreatestRemainder 17 = .ok (.invokevirtual 51, 3) := by decide +kernel
theorem dX9_withGreatestRemainder_20 : decode cX9_withGreatestRemainder 20 = .ok (.aload_n 0, 1) := by decide +kernel
theorem dX9_withGreatestRemainder_21 : decode cX9_withGreatestRemainder 21 = .ok (.getfield 27, 3) := by decide +kernel
theorem dX9_withGreatestRemainder_24 : decode cX9_withGreatestRemainder 24 = .ok (.iload_n 1, 1) := by decide +kernel
theorem dX9_withGreatestRemainder_25 : decode cX9_withGreatestRemainder 25 = .ok (.invokevirtual 51, 3) := by decide +kernel
theorem dX9_withGreatestRemainder_28 : decode cX9_withGreatestRemainder 28 = .ok (.lcmp, 1) := by decide +kernel
theorem dX9_withGreatestRemainder_29 : decode cX9_withGreatestRemainder 29 = .ok (.ifCond .le 5, 3) := by decide +kernel
theorem dX9_withGreatestRemainder_32 : decode cX9_withGreatestRemainder 32 = .ok (.iload_n 2, 1) := by decide +kernel
theorem dX9_withGreatestRemainder_33 : decode cX9_withGreatestRemainder 33 = .ok (.istore_n 1, 1) := by decide +kernel
theorem dX9_withGreatestRemainder_34 : decode cX9_withGreatestRemainder 34 = .ok (.iinc 2 1, 3) := by decide +kernel
theorem dX9_withGreatestRemainder_37 : decode cX9_withGreatestRemainder 37 = .ok (.goto (-33), 3) := by decide +kernel
theorem dX9_withGreatestRemainder_40 : decode cX9_withGreatestRemainder 40 = .ok (.iload_n 1, 1) := by decide +kernel
theorem dX9_withGreatestRemainder_41 : decode cX9_withGreatestRemainder 41 = .ok (.ireturn, 1) := by decide +kernel
theorem dX10_init_0 : decode cX10_init 0 = .ok (.aload_n 0, 1) := by decide +kernel
theorem dX10_init_1 : decode cX10_init 1 = .ok (.invokespecial 3, 3) := by decide +kernel
theorem dX10_init_4 : decode cX10_init 4 = .ok (.aload_n 0, 1) := by decide +kernel
theorem dX10_init_5 : decode cX10_init 5 = .ok (.new 9, 3) := by decide +kernel
theorem dX10_init_8 : decode cX10_init 8 = .ok (.dup, 1) := by decide +kernel
theorem dX10_init_9 : decode cX10_init 9 = .ok (.sipush 4000, 3) := by decide +kernel
theorem dX10_init_12 : decode cX10_init 12 = .ok (.invokespecial 11, 3) := by decide +kernel
theorem dX10_init_15 : decode cX10_init 15 = .ok (.putfield 14, 3) := by decide +kernel
theorem dX10_init_18 : decode cX10_init 18 = .ok (.aload_n 0, 1) := by decide +kernel
theorem dX10_init_19 : decode cX10_init 19 = .ok (.new 9, 3) := by decide +kernel
theorem dX10_init_22 : decode cX10_init 22 = .ok (.dup, 1) := by decide +kernel
theorem dX10_init_23 : decode cX10_init 23 = .ok (.bipush 20, 2) := by decide +kernel
theorem dX10_init_25 : decode cX10_init 25 = .ok (.invokespecial 11, 3) := by decide +kernel
theorem dX10_init_28 : decode cX10_init 28 = .ok (.putfield 20, 3) := by decide +kernel
theorem dX10_init_31 : decode cX10_init 31 = .ok (.aload_n 0, 1) := by decide +kernel
theorem dX10_init_32 : decode cX10_init 32 = .ok (.aload_n 1, 1) := by decide +kernel
theorem dX10_init_33 : decode cX10_init 33 = .ok (.putfield 23, 3) := by decide +kernel
theorem dX10_init_36 : decode cX10_init 36 = .ok (.return_, 1) := by decide +kernel
theorem dX10_clear_0 : decode cX10_clear 0 = .ok (.aload_n 0, 1) := by decide +kernel
theorem dX10_clear_1 : decode cX10_clear 1 = .ok (.iconst 0, 1) := by decide +kernel
theorem dX10_clear_2 : decode cX10_clear 2 = .ok (.putfield 27, 3) := by decide +kernel
theorem dX10_clear_5 : decode cX10_clear 5 = .ok (.return_, 1) := by decide +kernel
theorem dX10_write_0 : decode cX10_write 0 = .ok (.aload_n 0, 1) := by decide +kernel
theorem dX10_write_1 : decode cX10_write 1 = .ok (.invokevirtual 31, 3) := by decide +kernel
theorem dX10_write_4 : decode cX10_write 4 = .ok (.iload_n 1, 1) := by decide +kernel
theorem dX10_write_5 : decode cX10_write 5 = .ok (.ifCond .ne 10, 3) := by decide +kernel
theorem dX10_write_8 : decode cX10_write 8 = .ok (.aload_n 0, 1) := by decide +kernel
theorem dX10_write_9 : decode cX10_write 9 = .ok (.invokevirtual 34, 3) := by decide +kernel
theorem dX10_write_12 : decode cX10_write 12 = .ok (.goto 35, 3) := by decide +kernel
theorem dX10_write_15 : decode cX10_write 15 = .ok (.iload_n 1, 1) := by decide +kernel
theorem dX10_write_16 : decode cX10_write 16 = .ok (.iconst 1, 1) := by decide +kernel
theorem dX10_write_17 : decode cX10_write 17 = .ok (.if_icmp .ne 26, 3) := by decide +kernel
theorem dX10_write_20 : decode cX10_write 20 = .ok (.iconst 0, 1) := by decide +kernel
theorem dX10_write_21 : decode cX10_write 21 = .ok (.istore_n 2, 1) := by decide +kernel
theorem dX10_write_22 : decode cX10_write 22 = .ok (.iload_n 2, 1) := by decide +kernel
theorem dX10_write_23 : decode cX10_write 23 = .ok (.iconst 5, 1) := by decide +kernel
theorem dX10_write_24 : decode cX10_write 24 = .ok (.if_icmp .ge 16, 3) := by decide +kernel
theorem dX10_write_27 : decode cX10_write 27 = .ok (.aload_n 0, 1) := by decide +kernel
theorem dX10_write_28 : decode cX10_write 28 = .ok (.iconst (-1), 1) := by decide +kernel
theorem dX10_write_29 : decode cX10_write 29 = .ok (.iload_n 2, 1) := by decide +kernel
theorem dX10_write_30 : decode cX10_write 30 = .ok (.iconst 0, 1) := by decide +kernel
theorem dX10_write_31 : decode cX10_write 31 = .ok (.invokevirtual 37, 3) := by decide +kernel
theorem dX10_write_34 : decode cX10_write 34 = .ok (.iinc 2 1, 3) := by decide +kernel
theorem dX10_write_37 : decode cX10_write 37 = .ok (.goto (-15), 3) := by decide +kernel
theorem dX10_write_40 : decode cX10_write 40 = .ok (.goto 7, 3) := by decide +kernel
theorem dX10_write_43 : decode cX10_write 43 = .ok (.aload_n 0, 1) := by decide +kernel
theorem dX10_write_44 : decode cX10_write 44 = .ok (.invokevirtual 41, 3) := by decide +kernel
theorem dX10_write_47 : decode cX10_write 47 = .ok (.aload_n 0, 1) := by decide +kernel
theorem dX10_write_48 : decode cX10_write 48 = .ok (.getfield 27, 3) := by decide +kernel
theorem dX10_write_51 : decode cX10_write 51 = .ok (.sipush 4000, 3) := by decide +kernel
theorem dX10_write_54 : decode cX10_write 54 = .ok (.if_icmp .le 9, 3) := by decide +kernel
theorem dX10_write_57 : decode cX10_write 57 = .ok (.aload_n 0, 1) := by decide +kernel
theorem dX10_write_58 : decode cX10_write 58 = .ok (.invokevirtual 31, 3) := by decide +kernel
theorem dX10_write_61 : decode cX10_write 61 = .ok (.iconst 0, 1) := by decide +kernel
theorem dX10_write_62 : decode cX10_write 62 = .ok (.ireturn, 1) := by decide +kernel
theorem dX10_write_63 : decode cX10_write 63 = .ok (.iconst 1, 1) := by decide +kernel
theorem dX10_write_64 : decode cX10_write 64 = .ok (.ireturn, 1) := by decide +kernel
theorem dX10_writeLeaves_0 : decode cX10_writeLeaves 0 = .ok (.iconst 0, 1) := by decide +kernel
theorem dX10_writeLeaves_1 : decode cX10_writeLeaves 1 = .ok (.istore_n 1, 1) := by decide +kernel
theorem dX10_writeLeaves_2 : decode cX10_writeLeaves 2 = .ok (.iload_n 1, 1) := by decide +kernel
theorem dX10_writeLeaves_3 : decode cX10_writeLeaves 3 = .ok (.aload_n 0, 1) := by decide +kernel
theorem dX10_writeLeaves_4 : decode cX10_writeLeaves 4 = .ok (.getfield 23, 3) := by decide +kernel
theorem dX10_writeLeaves_7 : decode cX10_writeLeaves 7 = .ok (.getfield 44, 3) := by decide +kernel
theorem dX10_writeLeaves_10 : decode cX10_writeLeaves 10 = .ok (.if_icmp .ge 53, 3) := by decide +kernel
theorem dX10_writeLeaves_13 : decode cX10_writeLeaves 13 = .ok (.aload_n 0, 1) := by decide +kernel
theorem dX10_writeLeaves_14 : decode cX10_writeLeaves 14 = .ok (.getfield 23, 3) := by decide +kernel
theorem dX10_writeLeaves_17 : decode cX10_writeLeaves 17 = .ok (.getfield 47, 3) := by decide +kernel
theorem dX10_writeLeaves_20 : decode cX10_writeLeaves 20 = .ok (.iload_n 1, 1) := by decide +kernel
theorem dX10_writeLeaves_21 : decode cX10_writeLeaves 21 = .ok (.invokevirtual 50, 3) := by decide +kernel
theorem dX10_writeLeaves_24 : decode cX10_writeLeaves 24 = .ok (.istore_n 2, 1) := by decide +kernel
theorem dX10_writeLeaves_25 : decode cX10_writeLeaves 25 = .ok (.aload_n 0, 1) := by decide +kernel
theorem dX10_writeLeaves_26 : decode cX10_writeLeaves 26 = .ok (.getfield 23, 3) := by decide +kernel
theorem dX10_writeLeaves_29 : decode cX10_writeLeaves 29 = .ok (.iload_n 2, 1) := by decide +kernel
theorem dX10_writeLeaves_30 : decode cX10_writeLeaves 30 = .ok (.invokevirtual 54, 3) := by decide +kernel
theorem dX10_writeLeaves_33 : decode cX10_writeLeaves 33 = .ok (.ifCond .eq 24, 3) := by decide +kernel
theorem dX10_writeLeaves_36 : decode cX10_writeLeaves 36 = .ok (.aload_n 0, 1) := by decide +kernel
theorem dX10_writeLeaves_37 : decode cX10_writeLeaves 37 = .ok (.getfield 23, 3) := by decide +kernel
theorem dX10_writeLeaves_40 : decode cX10_writeLeaves 40 = .ok (.getfield 58, 3) := by decide +kernel
theorem dX10_writeLeaves_43 : decode cX10_writeLeaves 43 = .ok (.iload_n 2, 1) := by decide +kernel
theorem dX10_writeLeaves_44 : decode cX10_writeLeaves 44 = .ok (.invokevirtual 62, 3) := by decide +kernel
theorem dX10_writeLeaves_47 : decode cX10_writeLeaves 47 = .ok (.lconst 0, 1) := by decide +kernel
theorem dX10_writeLeaves_48 : decode cX10_writeLeaves 48 = .ok (.lcmp, 1) := by decide +kernel
theorem dX10_writeLeaves_49 : decode cX10_writeLeaves 49 = .ok (.ifCond .eq 8, 3) := by decide +kernel
theorem dX10_writeLeaves_52 : decode cX10_writeLeaves 52 = .ok (.aload_n 0, 1) := by decide +kernel
theorem dX10_writeLeaves_53 : decode cX10_writeLeaves 53 = .ok (.iload_n 2, 1) := by decide +kernel
theorem dX10_writeLeaves_54 : decode cX10_writeLeaves 54 = .ok (.invokevirtual 67, 3) := by decide +kernel
theorem dX10_writeLeaves_57 : decode cX10_writeLeaves 57 = .ok (.iinc 1 1, 3) := by decide +kernel
theorem dX10_writeLeaves_60 : decode cX10_writeLeaves 60 = .ok (.goto (-58), 3) := by decide +kernel
theorem dX10_writeLeaves_63 : decode cX10_writeLeaves 63 = .ok (.return_, 1) := by decide +kernel
theorem dX10_writeUnder_0 : decode cX10_writeUnder 0 = .ok (.iload_n 3, 1) := by decide +kernel
theorem dX10_writeUnder_1 : decode cX10_writeUnder 1 = .ok (.iconst 5, 1) := by decide +kernel
theorem dX10_writeUnder_2 : decode cX10_writeUnder 2 = .ok (.if_icmp .le 4, 3) := by decide +kernel
theorem dX10_writeUnder_5 : decode cX10_writeUnder 5 = .ok (.return_, 1) := by decide +kernel
theorem dX10_writeUnder_6 : decode cX10_writeUnder 6 = .ok (.iconst 0, 1) := by decide +kernel
theorem dX10_writeUnder_7 : decode cX10_writeUnder 7 = .ok (.istore 4, 2) := by decide +kernel
theorem dX10_writeUnder_9 : decode cX10_writeUnder 9 = .ok (.iload 4, 2) := by decide +kernel
theorem dX10_writeUnder_11 : decode cX10_writeUnder 11 = .ok (.aload_n 0, 1) := by decide +kernel
theorem dX10_writeUnder_12 : decode cX10_writeUnder 12 = .ok (.getfield 23, 3) := by decide +kernel
theorem dX10_writeUnder_15 : decode cX10_writeUnder 15 = .ok (.getfield 44, 3) := by decide +kernel
theorem dX10_writeUnder_18 : decode cX10_writeUnder 18 = .ok (.if_icmp .ge 71, 3) := by decide +kernel
theorem dX10_writeUnder_21 : decode cX10_writeUnder 21 = .ok (.aload_n 0, 1) := by decide +kernel
theorem dX10_writeUnder_22 : decode cX10_writeUnder 22 = .ok (.getfield 23, 3) := by decide +kernel
theorem dX10_writeUnder_25 : decode cX10_writeUnder 25 = .ok (.getfield 47, 3) := by decide +kernel
theorem dX10_writeUnder_28 : decode cX10_writeUnder 28 = .ok (.iload 4, 2) := by decide +kernel
theorem dX10_writeUnder_30 : decode cX10_writeUnder 30 = .ok (.invokevirtual 50, 3) := by decide +kernel
theorem dX10_writeUnder_33 : decode cX10_writeUnder 33 = .ok (.istore 5, 2) := by decide +kernel
theorem dX10_writeUnder_35 : decode cX10_writeUnder 35 = .ok (.aload_n 0, 1) := by decide +kernel
theorem dX10_writeUnder_36 : decode cX10_writeUnder 36 = .ok (.getfield 23, 3) := by decide +kernel
theorem dX10_writeUnder_39 : decode cX10_writeUnder 39 = .ok (.getfield 70, 3) := by decide +kernel
theorem dX10_writeUnder_42 : decode cX10_writeUnder 42 = .ok (.iload 5, 2) := by decide +kernel
theorem dX10_writeUnder_44 : decode cX10_writeUnder 44 = .ok (.invokevirtual 50, 3) := by decide +kernel
theorem dX10_writeUnder_47 : decode cX10_writeUnder 47 = .ok (.iload_n 1, 1) := by decide +kernel
theorem dX10_writeUnder_48 : decode cX10_writeUnder 48 = .ok (.if_icmp .ne 35, 3) := by decide +kernel
theorem dX10_writeUnder_51 : decode cX10_writeUnder 51 = .ok (.aload_n 0, 1) := by decide +kernel
theorem dX10_writeUnder_52 : decode cX10_writeUnder 52 = .ok (.getfield 23, 3) := by decide +kernel
theorem dX10_writeUnder_55 : decode cX10_writeUnder 55 = .ok (.getfield 73, 3) := by decide +kernel
theorem dX10_writeUnder_58 : decode cX10_writeUnder 58 = .ok (.iload 5, 2) := by decide +kernel
theorem dX10_writeUnder_60 : decode cX10_writeUnder 60 = .ok (.invokevirtual 50, 3) := by decide +kernel
theorem dX10_writeUnder_63 : decode cX10_writeUnder 63 = .ok (.iload_n 2, 1) := by decide +kernel
theorem dX10_writeUnder_64 : decode cX10_writeUnder 64 = .ok (.if_icmp .ne 19, 3) := by decide +kernel
theorem dX10_writeUnder_67 : decode cX10_writeUnder 67 = .ok (.aload_n 0, 1) := by decide +kernel
theorem dX10_writeUnder_68 : decode cX10_writeUnder 68 = .ok (.iload 5, 2) := by decide +kernel
theorem dX10_writeUnder_70 : decode cX10_writeUnder 70 = .ok (.invokevirtual 67, 3) := by decide +kernel
theorem dX10_writeUnder_73 : decode cX10_writeUnder 73 = .ok (.aload_n 0, 1) := by decide +kernel
theorem dX10_writeUnder_74 : decode cX10_writeUnder 74 = .ok (.iload 5, 2) := by decide +kernel
theorem dX10_writeUnder_76 : decode cX10_writeUnder 76 = .ok (.iload_n 2, 1) := by decide +kernel
theorem dX10_writeUnder_77 : decode cX10_writeUnder 77 = .ok (.iload_n 3, 1) := by decide +kernel
theorem dX10_writeUnder_78 : decode cX10_writeUnder 78 = .ok (.iconst 1, 1) := by decide +kernel
theorem dX10_writeUnder_79 : decode cX10_writeUnder 79 = .ok (.iadd, 1) := by decide +kernel
theorem dX10_writeUnder_80 : decode cX10_writeUnder 80 = .ok (.invokevirtual 37, 3) := by decide +kernel
theorem dX10_writeUnder_83 : decode cX10_writeUnder 83 = .ok (.iinc 4 1, 3) := by decide +kernel
theorem dX10_writeUnder_86 : decode cX10_writeUnder 86 = .ok (.goto (-77), 3) := by decide +kernel
theorem dX10_writeUnder_89 : decode cX10_writeUnder 89 = .ok (.return_, 1) := by decide +kernel
theorem dX10_writeKinds_0 : decode cX10_writeKinds 0 = .ok (.lconst 0, 1) := by decide +kernel
theorem dX10_writeKinds_1 : decode cX10_writeKinds 1 = .ok (.lstore_n 1, 1) := by decide +kernel
theorem dX10_writeKinds_2 : decode cX10_writeKinds 2 = .ok (.iconst 0, 1) := by decide +kernel
theorem dX10_writeKinds_3 : decode cX10_writeKinds 3 = .ok (.istore_n 3, 1) := by decide +kernel
theorem dX10_writeKinds_4 : decode cX10_writeKinds 4 = .ok (.iload_n 3, 1) := by decide +kernel
theorem dX10_writeKinds_5 : decode cX10_writeKinds 5 = .ok (.iconst 5, 1) := by decide +kernel
theorem dX10_writeKinds_6 : decode cX10_writeKinds 6 = .ok (.if_icmp .ge 48, 3) := by decide +kernel
theorem dX10_writeKinds_9 : decode cX10_writeKinds 9 = .ok (.aload_n 0, 1) := by decide +kernel
theorem dX10_writeKinds_10 : decode cX10_writeKinds 10 = .ok (.getfield 23, 3) := by decide +kernel
theorem dX10_writeKinds_13 : decode cX10_writeKinds 13 = .ok (.iload_n 3, 1) := by decide +kernel
theorem dX10_writeKinds_14 : decode cX10_writeKinds 14 = .ok (.invokevirtual 76, 3) := by decide +kernel
theorem dX10_writeKinds_17 : decode cX10_writeKinds 17 = .ok (.lstore 4, 2) := by decide +kernel
theorem dX10_writeKinds_19 : decode cX10_writeKinds 19 = .ok (.lload_n 1, 1) := by decide +kernel
theorem dX10_writeKinds_20 : decode cX10_writeKinds 20 = .ok (.lload 4, 2) := by decide +kernel
theorem dX10_writeKinds_22 : decode cX10_writeKinds 22 = .ok (.ladd, 1) := by decide +kernel
theorem dX10_writeKinds_23 : decode cX10_writeKinds 23 = .ok (.lstore_n 1, 1) := by decide +kernel
theorem dX10_writeKinds_24 : decode cX10_writeKinds 24 = .ok (.aload_n 0, 1) := by decide +kernel
theorem dX10_writeKinds_25 : decode cX10_writeKinds 25 = .ok (.iload_n 3, 1) := by decide +kernel
theorem dX10_writeKinds_26 : decode cX10_writeKinds 26 = .ok (.getstatic 79, 3) := by decide +kernel
theorem dX10_writeKinds_29 : decode cX10_writeKinds 29 = .ok (.arraylength, 1) := by decide +kernel
theorem dX10_writeKinds_30 : decode cX10_writeKinds 30 = .ok (.if_icmp .ge 11, 3) := by decide +kernel
theorem dX10_writeKinds_33 : decode cX10_writeKinds 33 = .ok (.getstatic 79, 3) := by decide +kernel
theorem dX10_writeKinds_36 : decode cX10_writeKinds 36 = .ok (.iload_n 3, 1) := by decide +kernel
theorem dX10_writeKinds_37 : decode cX10_writeKinds 37 = .ok (.caload, 1) := by decide +kernel
theorem dX10_writeKinds_38 : decode cX10_writeKinds 38 = .ok (.goto 5, 3) := by decide +kernel
theorem dX10_writeKinds_41 : decode cX10_writeKinds 41 = .ok (.bipush 32, 2) := by decide +kernel
theorem dX10_writeKinds_43 : decode cX10_writeKinds 43 = .ok (.lload 4, 2) := by decide +kernel
theorem dX10_writeKinds_45 : decode cX10_writeKinds 45 = .ok (.invokevirtual 83, 3) := by decide +kernel
theorem dX10_writeKinds_48 : decode cX10_writeKinds 48 = .ok (.iinc 3 1, 3) := by decide +kernel
theorem dX10_writeKinds_51 : decode cX10_writeKinds 51 = .ok (.goto (-47), 3) := by decide +kernel
theorem dX10_writeKinds_54 : decode cX10_writeKinds 54 = .ok (.aload_n 0, 1) := by decide +kernel
theorem dX10_writeKinds_55 : decode cX10_writeKinds 55 = .ok (.bipush 61, 2) := by decide +kernel
theorem dX10_writeKinds_57 : decode cX10_writeKinds 57 = .ok (.lload_n 1, 1) := by decide +kernel
theorem dX10_writeKinds_58 : decode cX10_writeKinds 58 = .ok (.invokevirtual 83, 3) := by decide +kernel
theorem dX10_writeKinds_61 : decode cX10_writeKinds 61 = .ok (.return_, 1) := by decide +kernel
theorem dX10_writeTotal_0 : decode cX10_writeTotal 0 = .ok (.aload_n 0, 1) := by decide +kernel
theorem dX10_writeTotal_1 : decode cX10_writeTotal 1 = .ok (.iload_n 1, 1) := by decide +kernel
theorem dX10_writeTotal_2 : decode cX10_writeTotal 2 = .ok (.invokevirtual 87, 3) := by decide +kernel
theorem dX10_writeTotal_5 : decode cX10_writeTotal 5 = .ok (.aload_n 0, 1) := by decide +kernel
theorem dX10_writeTotal_6 : decode cX10_writeTotal 6 = .ok (.bipush 32, 2) := by decide +kernel
theorem dX10_writeTotal_8 : decode cX10_writeTotal 8 = .ok (.invokevirtual 87, 3) := by decide +kernel
theorem dX10_writeTotal_11 : decode cX10_writeTotal 11 = .ok (.aload_n 0, 1) := by decide +kernel
theorem dX10_writeTotal_12 : decode cX10_writeTotal 12 = .ok (.lload_n 2, 1) := by decide +kernel
theorem dX10_writeTotal_13 : decode cX10_writeTotal 13 = .ok (.invokevirtual 90, 3) := by decide +kernel
theorem dX10_writeTotal_16 : decode cX10_writeTotal 16 = .ok (.aload_n 0, 1) := by decide +kernel
theorem dX10_writeTotal_17 : decode cX10_writeTotal 17 = .ok (.bipush 10, 2) := by decide +kernel
theorem dX10_writeTotal_19 : decode cX10_writeTotal 19 = .ok (.invokevirtual 87, 3) := by decide +kernel
theorem dX10_writeTotal_22 : decode cX10_writeTotal 22 = .ok (.return_, 1) := by decide +kernel
theorem dX10_writeRow_0 : decode cX10_writeRow 0 = .ok (.iconst 0, 1) := by decide +kernel
theorem dX10_writeRow_1 : decode cX10_writeRow 1 = .ok (.istore_n 2, 1) := by decide +kernel
theorem dX10_writeRow_2 : decode cX10_writeRow 2 = .ok (.iload_n 2, 1) := by decide +kernel
theorem dX10_writeRow_3 : decode cX10_writeRow 3 = .ok (.aload_n 0, 1) := by decide +kernel
theorem dX10_writeRow_4 : decode cX10_writeRow 4 = .ok (.getfield 23, 3) := by decide +kernel
theorem dX10_writeRow_7 : decode cX10_writeRow 7 = .ok (.getfield 94, 3) := by decide +kernel
theorem dX10_writeRow_10 : decode cX10_writeRow 10 = .ok (.iload_n 1, 1) := by decide +kernel
theorem dX10_writeRow_11 : decode cX10_writeRow 11 = .ok (.invokevirtual 50, 3) := by decide +kernel
theorem dX10_writeRow_14 : decode cX10_writeRow 14 = .ok (.if_icmp .ge 21, 3) := by decide +kernel
theorem dX10_writeRow_17 : decode cX10_writeRow 17 = .ok (.aload_n 0, 1) := by decide +kernel
theorem dX10_writeRow_18 : decode cX10_writeRow 18 = .ok (.bipush 32, 2) := by decide +kernel
theorem dX10_writeRow_20 : decode cX10_writeRow 20 = .ok (.invokevirtual 87, 3) := by decide +kernel
theorem dX10_writeRow_23 : decode cX10_writeRow 23 = .ok (.aload_n 0, 1) := by decide +kernel
theorem dX10_writeRow_24 : decode cX10_writeRow 24 = .ok (.bipush 32, 2) := by decide +kernel
theorem dX10_writeRow_26 : decode cX10_writeRow 26 = .ok (.invokevirtual 87, 3) := by decide +kernel
theorem dX10_writeRow_29 : decode cX10_writeRow 29 = .ok (.iinc 2 1, 3) := by decide +kernel
theorem dX10_writeRow_32 : decode cX10_writeRow 32 = .ok (.goto (-30), 3) := by decide +kernel
theorem dX10_writeRow_35 : decode cX10_writeRow 35 = .ok (.aload_n 0, 1) := by decide +kernel
theorem dX10_writeRow_36 : decode cX10_writeRow 36 = .ok (.getfield 23, 3) := by decide +kernel
theorem dX10_writeRow_39 : decode cX10_writeRow 39 = .ok (.getfield 97, 3) := by decide +kernel
theorem dX10_writeRow_42 : decode cX10_writeRow 42 = .ok (.iload_n 1, 1) := by decide +kernel
theorem dX10_writeRow_43 : decode cX10_writeRow 43 = .ok (.invokevirtual 50, 3) := by decide +kernel
theorem dX10_writeRow_46 : decode cX10_writeRow 46 = .ok (.istore_n 2, 1) := by decide +kernel
theorem dX10_writeRow_47 : decode cX10_writeRow 47 = .ok (.aload_n 0, 1) := by decide +kernel
theorem dX10_writeRow_48 : decode cX10_writeRow 48 = .ok (.bipush 48, 2) := by decide +kernel
theorem dX10_writeRow_50 : decode cX10_writeRow 50 = .ok (.iload_n 2, 1) := by decide +kernel
theorem dX10_writeRow_51 : decode cX10_writeRow 51 = .ok (.sipush 1000, 3) := by decide +kernel
theorem dX10_writeRow_54 : decode cX10_writeRow 54 = .ok (.idiv, 1) := by decide +kernel
theorem dX10_writeRow_55 : decode cX10_writeRow 55 = .ok (.bipush 10, 2) := by decide +kernel
theorem dX10_writeRow_57 : decode cX10_writeRow 57 = .ok (.irem, 1) := by decide +kernel
theorem dX10_writeRow_58 : decode cX10_writeRow 58 = .ok (.iadd, 1) := by decide +kernel
theorem dX10_writeRow_59 : decode cX10_writeRow 59 = .ok (.invokevirtual 87, 3) := by decide +kernel
theorem dX10_writeRow_62 : decode cX10_writeRow 62 = .ok (.aload_n 0, 1) := by decide +kernel
theorem dX10_writeRow_63 : decode cX10_writeRow 63 = .ok (.bipush 48, 2) := by decide +kernel
theorem dX10_writeRow_65 : decode cX10_writeRow 65 = .ok (.iload_n 2, 1) := by decide +kernel
theorem dX10_writeRow_66 : decode cX10_writeRow 66 = .ok (.bipush 100, 2) := by decide +kernel
theorem dX10_writeRow_68 : decode cX10_writeRow 68 = .ok (.idiv, 1) := by decide +kernel
theorem dX10_writeRow_69 : decode cX10_writeRow 69 = .ok (.bipush 10, 2) := by decide +kernel
theorem dX10_writeRow_71 : decode cX10_writeRow 71 = .ok (.irem, 1) := by decide +kernel
theorem dX10_writeRow_72 : decode cX10_writeRow 72 = .ok (.iadd, 1) := by decide +kernel
theorem dX10_writeRow_73 : decode cX10_writeRow 73 = .ok (.invokevirtual 87, 3) := by decide +kernel
theorem dX10_writeRow_76 : decode cX10_writeRow 76 = .ok (.aload_n 0, 1) := by decide +kernel
theorem dX10_writeRow_77 : decode cX10_writeRow 77 = .ok (.bipush 48, 2) := by decide +kernel
theorem dX10_writeRow_79 : decode cX10_writeRow 79 = .ok (.iload_n 2, 1) := by decide +kernel
theorem dX10_writeRow_80 : decode cX10_writeRow 80 = .ok (.bipush 10, 2) := by decide +kernel
theorem dX10_writeRow_82 : decode cX10_writeRow 82 = .ok (.idiv, 1) := by decide +kernel
theorem dX10_writeRow_83 : decode cX10_writeRow 83 = .ok (.bipush 10, 2) := by decide +kernel
theorem dX10_writeRow_85 : decode cX10_writeRow 85 = .ok (.irem, 1) := by decide +kernel
theorem dX10_writeRow_86 : decode cX10_writeRow 86 = .ok (.iadd, 1) := by decide +kernel
theorem dX10_writeRow_87 : decode cX10_writeRow 87 = .ok (.invokevirtual 87, 3) := by decide +kernel
theorem dX10_writeRow_90 : decode cX10_writeRow 90 = .ok (.aload_n 0, 1) := by decide +kernel
theorem dX10_writeRow_91 : decode cX10_writeRow 91 = .ok (.bipush 48, 2) := by decide +kernel
theorem dX10_writeRow_93 : decode cX10_writeRow 93 = .ok (.iload_n 2, 1) := by decide +kernel
theorem dX10_writeRow_94 : decode cX10_writeRow 94 = .ok (.bipush 10, 2) := by decide +kernel
theorem dX10_writeRow_96 : decode cX10_writeRow 96 = .ok (.irem, 1) := by decide +kernel
theorem dX10_writeRow_97 : decode cX10_writeRow 97 = .ok (.iadd, 1) := by decide +kernel
theorem dX10_writeRow_98 : decode cX10_writeRow 98 = .ok (.invokevirtual 87, 3) := by decide +kernel
theorem dX10_writeRow_101 : decode cX10_writeRow 101 = .ok (.aload_n 0, 1) := by decide +kernel
theorem dX10_writeRow_102 : decode cX10_writeRow 102 = .ok (.bipush 32, 2) := by decide +kernel
theorem dX10_writeRow_104 : decode cX10_writeRow 104 = .ok (.invokevirtual 87, 3) := by decide +kernel
theorem dX10_writeRow_107 : decode cX10_writeRow 107 = .ok (.aload_n 0, 1) := by decide +kernel
theorem dX10_writeRow_108 : decode cX10_writeRow 108 = .ok (.aload_n 0, 1) := by decide +kernel
theorem dX10_writeRow_109 : decode cX10_writeRow 109 = .ok (.getfield 23, 3) := by decide +kernel
theorem dX10_writeRow_112 : decode cX10_writeRow 112 = .ok (.iload_n 1, 1) := by decide +kernel
theorem dX10_writeRow_113 : decode cX10_writeRow 113 = .ok (.aload_n 0, 1) := by decide +kernel
theorem dX10_writeRow_114 : decode cX10_writeRow 114 = .ok (.getfield 23, 3) := by decide +kernel
theorem dX10_writeRow_117 : decode cX10_writeRow 117 = .ok (.getfield 58, 3) := by decide +kernel
theorem dX10_writeRow_120 : decode cX10_writeRow 120 = .ok (.invokevirtual 100, 3) := by decide +kernel
theorem dX10_writeRow_123 : decode cX10_writeRow 123 = .ok (.invokevirtual 90, 3) := by decide +kernel
theorem dX10_writeRow_126 : decode cX10_writeRow 126 = .ok (.aload_n 0, 1) := by decide +kernel
theorem dX10_writeRow_127 : decode cX10_writeRow 127 = .ok (.bipush 10, 2) := by decide +kernel
theorem dX10_writeRow_129 : decode cX10_writeRow 129 = .ok (.invokevirtual 87, 3) := by decide +kernel
theorem dX10_writeRow_132 : decode cX10_writeRow 132 = .ok (.return_, 1) := by decide +kernel
theorem dX10_putMoney_0 : decode cX10_putMoney 0 = .ok (.lload_n 1, 1) := by decide +kernel
theorem dX10_putMoney_1 : decode cX10_putMoney 1 = .ok (.lconst 0, 1) := by decide +kernel
theorem dX10_putMoney_2 : decode cX10_putMoney 2 = .ok (.lcmp, 1) := by decide +kernel
theorem dX10_putMoney_3 : decode cX10_putMoney 3 = .ok (.ifCond .ge 9, 3) := by decide +kernel
theorem dX10_putMoney_6 : decode cX10_putMoney 6 = .ok (.aload_n 0, 1) := by decide +kernel
theorem dX10_putMoney_7 : decode cX10_putMoney 7 = .ok (.bipush 45, 2) := by decide +kernel
theorem dX10_putMoney_9 : decode cX10_putMoney 9 = .ok (.invokevirtual 87, 3) := by decide +kernel
theorem dX10_putMoney_12 : decode cX10_putMoney 12 = .ok (.lload_n 1, 1) := by decide +kernel
theorem dX10_putMoney_13 : decode cX10_putMoney 13 = .ok (.invokestatic 104, 3) := by decide +kernel
theorem dX10_putMoney_16 : decode cX10_putMoney 16 = .ok (.lstore_n 3, 1) := by decide +kernel
theorem dX10_putMoney_17 : decode cX10_putMoney 17 = .ok (.iconst 0, 1) := by decide +kernel
theorem dX10_putMoney_18 : decode cX10_putMoney 18 = .ok (.istore 5, 2) := by decide +kernel
theorem dX10_putMoney_20 : decode cX10_putMoney 20 = .ok (.iload 5, 2) := by decide +kernel
theorem dX10_putMoney_22 : decode cX10_putMoney 22 = .ok (.bipush 20, 2) := by decide +kernel
theorem dX10_putMoney_24 : decode cX10_putMoney 24 = .ok (.if_icmp .ge 42, 3) := by decide +kernel
theorem dX10_putMoney_27 : decode cX10_putMoney 27 = .ok (.iload 5, 2) := by decide +kernel
theorem dX10_putMoney_29 : decode cX10_putMoney 29 = .ok (.iconst 3, 1) := by decide +kernel
theorem dX10_putMoney_30 : decode cX10_putMoney 30 = .ok (.if_icmp .lt 9, 3) := by decide +kernel
theorem dX10_putMoney_33 : decode cX10_putMoney 33 = .ok (.lload_n 3, 1) := by decide +kernel
theorem dX10_putMoney_34 : decode cX10_putMoney 34 = .ok (.lconst 0, 1) := by decide +kernel
theorem dX10_putMoney_35 : decode cX10_putMoney 35 = .ok (.lcmp, 1) := by decide +kernel
theorem dX10_putMoney_36 : decode cX10_putMoney 36 = .ok (.ifCond .le 30, 3) := by decide +kernel
theorem dX10_putMoney_39 : decode cX10_putMoney 39 = .ok (.aload_n 0, 1) := by decide +kernel
theorem dX10_putMoney_40 : decode cX10_putMoney 40 = .ok (.getfield 20, 3) := by decide +kernel
theorem dX10_putMoney_43 : decode cX10_putMoney 43 = .ok (.iload 5, 2) := by decide +kernel
theorem dX10_putMoney_45 : decode cX10_putMoney 45 = .ok (.lload_n 3, 1) := by decide +kernel
theorem dX10_putMoney_46 : decode cX10_putMoney 46 = .ok (.ldc2_w 110, 3) := by decide +kernel
theorem dX10_putMoney_49 : decode cX10_putMoney 49 = .ok (.lrem, 1) := by decide +kernel
theorem dX10_putMoney_50 : decode cX10_putMoney 50 = .ok (.l2i, 1) := by decide +kernel
theorem dX10_putMoney_51 : decode cX10_putMoney 51 = .ok (.invokevirtual 112, 3) := by decide +kernel
theorem dX10_putMoney_54 : decode cX10_putMoney 54 = .ok (.lload_n 3, 1) := by decide +kernel
theorem dX10_putMoney_55 : decode cX10_putMoney 55 = .ok (.ldc2_w 110, 3) := by decide +kernel
theorem dX10_putMoney_58 : decode cX10_putMoney 58 = .ok (.ldiv, 1) := by decide +kernel
theorem dX10_putMoney_59 : decode cX10_putMoney 59 = .ok (.lstore_n 3, 1) := by decide +kernel
theorem dX10_putMoney_60 : decode cX10_putMoney 60 = .ok (.iinc 5 1, 3) := by decide +kernel
theorem dX10_putMoney_63 : decode cX10_putMoney 63 = .ok (.goto (-43), 3) := by decide +kernel
theorem dX10_putMoney_66 : decode cX10_putMoney 66 = .ok (.iload 5, 2) := by decide +kernel
theorem dX10_putMoney_68 : decode cX10_putMoney 68 = .ok (.iconst 1, 1) := by decide +kernel
theorem dX10_putMoney_69 : decode cX10_putMoney 69 = .ok (.isub, 1) := by decide +kernel
theorem dX10_putMoney_70 : decode cX10_putMoney 70 = .ok (.istore 6, 2) := by decide +kernel
theorem dX10_putMoney_72 : decode cX10_putMoney 72 = .ok (.iload 6, 2) := by decide +kernel
theorem dX10_putMoney_74 : decode cX10_putMoney 74 = .ok (.ifCond .lt 61, 3) := by decide +kernel
theorem dX10_putMoney_77 : decode cX10_putMoney 77 = .ok (.aload_n 0, 1) := by decide +kernel
theorem dX10_putMoney_78 : decode cX10_putMoney 78 = .ok (.bipush 48, 2) := by decide +kernel
theorem dX10_putMoney_80 : decode cX10_putMoney 80 = .ok (.aload_n 0, 1) := by decide +kernel
theorem dX10_putMoney_81 : decode cX10_putMoney 81 = .ok (.getfield 20, 3) := by decide +kernel
theorem dX10_putMoney_84 : decode cX10_putMoney 84 = .ok (.iload 6, 2) := by decide +kernel
theorem dX10_putMoney_86 : decode cX10_putMoney 86 = .ok (.invokevirtual 50, 3) := by decide +kernel
theorem dX10_putMoney_89 : decode cX10_putMoney 89 = .ok (.iadd, 1) := by decide +kernel
theorem dX10_putMoney_90 : decode cX10_putMoney 90 = .ok (.invokevirtual 87, 3) := by decide +kernel
theorem dX10_putMoney_93 : decode cX10_putMoney 93 = .ok (.iload 6, 2) := by decide +kernel
theorem dX10_putMoney_95 : decode cX10_putMoney 95 = .ok (.iconst 2, 1) := by decide +kernel
theorem dX10_putMoney_96 : decode cX10_putMoney 96 = .ok (.if_icmp .ne 12, 3) := by decide +kernel
theorem dX10_putMoney_99 : decode cX10_putMoney 99 = .ok (.aload_n 0, 1) := by decide +kernel
theorem dX10_putMoney_100 : decode cX10_putMoney 100 = .ok (.bipush 46, 2) := by decide +kernel
theorem dX10_putMoney_102 : decode cX10_putMoney 102 = .ok (.invokevirtual 87, 3) := by decide +kernel
theorem dX10_putMoney_105 : decode cX10_putMoney 105 = .ok (.goto 24, 3) := by decide +kernel
theorem dX10_putMoney_108 : decode cX10_putMoney 108 = .ok (.iload 6, 2) := by decide +kernel
theorem dX10_putMoney_110 : decode cX10_putMoney 110 = .ok (.iconst 2, 1) := by decide +kernel
theorem dX10_putMoney_111 : decode cX10_putMoney 111 = .ok (.if_icmp .le 18, 3) := by decide +kernel
theorem dX10_putMoney_114 : decode cX10_putMoney 114 = .ok (.iload 6, 2) := by decide +kernel
theorem dX10_putMoney_116 : decode cX10_putMoney 116 = .ok (.iconst 2, 1) := by decide +kernel
theorem dX10_putMoney_117 : decode cX10_putMoney 117 = .ok (.isub, 1) := by decide +kernel
theorem dX10_putMoney_118 : decode cX10_putMoney 118 = .ok (.iconst 3, 1) := by decide +kernel
theorem dX10_putMoney_119 : decode cX10_putMoney 119 = .ok (.irem, 1) := by decide +kernel
theorem dX10_putMoney_120 : decode cX10_putMoney 120 = .ok (.ifCond .ne 9, 3) := by decide +kernel
theorem dX10_putMoney_123 : decode cX10_putMoney 123 = .ok (.aload_n 0, 1) := by decide +kernel
theorem dX10_putMoney_124 : decode cX10_putMoney 124 = .ok (.bipush 44, 2) := by decide +kernel
theorem dX10_putMoney_126 : decode cX10_putMoney 126 = .ok (.invokevirtual 87, 3) := by decide +kernel
theorem dX10_putMoney_129 : decode cX10_putMoney 129 = .ok (.iinc 6 (-1), 3) := by decide +kernel
theorem dX10_putMoney_132 : decode cX10_putMoney 132 = .ok (.goto (-60), 3) := by decide +kernel
theorem dX10_putMoney_135 : decode cX10_putMoney 135 = .ok (.return_, 1) := by decide +kernel
theorem dX10_put_0 : decode cX10_put 0 = .ok (.aload_n 0, 1) := by decide +kernel
theorem dX10_put_1 : decode cX10_put 1 = .ok (.getfield 14, 3) := by decide +kernel
theorem dX10_put_4 : decode cX10_put 4 = .ok (.aload_n 0, 1) := by decide +kernel
theorem dX10_put_5 : decode cX10_put 5 = .ok (.getfield 27, 3) := by decide +kernel
theorem dX10_put_8 : decode cX10_put 8 = .ok (.iload_n 1, 1) := by decide +kernel
theorem dX10_put_9 : decode cX10_put 9 = .ok (.invokevirtual 112, 3) := by decide +kernel
theorem dX10_put_12 : decode cX10_put 12 = .ok (.aload_n 0, 1) := by decide +kernel
theorem dX10_put_13 : decode cX10_put 13 = .ok (.dup, 1) := by decide +kernel
theorem dX10_put_14 : decode cX10_put 14 = .ok (.getfield 27, 3) := by decide +kernel
theorem dX10_put_17 : decode cX10_put 17 = .ok (.iconst 1, 1) := by decide +kernel
theorem dX10_put_18 : decode cX10_put 18 = .ok (.iadd, 1) := by decide +kernel
theorem dX10_put_19 : decode cX10_put 19 = .ok (.putfield 27, 3) := by decide +kernel
theorem dX10_put_22 : decode cX10_put 22 = .ok (.return_, 1) := by decide +kernel
theorem dX11_init_0 : decode cX11_init 0 = .ok (.aload_n 0, 1) := by decide +kernel
theorem dX11_init_1 : decode cX11_init 1 = .ok (.invokespecial 1, 3) := by decide +kernel
theorem dX11_init_4 : decode cX11_init 4 = .ok (.aload_n 0, 1) := by decide +kernel
theorem dX11_init_5 : decode cX11_init 5 = .ok (.new 7, 3) := by decide +kernel
theorem dX11_init_8 : decode cX11_init 8 = .ok (.dup, 1) := by decide +kernel
theorem dX11_init_9 : decode cX11_init 9 = .ok (.invokespecial 9, 3) := by decide +kernel
theorem dX11_init_12 : decode cX11_init 12 = .ok (.putfield 10, 3) := by decide +kernel
theorem dX11_init_15 : decode cX11_init 15 = .ok (.aload_n 0, 1) := by decide +kernel
theorem dX11_init_16 : decode cX11_init 16 = .ok (.new 16, 3) := by decide +kernel
theorem dX11_init_19 : decode cX11_init 19 = .ok (.dup, 1) := by decide +kernel
theorem dX11_init_20 : decode cX11_init 20 = .ok (.invokespecial 18, 3) := by decide +kernel
theorem dX11_init_23 : decode cX11_init 23 = .ok (.putfield 19, 3) := by decide +kernel
theorem dX11_init_26 : decode cX11_init 26 = .ok (.aload_n 0, 1) := by decide +kernel
theorem dX11_init_27 : decode cX11_init 27 = .ok (.new 23, 3) := by decide +kernel
theorem dX11_init_30 : decode cX11_init 30 = .ok (.dup, 1) := by decide +kernel
theorem dX11_init_31 : decode cX11_init 31 = .ok (.aload_n 0, 1) := by decide +kernel
theorem dX11_init_32 : decode cX11_init 32 = .ok (.getfield 19, 3) := by decide +kernel
theorem dX11_init_35 : decode cX11_init 35 = .ok (.aload_n 0, 1) := by decide +kernel
theorem dX11_init_36 : decode cX11_init 36 = .ok (.getfield 10, 3) := by decide +kernel
theorem dX11_init_39 : decode cX11_init 39 = .ok (.invokespecial 25, 3) := by decide +kernel
theorem dX11_init_42 : decode cX11_init 42 = .ok (.putfield 28, 3) := by decide +kernel
theorem dX11_init_45 : decode cX11_init 45 = .ok (.aload_n 0, 1) := by decide +kernel
theorem dX11_init_46 : decode cX11_init 46 = .ok (.new 32, 3) := by decide +kernel
theorem dX11_init_49 : decode cX11_init 49 = .ok (.dup, 1) := by decide +kernel
theorem dX11_init_50 : decode cX11_init 50 = .ok (.bipush 8, 2) := by decide +kernel
theorem dX11_init_52 : decode cX11_init 52 = .ok (.invokespecial 34, 3) := by decide +kernel
theorem dX11_init_55 : decode cX11_init 55 = .ok (.putfield 37, 3) := by decide +kernel
theorem dX11_init_58 : decode cX11_init 58 = .ok (.aload_n 0, 1) := by decide +kernel
theorem dX11_init_59 : decode cX11_init 59 = .ok (.new 32, 3) := by decide +kernel
theorem dX11_init_62 : decode cX11_init 62 = .ok (.dup, 1) := by decide +kernel
theorem dX11_init_63 : decode cX11_init 63 = .ok (.bipush 60, 2) := by decide +kernel
theorem dX11_init_65 : decode cX11_init 65 = .ok (.invokespecial 34, 3) := by decide +kernel
theorem dX11_init_68 : decode cX11_init 68 = .ok (.putfield 41, 3) := by decide +kernel
theorem dX11_init_71 : decode cX11_init 71 = .ok (.aload_n 0, 1) := by decide +kernel
theorem dX11_init_72 : decode cX11_init 72 = .ok (.new 44, 3) := by decide +kernel
theorem dX11_init_75 : decode cX11_init 75 = .ok (.dup, 1) := by decide +kernel
theorem dX11_init_76 : decode cX11_init 76 = .ok (.invokespecial 46, 3) := by decide +kernel
theorem dX11_init_79 : decode cX11_init 79 = .ok (.putfield 47, 3) := by decide +kernel
theorem dX11_init_82 : decode cX11_init 82 = .ok (.aload_n 0, 1) := by decide +kernel
theorem dX11_init_83 : decode cX11_init 83 = .ok (.new 51, 3) := by decide +kernel
theorem dX11_init_86 : decode cX11_init 86 = .ok (.dup, 1) := by decide +kernel
theorem dX11_init_87 : decode cX11_init 87 = .ok (.aload_n 0, 1) := by decide +kernel
theorem dX11_init_88 : decode cX11_init 88 = .ok (.getfield 10, 3) := by decide +kernel
theorem dX11_init_91 : decode cX11_init 91 = .ok (.getfield 53, 3) := by decide +kernel
theorem dX11_init_94 : decode cX11_init 94 = .ok (.invokespecial 57, 3) := by decide +kernel
theorem dX11_init_97 : decode cX11_init 97 = .ok (.putfield 60, 3) := by decide +kernel
theorem dX11_init_100 : decode cX11_init 100 = .ok (.aload_n 0, 1) := by decide +kernel
theorem dX11_init_101 : decode cX11_init 101 = .ok (.iconst 1, 1) := by decide +kernel
theorem dX11_init_102 : decode cX11_init 102 = .ok (.putfield 64, 3) := by decide +kernel
theorem dX11_init_105 : decode cX11_init 105 = .ok (.return_, 1) := by decide +kernel
theorem dX11_account_0 : decode cX11_account 0 = .ok (.aload_n 0, 1) := by decide +kernel
theorem dX11_account_1 : decode cX11_account 1 = .ok (.getfield 64, 3) := by decide +kernel
theorem dX11_account_4 : decode cX11_account 4 = .ok (.ifCond .ne 6, 3) := by decide +kernel
theorem dX11_account_7 : decode cX11_account 7 = .ok (.bipush (-6), 2) := by decide +kernel
theorem dX11_account_9 : decode cX11_account 9 = .ok (.ireturn, 1) := by decide +kernel
theorem dX11_account_10 : decode cX11_account 10 = .ok (.aload_n 0, 1) := by decide +kernel
theorem dX11_account_11 : decode cX11_account 11 = .ok (.getfield 10, 3) := by decide +kernel
theorem dX11_account_14 : decode cX11_account 14 = .ok (.iload_n 1, 1) := by decide +kernel
theorem dX11_account_15 : decode cX11_account 15 = .ok (.iload_n 2, 1) := by decide +kernel
theorem dX11_account_16 : decode cX11_account 16 = .ok (.iload_n 3, 1) := by decide +kernel
theorem dX11_account_17 : decode cX11_account 17 = .ok (.invokevirtual 68, 3) := by decide +kernel
theorem dX11_account_20 : decode cX11_account 20 = .ok (.istore 5, 2) := by decide +kernel
theorem dX11_account_22 : decode cX11_account 22 = .ok (.iload 5, 2) := by decide +kernel
theorem dX11_account_24 : decode cX11_account 24 = .ok (.ifCond .eq 6, 3) := by decide +kernel
theorem dX11_account_27 : decode cX11_account 27 = .ok (.iload 5, 2) := by decide +kernel
theorem dX11_account_29 : decode cX11_account 29 = .ok (.ireturn, 1) := by decide +kernel
theorem dX11_account_30 : decode cX11_account 30 = .ok (.aload_n 0, 1) := by decide +kernel
theorem dX11_account_31 : decode cX11_account 31 = .ok (.getfield 19, 3) := by decide +kernel
theorem dX11_account_34 : decode cX11_account 34 = .ok (.iconst 1, 1) := by decide +kernel
theorem dX11_account_35 : decode cX11_account 35 = .ok (.invokevirtual 72, 3) := by decide +kernel
theorem dX11_account_38 : decode cX11_account 38 = .ok (.aload_n 0, 1) := by decide +kernel
theorem dX11_account_39 : decode cX11_account 39 = .ok (.getfield 19, 3) := by decide +kernel
theorem dX11_account_42 : decode cX11_account 42 = .ok (.iload_n 1, 1) := by decide +kernel
theorem dX11_account_43 : decode cX11_account 43 = .ok (.i2l, 1) := by decide +kernel
theorem dX11_account_44 : decode cX11_account 44 = .ok (.invokevirtual 75, 3) := by decide +kernel
theorem dX11_account_47 : decode cX11_account 47 = .ok (.aload_n 0, 1) := by decide +kernel
theorem dX11_account_48 : decode cX11_account 48 = .ok (.getfield 19, 3) := by decide +kernel
theorem dX11_account_51 : decode cX11_account 51 = .ok (.iload_n 2, 1) := by decide +kernel
theorem dX11_account_52 : decode cX11_account 52 = .ok (.i2l, 1) := by decide +kernel
theorem dX11_account_53 : decode cX11_account 53 = .ok (.invokevirtual 75, 3) := by decide +kernel
theorem dX11_account_56 : decode cX11_account 56 = .ok (.aload_n 0, 1) := by decide +kernel
theorem dX11_account_57 : decode cX11_account 57 = .ok (.getfield 19, 3) := by decide +kernel
theorem dX11_account_60 : decode cX11_account 60 = .ok (.iload_n 3, 1) := by decide +kernel
theorem dX11_account_61 : decode cX11_account 61 = .ok (.i2l, 1) := by decide +kernel
theorem dX11_account_62 : decode cX11_account 62 = .ok (.invokevirtual 75, 3) := by decide +kernel
theorem dX11_account_65 : decode cX11_account 65 = .ok (.aload_n 0, 1) := by decide +kernel
theorem dX11_account_66 : decode cX11_account 66 = .ok (.getfield 19, 3) := by decide +kernel
theorem dX11_account_69 : decode cX11_account 69 = .ok (.iload 4, 2) := by decide +kernel
theorem dX11_account_71 : decode cX11_account 71 = .ok (.ifCond .eq 7, 3) := by decide +kernel
theorem dX11_account_74 : decode cX11_account 74 = .ok (.lconst 1, 1) := by decide +kernel
theorem dX11_account_75 : decode cX11_account 75 = .ok (.goto 4, 3) := by decide +kernel
theorem dX11_account_78 : decode cX11_account 78 = .ok (.lconst 0, 1) := by decide +kernel
theorem dX11_account_79 : decode cX11_account 79 = .ok (.invokevirtual 75, 3) := by decide +kernel
theorem dX11_account_82 : decode cX11_account 82 = .ok (.aload_n 0, 1) := by decide +kernel
theorem dX11_account_83 : decode cX11_account 83 = .ok (.getfield 19, 3) := by decide +kernel
theorem dX11_account_86 : decode cX11_account 86 = .ok (.invokevirtual 79, 3) := by decide +kernel
theorem dX11_account_89 : decode cX11_account 89 = .ok (.ifCond .eq 21, 3) := by decide +kernel
theorem dX11_account_92 : decode cX11_account 92 = .ok (.aload_n 0, 1) := by decide +kernel
theorem dX11_account_93 : decode cX11_account 93 = .ok (.getfield 10, 3) := by decide +kernel
theorem dX11_account_96 : decode cX11_account 96 = .ok (.getfield 53, 3) := by decide +kernel
theorem dX11_account_99 : decode cX11_account 99 = .ok (.iload_n 1, 1) := by decide +kernel
theorem dX11_account_100 : decode cX11_account 100 = .ok (.iload_n 2, 1) := by decide +kernel
theorem dX11_account_101 : decode cX11_account 101 = .ok (.iload_n 3, 1) := by decide +kernel
theorem dX11_account_102 : decode cX11_account 102 = .ok (.iload 4, 2) := by decide +kernel
theorem dX11_account_104 : decode cX11_account 104 = .ok (.invokevirtual 83, 3) := by decide +kernel
theorem dX11_account_107 : decode cX11_account 107 = .ok (.goto 5, 3) := by decide +kernel
theorem dX11_account_110 : decode cX11_account 110 = .ok (.bipush (-13), 2) := by decide +kernel
theorem dX11_account_112 : decode cX11_account 112 = .ok (.ireturn, 1) := by decide +kernel
theorem dX11_shut_0 : decode cX11_shut 0 = .ok (.aload_n 0, 1) := by decide +kernel
theorem dX11_shut_1 : decode cX11_shut 1 = .ok (.getfield 64, 3) := by decide +kernel
theorem dX11_shut_4 : decode cX11_shut 4 = .ok (.ifCond .ne 6, 3) := by decide +kernel
theorem dX11_shut_7 : decode cX11_shut 7 = .ok (.bipush (-6), 2) := by decide +kernel
theorem dX11_shut_9 : decode cX11_shut 9 = .ok (.ireturn, 1) := by decide +kernel
theorem dX11_shut_10 : decode cX11_shut 10 = .ok (.aload_n 0, 1) := by decide +kernel
theorem dX11_shut_11 : decode cX11_shut 11 = .ok (.getfield 10, 3) := by decide +kernel
theorem dX11_shut_14 : decode cX11_shut 14 = .ok (.iload_n 1, 1) := by decide +kernel
theorem dX11_shut_15 : decode cX11_shut 15 = .ok (.iload_n 2, 1) := by decide +kernel
theorem dX11_shut_16 : decode cX11_shut 16 = .ok (.invokevirtual 89, 3) := by decide +kernel
theorem dX11_shut_19 : decode cX11_shut 19 = .ok (.istore_n 3, 1) := by decide +kernel
theorem dX11_shut_20 : decode cX11_shut 20 = .ok (.iload_n 3, 1) := by decide +kernel
theorem dX11_shut_21 : decode cX11_shut 21 = .ok (.ifCond .eq 5, 3) := by decide +kernel
theorem dX11_shut_24 : decode cX11_shut 24 = .ok (.iload_n 3, 1) := by decide +kernel
theorem dX11_shut_25 : decode cX11_shut 25 = .ok (.ireturn, 1) := by decide +kernel
theorem dX11_shut_26 : decode cX11_shut 26 = .ok (.aload_n 0, 1) := by decide +kernel
theorem dX11_shut_27 : decode cX11_shut 27 = .ok (.getfield 19, 3) := by decide +kernel
theorem dX11_shut_30 : decode cX11_shut 30 = .ok (.iconst 2, 1) := by decide +kernel
theorem dX11_shut_31 : decode cX11_shut 31 = .ok (.invokevirtual 72, 3) := by decide +kernel
theorem dX11_shut_34 : decode cX11_shut 34 = .ok (.aload_n 0, 1) := by decide +kernel
theorem dX11_shut_35 : decode cX11_shut 35 = .ok (.getfield 19, 3) := by decide +kernel
theorem dX11_shut_38 : decode cX11_shut 38 = .ok (.iload_n 1, 1) := by decide +kernel
theorem dX11_shut_39 : decode cX11_shut 39 = .ok (.i2l, 1) := by decide +kernel
theorem dX11_shut_40 : decode cX11_shut 40 = .ok (.invokevirtual 75, 3) := by decide +kernel
theorem dX11_shut_43 : decode cX11_shut 43 = .ok (.aload_n 0, 1) := by decide +kernel
theorem dX11_shut_44 : decode cX11_shut 44 = .ok (.getfield 19, 3) := by decide +kernel
theorem dX11_shut_47 : decode cX11_shut 47 = .ok (.iload_n 2, 1) := by decide +kernel
theorem dX11_shut_48 : decode cX11_shut 48 = .ok (.ifCond .eq 7, 3) := by decide +kernel
theorem dX11_shut_51 : decode cX11_shut 51 = .ok (.lconst 1, 1) := by decide +kernel
theorem dX11_shut_52 : decode cX11_shut 52 = .ok (.goto 4, 3) := by decide +kernel
theorem dX11_shut_55 : decode cX11_shut 55 = .ok (.lconst 0, 1) := by decide +kernel
theorem dX11_shut_56 : decode cX11_shut 56 = .ok (.invokevirtual 75, 3) := by decide +kernel
theorem dX11_shut_59 : decode cX11_shut 59 = .ok (.aload_n 0, 1) := by decide +kernel
theorem dX11_shut_60 : decode cX11_shut 60 = .ok (.getfield 19, 3) := by decide +kernel
theorem dX11_shut_63 : decode cX11_shut 63 = .ok (.invokevirtual 79, 3) := by decide +kernel
theorem dX11_shut_66 : decode cX11_shut 66 = .ok (.ifCond .ne 6, 3) := by decide +kernel
theorem dX11_shut_69 : decode cX11_shut 69 = .ok (.bipush (-13), 2) := by decide +kernel
theorem dX11_shut_71 : decode cX11_shut 71 = .ok (.ireturn, 1) := by decide +kernel
theorem dX11_shut_72 : decode cX11_shut 72 = .ok (.aload_n 0, 1) := by decide +kernel
theorem dX11_shut_73 : decode cX11_shut 73 = .ok (.getfield 10, 3) := by decide +kernel
theorem dX11_shut_76 : decode cX11_shut 76 = .ok (.getfield 53, 3) := by decide +kernel
theorem dX11_shut_79 : decode cX11_shut 79 = .ok (.iload_n 1, 1) := by decide +kernel
theorem dX11_shut_80 : decode cX11_shut 80 = .ok (.iload_n 2, 1) := by decide +kernel
theorem dX11_shut_81 : decode cX11_shut 81 = .ok (.invokevirtual 93, 3) := by decide +kernel
theorem dX11_shut_84 : decode cX11_shut 84 = .ok (.iload_n 2, 1) := by decide +kernel
theorem dX11_shut_85 : decode cX11_shut 85 = .ok (.ifCond .eq 7, 3) := by decide +kernel
theorem dX11_shut_88 : decode cX11_shut 88 = .ok (.iconst 0, 1) := by decide +kernel
theorem dX11_shut_89 : decode cX11_shut 89 = .ok (.goto 4, 3) := by decide +kernel
theorem dX11_shut_92 : decode cX11_shut 92 = .ok (.iconst 1, 1) := by decide +kernel
theorem dX11_shut_93 : decode cX11_shut 93 = .ok (.ireturn, 1) := by decide +kernel
theorem dX11_period_0 : decode cX11_period 0 = .ok (.aload_n 0, 1) := by decide +kernel
theorem dX11_period_1 : decode cX11_period 1 = .ok (.getfield 64, 3) := by decide +kernel
theorem dX11_period_4 : decode cX11_period 4 = .ok (.ifCond .ne 6, 3) := by decide +kernel
theorem dX11_period_7 : decode cX11_period 7 = .ok (.bipush (-6), 2) := by decide +kernel
theorem dX11_period_9 : decode cX11_period 9 = .ok (.ireturn, 1) := by decide +kernel
theorem dX11_period_10 : decode cX11_period 10 = .ok (.aload_n 0, 1) := by decide +kernel
theorem dX11_period_11 : decode cX11_period 11 = .ok (.getfield 10, 3) := by decide +kernel
theorem dX11_period_14 : decode cX11_period 14 = .ok (.iload_n 1, 1) := by decide +kernel
theorem dX11_period_15 : decode cX11_period 15 = .ok (.invokevirtual 97, 3) := by decide +kernel
theorem dX11_period_18 : decode cX11_period 18 = .ok (.istore_n 2, 1) := by decide +kernel
theorem dX11_period_19 : decode cX11_period 19 = .ok (.iload_n 2, 1) := by decide +kernel
theorem dX11_period_20 : decode cX11_period 20 = .ok (.ifCond .eq 5, 3) := by decide +kernel
theorem dX11_period_23 : decode cX11_period 23 = .ok (.iload_n 2, 1) := by decide +kernel
theorem dX11_period_24 : decode cX11_period 24 = .ok (.ireturn, 1) := by decide +kernel
theorem dX11_period_25 : decode cX11_period 25 = .ok (.aload_n 0, 1) := by decide +kernel
theorem dX11_period_26 : decode cX11_period 26 = .ok (.getfield 19, 3) := by decide +kernel
theorem dX11_period_29 : decode cX11_period 29 = .ok (.iconst 3, 1) := by decide +kernel
theorem dX11_period_30 : decode cX11_period 30 = .ok (.invokevirtual 72, 3) := by decide +kernel
theorem dX11_period_33 : decode cX11_period 33 = .ok (.aload_n 0, 1) := by decide +kernel
theorem dX11_period_34 : decode cX11_period 34 = .ok (.getfield 19, 3) := by decide +kernel
theorem dX11_period_37 : decode cX11_period 37 = .ok (.iload_n 1, 1) := by decide +kernel
theorem dX11_period_38 : decode cX11_period 38 = .ok (.i2l, 1) := by decide +kernel
theorem dX11_period_39 : decode cX11_period 39 = .ok (.invokevirtual 75, 3) := by decide +kernel
theorem dX11_period_42 : decode cX11_period 42 = .ok (.aload_n 0, 1) := by decide +kernel
theorem dX11_period_43 : decode cX11_period 43 = .ok (.getfield 19, 3) := by decide +kernel
theorem dX11_period_46 : decode cX11_period 46 = .ok (.invokevirtual 79, 3) := by decide +kernel
theorem dX11_period_49 : decode cX11_period 49 = .ok (.ifCond .eq 17, 3) := by decide +kernel
theorem dX11_period_52 : decode cX11_period 52 = .ok (.aload_n 0, 1) := by decide +kernel
theorem dX11_period_53 : decode cX11_period 53 = .ok (.getfield 10, 3) := by decide +kernel
theorem dX11_period_56 : decode cX11_period 56 = .ok (.getfield 101, 3) := by decide +kernel
theorem dX11_period_59 : decode cX11_period 59 = .ok (.iload_n 1, 1) := by decide +kernel
theorem dX11_period_60 : decode cX11_period 60 = .ok (.invokevirtual 105, 3) := by decide +kernel
theorem dX11_period_63 : decode cX11_period 63 = .ok (.goto 5, 3) := by decide +kernel
theorem dX11_period_66 : decode cX11_period 66 = .ok (.bipush (-13), 2) := by decide +kernel
theorem dX11_period_68 : decode cX11_period 68 = .ok (.ireturn, 1) := by decide +kernel
theorem dX11_owner_0 : decode cX11_owner 0 = .ok (.aload_n 0, 1) := by decide +kernel
theorem dX11_owner_1 : decode cX11_owner 1 = .ok (.getfield 64, 3) := by decide +kernel
theorem dX11_owner_4 : decode cX11_owner 4 = .ok (.ifCond .ne 6, 3) := by decide +kernel
theorem dX11_owner_7 : decode cX11_owner 7 = .ok (.bipush (-6), 2) := by decide +kernel
theorem dX11_owner_9 : decode cX11_owner 9 = .ok (.ireturn, 1) := by decide +kernel
theorem dX11_owner_10 : decode cX11_owner 10 = .ok (.aload_n 0, 1) := by decide +kernel
theorem dX11_owner_11 : decode cX11_owner 11 = .ok (.getfield 10, 3) := by decide +kernel
theorem dX11_owner_14 : decode cX11_owner 14 = .ok (.iload_n 1, 1) := by decide +kernel
theorem dX11_owner_15 : decode cX11_owner 15 = .ok (.invokevirtual 109, 3) := by decide +kernel
theorem dX11_owner_18 : decode cX11_owner 18 = .ok (.istore_n 2, 1) := by decide +kernel
theorem dX11_owner_19 : decode cX11_owner 19 = .ok (.iload_n 2, 1) := by decide +kernel
theorem dX11_owner_20 : decode cX11_owner 20 = .ok (.ifCond .eq 5, 3) := by decide +kernel
theorem dX11_owner_23 : decode cX11_owner 23 = .ok (.iload_n 2, 1) := by decide +kernel
theorem dX11_owner_24 : decode cX11_owner 24 = .ok (.ireturn, 1) := by decide +kernel
theorem dX11_owner_25 : decode cX11_owner 25 = .ok (.aload_n 0, 1) := by decide +kernel
theorem dX11_owner_26 : decode cX11_owner 26 = .ok (.getfield 19, 3) := by decide +kernel
theorem dX11_owner_29 : decode cX11_owner 29 = .ok (.iconst 4, 1) := by decide +kernel
theorem dX11_owner_30 : decode cX11_owner 30 = .ok (.invokevirtual 72, 3) := by decide +kernel
theorem dX11_owner_33 : decode cX11_owner 33 = .ok (.aload_n 0, 1) := by decide +kernel
theorem dX11_owner_34 : decode cX11_owner 34 = .ok (.getfield 19, 3) := by decide +kernel
theorem dX11_owner_37 : decode cX11_owner 37 = .ok (.iload_n 1, 1) := by decide +kernel
theorem dX11_owner_38 : decode cX11_owner 38 = .ok (.i2l, 1) := by decide +kernel
theorem dX11_owner_39 : decode cX11_owner 39 = .ok (.invokevirtual 75, 3) := by decide +kernel
theorem dX11_owner_42 : decode cX11_owner 42 = .ok (.aload_n 0, 1) := by decide +kernel
theorem dX11_owner_43 : decode cX11_owner 43 = .ok (.getfield 19, 3) := by decide +kernel
theorem dX11_owner_46 : decode cX11_owner 46 = .ok (.invokevirtual 79, 3) := by decide +kernel
theorem dX11_owner_49 : decode cX11_owner 49 = .ok (.ifCond .eq 14, 3) := by decide +kernel
theorem dX11_owner_52 : decode cX11_owner 52 = .ok (.aload_n 0, 1) := by decide +kernel
theorem dX11_owner_53 : decode cX11_owner 53 = .ok (.getfield 10, 3) := by decide +kernel
theorem dX11_owner_56 : decode cX11_owner 56 = .ok (.iload_n 1, 1) := by decide +kernel
theorem dX11_owner_57 : decode cX11_owner 57 = .ok (.invokevirtual 112, 3) := by decide +kernel
theorem dX11_owner_60 : decode cX11_owner 60 = .ok (.goto 5, 3) := by decide +kernel
theorem dX11_owner_63 : decode cX11_owner 63 = .ok (.bipush (-13), 2) := by decide +kernel
theorem dX11_owner_65 : decode cX11_owner 65 = .ok (.ireturn, 1) := by decide +kernel
theorem dX11_line_0 : decode cX11_line 0 = .ok (.aload_n 0, 1) := by decide +kernel
theorem dX11_line_1 : decode cX11_line 1 = .ok (.getfield 64, 3) := by decide +kernel
theorem dX11_line_4 : decode cX11_line 4 = .ok (.ifCond .ne 6, 3) := by decide +kernel
theorem dX11_line_7 : decode cX11_line 7 = .ok (.bipush (-6), 2) := by decide +kernel
theorem dX11_line_9 : decode cX11_line 9 = .ok (.ireturn, 1) := by decide +kernel
theorem dX11_line_10 : decode cX11_line 10 = .ok (.aload_n 0, 1) := by decide +kernel
theorem dX11_line_11 : decode cX11_line 11 = .ok (.getfield 10, 3) := by decide +kernel
theorem dX11_line_14 : decode cX11_line 14 = .ok (.iload_n 1, 1) := by decide +kernel
theorem dX11_line_15 : decode cX11_line 15 = .ok (.lload_n 2, 1) := by decide +kernel
theorem dX11_line_16 : decode cX11_line 16 = .ok (.invokevirtual 115, 3) := by decide +kernel
theorem dX11_line_19 : decode cX11_line 19 = .ok (.istore 4, 2) := by decide +kernel
theorem dX11_line_21 : decode cX11_line 21 = .ok (.iload 4, 2) := by decide +kernel
theorem dX11_line_23 : decode cX11_line 23 = .ok (.ifCond .eq 6, 3) := by decide +kernel
theorem dX11_line_26 : decode cX11_line 26 = .ok (.iload 4, 2) := by decide +kernel
theorem dX11_line_28 : decode cX11_line 28 = .ok (.ireturn, 1) := by decide +kernel
theorem dX11_line_29 : decode cX11_line 29 = .ok (.aload_n 0, 1) := by decide +kernel
theorem dX11_line_30 : decode cX11_line 30 = .ok (.getfield 37, 3) := by decide +kernel
theorem dX11_line_33 : decode cX11_line 33 = .ok (.getfield 119, 3) := by decide +kernel
theorem dX11_line_36 : decode cX11_line 36 = .ok (.bipush 8, 2) := by decide +kernel
theorem dX11_line_38 : decode cX11_line 38 = .ok (.if_icmp .lt 6, 3) := by decide +kernel
theorem dX11_line_41 : decode cX11_line 41 = .ok (.bipush (-13), 2) := by decide +kernel
theorem dX11_line_43 : decode cX11_line 43 = .ok (.ireturn, 1) := by decide +kernel
theorem dX11_line_44 : decode cX11_line 44 = .ok (.aload_n 0, 1) := by decide +kernel
theorem dX11_line_45 : decode cX11_line 45 = .ok (.getfield 37, 3) := by decide +kernel
theorem dX11_line_48 : decode cX11_line 48 = .ok (.iload_n 1, 1) := by decide +kernel
theorem dX11_line_49 : decode cX11_line 49 = .ok (.lload_n 2, 1) := by decide +kernel
theorem dX11_line_50 : decode cX11_line 50 = .ok (.invokevirtual 123, 3) := by decide +kernel
theorem dX11_line_53 : decode cX11_line 53 = .ok (.aload_n 0, 1) := by decide +kernel
theorem dX11_line_54 : decode cX11_line 54 = .ok (.getfield 37, 3) := by decide +kernel
theorem dX11_line_57 : decode cX11_line 57 = .ok (.getfield 119, 3) := by decide +kernel
theorem dX11_line_60 : decode cX11_line 60 = .ok (.ireturn, 1) := by decide +kernel
theorem dX11_drop_0 : decode cX11_drop 0 = .ok (.aload_n 0, 1) := by decide +kernel
theorem dX11_drop_1 : decode cX11_drop 1 = .ok (.getfield 64, 3) := by decide +kernel
theorem dX11_drop_4 : decode cX11_drop 4 = .ok (.ifCond .ne 6, 3) := by decide +kernel
theorem dX11_drop_7 : decode cX11_drop 7 = .ok (.bipush (-6), 2) := by decide +kernel
theorem dX11_drop_9 : decode cX11_drop 9 = .ok (.ireturn, 1) := by decide +kernel
theorem dX11_drop_10 : decode cX11_drop 10 = .ok (.aload_n 0, 1) := by decide +kernel
theorem dX11_drop_11 : decode cX11_drop 11 = .ok (.getfield 37, 3) := by decide +kernel
theorem dX11_drop_14 : decode cX11_drop 14 = .ok (.getfield 119, 3) := by decide +kernel
theorem dX11_drop_17 : decode cX11_drop 17 = .ok (.istore_n 1, 1) := by decide +kernel
theorem dX11_drop_18 : decode cX11_drop 18 = .ok (.aload_n 0, 1) := by decide +kernel
theorem dX11_drop_19 : decode cX11_drop 19 = .ok (.getfield 37, 3) := by decide +kernel
theorem dX11_drop_22 : decode cX11_drop 22 = .ok (.invokevirtual 126, 3) := by decide +kernel
theorem dX11_drop_25 : decode cX11_drop 25 = .ok (.iload_n 1, 1) := by decide +kernel
theorem dX11_drop_26 : decode cX11_drop 26 = .ok (.ireturn, 1) := by decide +kernel
theorem dX11_post_0 : decode cX11_post 0 = .ok (.aload_n 0, 1) := by decide +kernel
theorem dX11_post_1 : decode cX11_post 1 = .ok (.getfield 64, 3) := by decide +kernel
theorem dX11_post_4 : decode cX11_post 4 = .ok (.ifCond .eq 16, 3) := by decide +kernel
theorem dX11_post_7 : decode cX11_post 7 = .ok (.aload_n 0, 1) := by decide +kernel
theorem dX11_post_8 : decode cX11_post 8 = .ok (.aload_n 0, 1) := by decide +kernel
theorem dX11_post_9 : decode cX11_post 9 = .ok (.getfield 37, 3) := by decide +kernel
theorem dX11_post_12 : decode cX11_post 12 = .ok (.iload_n 1, 1) := by decide +kernel
theorem dX11_post_13 : decode cX11_post 13 = .ok (.iload_n 2, 1) := by decide +kernel
theorem dX11_post_14 : decode cX11_post 14 = .ok (.invokevirtual 129, 3) := by decide +kernel
theorem dX11_post_17 : decode cX11_post 17 = .ok (.goto 5, 3) := by decide +kernel
theorem dX11_post_20 : decode cX11_post 20 = .ok (.bipush (-6), 2) := by decide +kernel
theorem dX11_post_22 : decode cX11_post 22 = .ok (.ireturn, 1) := by decide +kernel
theorem dX11_back_0 : decode cX11_back 0 = .ok (.aload_n 0, 1) := by decide +kernel
theorem dX11_back_1 : decode cX11_back 1 = .ok (.getfield 64, 3) := by decide +kernel
theorem dX11_back_4 : decode cX11_back 4 = .ok (.ifCond .ne 6, 3) := by decide +kernel
theorem dX11_back_7 : decode cX11_back 7 = .ok (.bipush (-6), 2) := by decide +kernel
theorem dX11_back_9 : decode cX11_back 9 = .ok (.ireturn, 1) := by decide +kernel
theorem dX11_back_10 : decode cX11_back 10 = .ok (.aload_n 0, 1) := by decide +kernel
theorem dX11_back_11 : decode cX11_back 11 = .ok (.getfield 10, 3) := by decide +kernel
theorem dX11_back_14 : decode cX11_back 14 = .ok (.iload_n 1, 1) := by decide +kernel
theorem dX11_back_15 : decode cX11_back 15 = .ok (.iload_n 2, 1) := by decide +kernel
theorem dX11_back_16 : decode cX11_back 16 = .ok (.aload_n 0, 1) := by decide +kernel
theorem dX11_back_17 : decode cX11_back 17 = .ok (.getfield 41, 3) := by decide +kernel
theorem dX11_back_20 : decode cX11_back 20 = .ok (.invokevirtual 133, 3) := by decide +kernel
theorem dX11_back_23 : decode cX11_back 23 = .ok (.istore_n 3, 1) := by decide +kernel
theorem dX11_back_24 : decode cX11_back 24 = .ok (.iload_n 3, 1) := by decide +kernel
theorem dX11_back_25 : decode cX11_back 25 = .ok (.ifCond .eq 5, 3) := by decide +kernel
theorem dX11_back_28 : decode cX11_back 28 = .ok (.iload_n 3, 1) := by decide +kernel
theorem dX11_back_29 : decode cX11_back 29 = .ok (.ireturn, 1) := by decide +kernel
theorem dX11_back_30 : decode cX11_back 30 = .ok (.aload_n 0, 1) := by decide +kernel
theorem dX11_back_31 : decode cX11_back 31 = .ok (.getfield 19, 3) := by decide +kernel
theorem dX11_back_34 : decode cX11_back 34 = .ok (.bipush 6, 2) := by decide +kernel
theorem dX11_back_36 : decode cX11_back 36 = .ok (.invokevirtual 72, 3) := by decide +kernel
theorem dX11_back_39 : decode cX11_back 39 = .ok (.aload_n 0, 1) := by decide +kernel
theorem dX11_back_40 : decode cX11_back 40 = .ok (.getfield 19, 3) := by decide +kernel
theorem dX11_back_43 : decode cX11_back 43 = .ok (.iload_n 1, 1) := by decide +kernel
theorem dX11_back_44 : decode cX11_back 44 = .ok (.i2l, 1) := by decide +kernel
theorem dX11_back_45 : decode cX11_back 45 = .ok (.invokevirtual 75, 3) := by decide +kernel
theorem dX11_back_48 : decode cX11_back 48 = .ok (.aload_n 0, 1) := by decide +kernel
theorem dX11_back_49 : decode cX11_back 49 = .ok (.getfield 19, 3) := by decide +kernel
theorem dX11_back_52 : decode cX11_back 52 = .ok (.iload_n 2, 1) := by decide +kernel
theorem dX11_back_53 : decode cX11_back 53 = .ok (.i2l, 1) := by decide +kernel
theorem dX11_back_54 : decode cX11_back 54 = .ok (.invokevirtual 75, 3) := by decide +kernel
theorem dX11_back_57 : decode cX11_back 57 = .ok (.aload_n 0, 1) := by decide +kernel
theorem dX11_back_58 : decode cX11_back 58 = .ok (.getfield 19, 3) := by decide +kernel
theorem dX11_back_61 : decode cX11_back 61 = .ok (.invokevirtual 79, 3) := by decide +kernel
theorem dX11_back_64 : decode cX11_back 64 = .ok (.ifCond .eq 19, 3) := by decide +kernel
theorem dX11_back_67 : decode cX11_back 67 = .ok (.aload_n 0, 1) := by decide +kernel
theorem dX11_back_68 : decode cX11_back 68 = .ok (.getfield 10, 3) := by decide +kernel
theorem dX11_back_71 : decode cX11_back 71 = .ok (.iload_n 1, 1) := by decide +kernel
theorem dX11_back_72 : decode cX11_back 72 = .ok (.iload_n 2, 1) := by decide +kernel
theorem dX11_back_73 : decode cX11_back 73 = .ok (.aload_n 0, 1) := by decide +kernel
theorem dX11_back_74 : decode cX11_back 74 = .ok (.getfield 41, 3) := by decide +kernel
theorem dX11_back_77 : decode cX11_back 77 = .ok (.invokevirtual 137, 3) := by decide +kernel
theorem dX11_back_80 : decode cX11_back 80 = .ok (.goto 5, 3) := by decide +kernel
theorem dX11_back_83 : decode cX11_back 83 = .ok (.bipush (-13), 2) := by decide +kernel
theorem dX11_back_85 : decode cX11_back 85 = .ok (.ireturn, 1) := by decide +kernel
theorem dX11_close_0 : decode cX11_close 0 = .ok (.aload_n 0, 1) := by decide +kernel
theorem dX11_close_1 : decode cX11_close 1 = .ok (.getfield 64, 3) := by decide +kernel
theorem dX11_close_4 : decode cX11_close 4 = .ok (.ifCond .ne 6, 3) := by decide +kernel
theorem dX11_close_7 : decode cX11_close 7 = .ok (.bipush (-6), 2) := by decide +kernel
theorem dX11_close_9 : decode cX11_close 9 = .ok (.ireturn, 1) := by decide +kernel
theorem dX11_close_10 : decode cX11_close 10 = .ok (.aload_n 0, 1) := by decide +kernel
theorem dX11_close_11 : decode cX11_close 11 = .ok (.getfield 10, 3) := by decide +kernel
theorem dX11_close_14 : decode cX11_close 14 = .ok (.aload_n 0, 1) := by decide +kernel
theorem dX11_close_15 : decode cX11_close 15 = .ok (.getfield 41, 3) := by decide +kernel
theorem dX11_close_18 : decode cX11_close 18 = .ok (.invokevirtual 140, 3) := by decide +kernel
theorem dX11_close_21 : decode cX11_close 21 = .ok (.istore_n 1, 1) := by decide +kernel
theorem dX11_close_22 : decode cX11_close 22 = .ok (.iload_n 1, 1) := by decide +kernel
theorem dX11_close_23 : decode cX11_close 23 = .ok (.ifCond .eq 5, 3) := by decide +kernel
theorem dX11_close_26 : decode cX11_close 26 = .ok (.iload_n 1, 1) := by decide +kernel
theorem dX11_close_27 : decode cX11_close 27 = .ok (.ireturn, 1) := by decide +kernel
theorem dX11_close_28 : decode cX11_close 28 = .ok (.aload_n 0, 1) := by decide +kernel
theorem dX11_close_29 : decode cX11_close 29 = .ok (.getfield 19, 3) := by decide +kernel
theorem dX11_close_32 : decode cX11_close 32 = .ok (.bipush 7, 2) := by decide +kernel
theorem dX11_close_34 : decode cX11_close 34 = .ok (.invokevirtual 72, 3) := by decide +kernel
theorem dX11_close_37 : decode cX11_close 37 = .ok (.aload_n 0, 1) := by decide +kernel
theorem dX11_close_38 : decode cX11_close 38 = .ok (.getfield 19, 3) := by decide +kernel
theorem dX11_close_41 : decode cX11_close 41 = .ok (.invokevirtual 79, 3) := by decide +kernel
theorem dX11_close_44 : decode cX11_close 44 = .ok (.ifCond .eq 17, 3) := by decide +kernel
theorem dX11_close_47 : decode cX11_close 47 = .ok (.aload_n 0, 1) := by decide +kernel
theorem dX11_close_48 : decode cX11_close 48 = .ok (.getfield 10, 3) := by decide +kernel
theorem dX11_close_51 : decode cX11_close 51 = .ok (.aload_n 0, 1) := by decide +kernel
theorem dX11_close_52 : decode cX11_close 52 = .ok (.getfield 41, 3) := by decide +kernel
theorem dX11_close_55 : decode cX11_close 55 = .ok (.invokevirtual 144, 3) := by decide +kernel
theorem dX11_close_58 : decode cX11_close 58 = .ok (.goto 5, 3) := by decide +kernel
theorem dX11_close_61 : decode cX11_close 61 = .ok (.bipush (-13), 2) := by decide +kernel
theorem dX11_close_63 : decode cX11_close 63 = .ok (.ireturn, 1) := by decide +kernel
theorem dX11_reopen_0 : decode cX11_reopen 0 = .ok (.aload_n 0, 1) := by decide +kernel
theorem dX11_reopen_1 : decode cX11_reopen 1 = .ok (.getfield 64, 3) := by decide +kernel
theorem dX11_reopen_4 : decode cX11_reopen 4 = .ok (.ifCond .ne 6, 3) := by decide +kernel
theorem dX11_reopen_7 : decode cX11_reopen 7 = .ok (.bipush (-6), 2) := by decide +kernel
theorem dX11_reopen_9 : decode cX11_reopen 9 = .ok (.ireturn, 1) := by decide +kernel
theorem dX11_reopen_10 : decode cX11_reopen 10 = .ok (.aload_n 0, 1) := by decide +kernel
theorem dX11_reopen_11 : decode cX11_reopen 11 = .ok (.getfield 10, 3) := by decide +kernel
theorem dX11_reopen_14 : decode cX11_reopen 14 = .ok (.aload_n 0, 1) := by decide +kernel
theorem dX11_reopen_15 : decode cX11_reopen 15 = .ok (.getfield 41, 3) := by decide +kernel
theorem dX11_reopen_18 : decode cX11_reopen 18 = .ok (.invokevirtual 147, 3) := by decide +kernel
theorem dX11_reopen_21 : decode cX11_reopen 21 = .ok (.istore_n 1, 1) := by decide +kernel
theorem dX11_reopen_22 : decode cX11_reopen 22 = .ok (.iload_n 1, 1) := by decide +kernel
theorem dX11_reopen_23 : decode cX11_reopen 23 = .ok (.ifCond .eq 5, 3) := by decide +kernel
theorem dX11_reopen_26 : decode cX11_reopen 26 = .ok (.iload_n 1, 1) := by decide +kernel
theorem dX11_reopen_27 : decode cX11_reopen 27 = .ok (.ireturn, 1) := by decide +kernel
theorem dX11_reopen_28 : decode cX11_reopen 28 = .ok (.aload_n 0, 1) := by decide +kernel
theorem dX11_reopen_29 : decode cX11_reopen 29 = .ok (.getfield 19, 3) := by decide +kernel
theorem dX11_reopen_32 : decode cX11_reopen 32 = .ok (.bipush 8, 2) := by decide +kernel
theorem dX11_reopen_34 : decode cX11_reopen 34 = .ok (.invokevirtual 72, 3) := by decide +kernel
theorem dX11_reopen_37 : decode cX11_reopen 37 = .ok (.aload_n 0, 1) := by decide +kernel
theorem dX11_reopen_38 : decode cX11_reopen 38 = .ok (.getfield 19, 3) := by decide +kernel
theorem dX11_reopen_41 : decode cX11_reopen 41 = .ok (.invokevirtual 79, 3) := by decide +kernel
theorem dX11_reopen_44 : decode cX11_reopen 44 = .ok (.ifCond .eq 17, 3) := by decide +kernel
theorem dX11_reopen_47 : decode cX11_reopen 47 = .ok (.aload_n 0, 1) := by decide +kernel
theorem dX11_reopen_48 : decode cX11_reopen 48 = .ok (.getfield 10, 3) := by decide +kernel
theorem dX11_reopen_51 : decode cX11_reopen 51 = .ok (.aload_n 0, 1) := by decide +kernel
theorem dX11_reopen_52 : decode cX11_reopen 52 = .ok (.getfield 41, 3) := by decide +kernel
theorem dX11_reopen_55 : decode cX11_reopen 55 = .ok (.invokevirtual 150, 3) := by decide +kernel
theorem dX11_reopen_58 : decode cX11_reopen 58 = .ok (.goto 5, 3) := by decide +kernel
theorem dX11_reopen_61 : decode cX11_reopen 61 = .ok (.bipush (-13), 2) := by decide +kernel
theorem dX11_reopen_63 : decode cX11_reopen 63 = .ok (.ireturn, 1) := by decide +kernel
theorem dX11_share_0 : decode cX11_share 0 = .ok (.aload_n 0, 1) := by decide +kernel
theorem dX11_share_1 : decode cX11_share 1 = .ok (.getfield 64, 3) := by decide +kernel
theorem dX11_share_4 : decode cX11_share 4 = .ok (.ifCond .ne 6, 3) := by decide +kernel
theorem dX11_share_7 : decode cX11_share 7 = .ok (.bipush (-6), 2) := by decide +kernel
theorem dX11_share_9 : decode cX11_share 9 = .ok (.ireturn, 1) := by decide +kernel
theorem dX11_share_10 : decode cX11_share 10 = .ok (.aload_n 0, 1) := by decide +kernel
theorem dX11_share_11 : decode cX11_share 11 = .ok (.iload_n 1, 1) := by decide +kernel
theorem dX11_share_12 : decode cX11_share 12 = .ok (.lload_n 2, 1) := by decide +kernel
theorem dX11_share_13 : decode cX11_share 13 = .ok (.invokevirtual 153, 3) := by decide +kernel
theorem dX11_share_16 : decode cX11_share 16 = .ok (.istore 6, 2) := by decide +kernel
theorem dX11_share_18 : decode cX11_share 18 = .ok (.iload 6, 2) := by decide +kernel
theorem dX11_share_20 : decode cX11_share 20 = .ok (.ifCond .eq 6, 3) := by decide +kernel
theorem dX11_share_23 : decode cX11_share 23 = .ok (.iload 6, 2) := by decide +kernel
theorem dX11_share_25 : decode cX11_share 25 = .ok (.ireturn, 1) := by decide +kernel
theorem dX11_share_26 : decode cX11_share 26 = .ok (.aload_n 0, 1) := by decide +kernel
theorem dX11_share_27 : decode cX11_share 27 = .ok (.iload_n 1, 1) := by decide +kernel
theorem dX11_share_28 : decode cX11_share 28 = .ok (.lload_n 2, 1) := by decide +kernel
theorem dX11_share_29 : decode cX11_share 29 = .ok (.invokevirtual 156, 3) := by decide +kernel
theorem dX11_share_32 : decode cX11_share 32 = .ok (.aload_n 0, 1) := by decide +kernel
theorem dX11_share_33 : decode cX11_share 33 = .ok (.aload_n 0, 1) := by decide +kernel
theorem dX11_share_34 : decode cX11_share 34 = .ok (.getfield 41, 3) := by decide +kernel
theorem dX11_share_37 : decode cX11_share 37 = .ok (.iload 4, 2) := by decide +kernel
theorem dX11_share_39 : decode cX11_share 39 = .ok (.iload 5, 2) := by decide +kernel
theorem dX11_share_41 : decode cX11_share 41 = .ok (.invokevirtual 129, 3) := by decide +kernel
theorem dX11_share_44 : decode cX11_share 44 = .ok (.ireturn, 1) := by decide +kernel
theorem dX11_sync_0 : decode cX11_sync 0 = .ok (.aload_n 0, 1) := by decide +kernel
theorem dX11_sync_1 : decode cX11_sync 1 = .ok (.getfield 64, 3) := by decide +kernel
theorem dX11_sync_4 : decode cX11_sync 4 = .ok (.ifCond .eq 13, 3) := by decide +kernel
theorem dX11_sync_7 : decode cX11_sync 7 = .ok (.aload_n 0, 1) := by decide +kernel
theorem dX11_sync_8 : decode cX11_sync 8 = .ok (.getfield 19, 3) := by decide +kernel
theorem dX11_sync_11 : decode cX11_sync 11 = .ok (.invokevirtual 159, 3) := by decide +kernel
theorem dX11_sync_14 : decode cX11_sync 14 = .ok (.goto 5, 3) := by decide +kernel
theorem dX11_sync_17 : decode cX11_sync 17 = .ok (.bipush (-6), 2) := by decide +kernel
theorem dX11_sync_19 : decode cX11_sync 19 = .ok (.ireturn, 1) := by decide +kernel
theorem dX11_crash_0 : decode cX11_crash 0 = .ok (.iload_n 1, 1) := by decide +kernel
theorem dX11_crash_1 : decode cX11_crash 1 = .ok (.ifCond .lt 14, 3) := by decide +kernel
theorem dX11_crash_4 : decode cX11_crash 4 = .ok (.iload_n 2, 1) := by decide +kernel
theorem dX11_crash_5 : decode cX11_crash 5 = .ok (.ifCond .lt 10, 3) := by decide +kernel
theorem dX11_crash_8 : decode cX11_crash 8 = .ok (.iload_n 2, 1) := by decide +kernel
theorem dX11_crash_9 : decode cX11_crash 9 = .ok (.sipush 255, 3) := by decide +kernel
theorem dX11_crash_12 : decode cX11_crash 12 = .ok (.if_icmp .le 6, 3) := by decide +kernel
theorem dX11_crash_15 : decode cX11_crash 15 = .ok (.bipush (-3), 2) := by decide +kernel
theorem dX11_crash_17 : decode cX11_crash 17 = .ok (.ireturn, 1) := by decide +kernel
theorem dX11_crash_18 : decode cX11_crash 18 = .ok (.aload_n 0, 1) := by decide +kernel
theorem dX11_crash_19 : decode cX11_crash 19 = .ok (.getfield 19, 3) := by decide +kernel
theorem dX11_crash_22 : decode cX11_crash 22 = .ok (.iload_n 1, 1) := by decide +kernel
theorem dX11_crash_23 : decode cX11_crash 23 = .ok (.iload_n 2, 1) := by decide +kernel
theorem dX11_crash_24 : decode cX11_crash 24 = .ok (.invokevirtual 163, 3) := by decide +kernel
theorem dX11_crash_27 : decode cX11_crash 27 = .ok (.aload_n 0, 1) := by decide +kernel
theorem dX11_crash_28 : decode cX11_crash 28 = .ok (.getfield 37, 3) := by decide +kernel
theorem dX11_crash_31 : decode cX11_crash 31 = .ok (.invokevirtual 126, 3) := by decide +kernel
theorem dX11_crash_34 : decode cX11_crash 34 = .ok (.aload_n 0, 1) := by decide +kernel
theorem dX11_crash_35 : decode cX11_crash 35 = .ok (.getfield 60, 3) := by decide +kernel
theorem dX11_crash_38 : decode cX11_crash 38 = .ok (.invokevirtual 167, 3) := by decide +kernel
theorem dX11_crash_41 : decode cX11_crash 41 = .ok (.aload_n 0, 1) := by decide +kernel
theorem dX11_crash_42 : decode cX11_crash 42 = .ok (.iconst 0, 1) := by decide +kernel
theorem dX11_crash_43 : decode cX11_crash 43 = .ok (.putfield 64, 3) := by decide +kernel
theorem dX11_crash_46 : decode cX11_crash 46 = .ok (.aload_n 0, 1) := by decide +kernel
theorem dX11_crash_47 : decode cX11_crash 47 = .ok (.getfield 19, 3) := by decide +kernel
theorem dX11_crash_50 : decode cX11_crash 50 = .ok (.getfield 168, 3) := by decide +kernel
theorem dX11_crash_53 : decode cX11_crash 53 = .ok (.ireturn, 1) := by decide +kernel
theorem dX11_recover_0 : decode cX11_recover 0 = .ok (.aload_n 0, 1) := by decide +kernel
theorem dX11_recover_1 : decode cX11_recover 1 = .ok (.getfield 64, 3) := by decide +kernel
theorem dX11_recover_4 : decode cX11_recover 4 = .ok (.ifCond .eq 6, 3) := by decide +kernel
theorem dX11_recover_7 : decode cX11_recover 7 = .ok (.bipush (-6), 2) := by decide +kernel
theorem dX11_recover_9 : decode cX11_recover 9 = .ok (.ireturn, 1) := by decide +kernel
theorem dX11_recover_10 : decode cX11_recover 10 = .ok (.aload_n 0, 1) := by decide +kernel
theorem dX11_recover_11 : decode cX11_recover 11 = .ok (.getfield 28, 3) := by decide +kernel
theorem dX11_recover_14 : decode cX11_recover 14 = .ok (.invokevirtual 169, 3) := by decide +kernel
theorem dX11_recover_17 : decode cX11_recover 17 = .ok (.aload_n 0, 1) := by decide +kernel
theorem dX11_recover_18 : decode cX11_recover 18 = .ok (.iconst 1, 1) := by decide +kernel
theorem dX11_recover_19 : decode cX11_recover 19 = .ok (.putfield 64, 3) := by decide +kernel
theorem dX11_recover_22 : decode cX11_recover 22 = .ok (.aload_n 0, 1) := by decide +kernel
theorem dX11_recover_23 : decode cX11_recover 23 = .ok (.getfield 19, 3) := by decide +kernel
theorem dX11_recover_26 : decode cX11_recover 26 = .ok (.getfield 172, 3) := by decide +kernel
theorem dX11_recover_29 : decode cX11_recover 29 = .ok (.ireturn, 1) := by decide +kernel
theorem dX11_byteAt_0 : decode cX11_byteAt 0 = .ok (.iload_n 1, 1) := by decide +kernel
theorem dX11_byteAt_1 : decode cX11_byteAt 1 = .ok (.ifCond .lt 28, 3) := by decide +kernel
theorem dX11_byteAt_4 : decode cX11_byteAt 4 = .ok (.iload_n 1, 1) := by decide +kernel
theorem dX11_byteAt_5 : decode cX11_byteAt 5 = .ok (.aload_n 0, 1) := by decide +kernel
theorem dX11_byteAt_6 : decode cX11_byteAt 6 = .ok (.getfield 19, 3) := by decide +kernel
theorem dX11_byteAt_9 : decode cX11_byteAt 9 = .ok (.getfield 168, 3) := by decide +kernel
theorem dX11_byteAt_12 : decode cX11_byteAt 12 = .ok (.if_icmp .ge 17, 3) := by decide +kernel
theorem dX11_byteAt_15 : decode cX11_byteAt 15 = .ok (.aload_n 0, 1) := by decide +kernel
theorem dX11_byteAt_16 : decode cX11_byteAt 16 = .ok (.getfield 19, 3) := by decide +kernel
theorem dX11_byteAt_19 : decode cX11_byteAt 19 = .ok (.getfield 175, 3) := by decide +kernel
theorem dX11_byteAt_22 : decode cX11_byteAt 22 = .ok (.iload_n 1, 1) := by decide +kernel
theorem dX11_byteAt_23 : decode cX11_byteAt 23 = .ok (.invokevirtual 179, 3) := by decide +kernel
theorem dX11_byteAt_26 : decode cX11_byteAt 26 = .ok (.goto 5, 3) := by decide +kernel
theorem dX11_byteAt_29 : decode cX11_byteAt 29 = .ok (.bipush (-2), 2) := by decide +kernel
theorem dX11_byteAt_31 : decode cX11_byteAt 31 = .ok (.ireturn, 1) := by decide +kernel
theorem dX11_of_0 : decode cX11_of 0 = .ok (.aload_n 0, 1) := by decide +kernel
theorem dX11_of_1 : decode cX11_of 1 = .ok (.getfield 64, 3) := by decide +kernel
theorem dX11_of_4 : decode cX11_of 4 = .ok (.ifCond .ne 6, 3) := by decide +kernel
theorem dX11_of_7 : decode cX11_of 7 = .ok (.bipush (-6), 2) := by decide +kernel
theorem dX11_of_9 : decode cX11_of 9 = .ok (.ireturn, 1) := by decide +kernel
theorem dX11_of_10 : decode cX11_of 10 = .ok (.aload_n 0, 1) := by decide +kernel
theorem dX11_of_11 : decode cX11_of 11 = .ok (.getfield 10, 3) := by decide +kernel
theorem dX11_of_14 : decode cX11_of 14 = .ok (.getfield 53, 3) := by decide +kernel
theorem dX11_of_17 : decode cX11_of 17 = .ok (.iload_n 1, 1) := by decide +kernel
theorem dX11_of_18 : decode cX11_of 18 = .ok (.invokevirtual 184, 3) := by decide +kernel
theorem dX11_of_21 : decode cX11_of 21 = .ok (.ifCond .eq 18, 3) := by decide +kernel
theorem dX11_of_24 : decode cX11_of 24 = .ok (.aload_n 0, 1) := by decide +kernel
theorem dX11_of_25 : decode cX11_of 25 = .ok (.getfield 10, 3) := by decide +kernel
theorem dX11_of_28 : decode cX11_of 28 = .ok (.getfield 53, 3) := by decide +kernel
theorem dX11_of_31 : decode cX11_of 31 = .ok (.iload_n 1, 1) := by decide +kernel
theorem dX11_of_32 : decode cX11_of 32 = .ok (.iload_n 2, 1) := by decide +kernel
theorem dX11_of_33 : decode cX11_of 33 = .ok (.invokevirtual 188, 3) := by decide +kernel
theorem dX11_of_36 : decode cX11_of 36 = .ok (.goto 5, 3) := by decide +kernel
theorem dX11_of_39 : decode cX11_of 39 = .ok (.bipush (-2), 2) := by decide +kernel
theorem dX11_of_41 : decode cX11_of 41 = .ok (.ireturn, 1) := by decide +kernel
theorem dX11_balance_0 : decode cX11_balance 0 = .ok (.aload_n 0, 1) := by decide +kernel
theorem dX11_balance_1 : decode cX11_balance 1 = .ok (.getfield 64, 3) := by decide +kernel
theorem dX11_balance_4 : decode cX11_balance 4 = .ok (.ifCond .eq 17, 3) := by decide +kernel
theorem dX11_balance_7 : decode cX11_balance 7 = .ok (.aload_n 0, 1) := by decide +kernel
theorem dX11_balance_8 : decode cX11_balance 8 = .ok (.getfield 10, 3) := by decide +kernel
theorem dX11_balance_11 : decode cX11_balance 11 = .ok (.getfield 53, 3) := by decide +kernel
theorem dX11_balance_14 : decode cX11_balance 14 = .ok (.iload_n 1, 1) := by decide +kernel
theorem dX11_balance_15 : decode cX11_balance 15 = .ok (.invokevirtual 184, 3) := by decide +kernel
theorem dX11_balance_18 : decode cX11_balance 18 = .ok (.ifCond .ne 7, 3) := by decide +kernel
theorem dX11_balance_21 : decode cX11_balance 21 = .ok (.ldc2_w 192, 3) := by decide +kernel
theorem dX11_balance_24 : decode cX11_balance 24 = .ok (.lreturn, 1) := by decide +kernel
theorem dX11_balance_25 : decode cX11_balance 25 = .ok (.aload_n 0, 1) := by decide +kernel
theorem dX11_balance_26 : decode cX11_balance 26 = .ok (.getfield 10, 3) := by decide +kernel
theorem dX11_balance_29 : decode cX11_balance 29 = .ok (.getfield 53, 3) := by decide +kernel
theorem dX11_balance_32 : decode cX11_balance 32 = .ok (.iload_n 1, 1) := by decide +kernel
theorem dX11_balance_33 : decode cX11_balance 33 = .ok (.aload_n 0, 1) := by decide +kernel
theorem dX11_balance_34 : decode cX11_balance 34 = .ok (.getfield 10, 3) := by decide +kernel
theorem dX11_balance_37 : decode cX11_balance 37 = .ok (.getfield 53, 3) := by decide +kernel
theorem dX11_balance_40 : decode cX11_balance 40 = .ok (.getfield 194, 3) := by decide +kernel
theorem dX11_balance_43 : decode cX11_balance 43 = .ok (.invokevirtual 198, 3) := by decide +kernel
theorem dX11_balance_46 : decode cX11_balance 46 = .ok (.lreturn, 1) := by decide +kernel
theorem dX11_sum_0 : decode cX11_sum 0 = .ok (.aload_n 0, 1) := by decide +kernel
theorem dX11_sum_1 : decode cX11_sum 1 = .ok (.getfield 64, 3) := by decide +kernel
theorem dX11_sum_4 : decode cX11_sum 4 = .ok (.ifCond .eq 17, 3) := by decide +kernel
theorem dX11_sum_7 : decode cX11_sum 7 = .ok (.aload_n 0, 1) := by decide +kernel
theorem dX11_sum_8 : decode cX11_sum 8 = .ok (.getfield 10, 3) := by decide +kernel
theorem dX11_sum_11 : decode cX11_sum 11 = .ok (.getfield 53, 3) := by decide +kernel
theorem dX11_sum_14 : decode cX11_sum 14 = .ok (.iload_n 1, 1) := by decide +kernel
theorem dX11_sum_15 : decode cX11_sum 15 = .ok (.invokevirtual 184, 3) := by decide +kernel
theorem dX11_sum_18 : decode cX11_sum 18 = .ok (.ifCond .ne 7, 3) := by decide +kernel
theorem dX11_sum_21 : decode cX11_sum 21 = .ok (.ldc2_w 192, 3) := by decide +kernel
theorem dX11_sum_24 : decode cX11_sum 24 = .ok (.lreturn, 1) := by decide +kernel
theorem dX11_sum_25 : decode cX11_sum 25 = .ok (.aload_n 0, 1) := by decide +kernel
theorem dX11_sum_26 : decode cX11_sum 26 = .ok (.getfield 10, 3) := by decide +kernel
theorem dX11_sum_29 : decode cX11_sum 29 = .ok (.iload_n 1, 1) := by decide +kernel
theorem dX11_sum_30 : decode cX11_sum 30 = .ok (.iload_n 2, 1) := by decide +kernel
theorem dX11_sum_31 : decode cX11_sum 31 = .ok (.iload_n 3, 1) := by decide +kernel
theorem dX11_sum_32 : decode cX11_sum 32 = .ok (.invokevirtual 202, 3) := by decide +kernel
theorem dX11_sum_35 : decode cX11_sum 35 = .ok (.lreturn, 1) := by decide +kernel
theorem dX11_entry_0 : decode cX11_entry 0 = .ok (.aload_n 0, 1) := by decide +kernel
theorem dX11_entry_1 : decode cX11_entry 1 = .ok (.getfield 64, 3) := by decide +kernel
theorem dX11_entry_4 : decode cX11_entry 4 = .ok (.ifCond .ne 6, 3) := by decide +kernel
theorem dX11_entry_7 : decode cX11_entry 7 = .ok (.bipush (-6), 2) := by decide +kernel
theorem dX11_entry_9 : decode cX11_entry 9 = .ok (.ireturn, 1) := by decide +kernel
theorem dX11_entry_10 : decode cX11_entry 10 = .ok (.aload_n 0, 1) := by decide +kernel
theorem dX11_entry_11 : decode cX11_entry 11 = .ok (.getfield 10, 3) := by decide +kernel
theorem dX11_entry_14 : decode cX11_entry 14 = .ok (.getfield 206, 3) := by decide +kernel
theorem dX11_entry_17 : decode cX11_entry 17 = .ok (.iload_n 1, 1) := by decide +kernel
theorem dX11_entry_18 : decode cX11_entry 18 = .ok (.invokevirtual 210, 3) := by decide +kernel
theorem dX11_entry_21 : decode cX11_entry 21 = .ok (.ifCond .eq 18, 3) := by decide +kernel
theorem dX11_entry_24 : decode cX11_entry 24 = .ok (.aload_n 0, 1) := by decide +kernel
theorem dX11_entry_25 : decode cX11_entry 25 = .ok (.getfield 10, 3) := by decide +kernel
theorem dX11_entry_28 : decode cX11_entry 28 = .ok (.getfield 206, 3) := by decide +kernel
theorem dX11_entry_31 : decode cX11_entry 31 = .ok (.iload_n 1, 1) := by decide +kernel
theorem dX11_entry_32 : decode cX11_entry 32 = .ok (.iload_n 2, 1) := by decide +kernel
theorem dX11_entry_33 : decode cX11_entry 33 = .ok (.invokevirtual 213, 3) := by decide +kernel
theorem dX11_entry_36 : decode cX11_entry 36 = .ok (.goto 5, 3) := by decide +kernel
theorem dX11_entry_39 : decode cX11_entry 39 = .ok (.bipush (-2), 2) := by decide +kernel
theorem dX11_entry_41 : decode cX11_entry 41 = .ok (.ireturn, 1) := by decide +kernel
theorem dX11_lineOf_0 : decode cX11_lineOf 0 = .ok (.aload_n 0, 1) := by decide +kernel
theorem dX11_lineOf_1 : decode cX11_lineOf 1 = .ok (.getfield 64, 3) := by decide +kernel
theorem dX11_lineOf_4 : decode cX11_lineOf 4 = .ok (.ifCond .eq 39, 3) := by decide +kernel
theorem dX11_lineOf_7 : decode cX11_lineOf 7 = .ok (.aload_n 0, 1) := by decide +kernel
theorem dX11_lineOf_8 : decode cX11_lineOf 8 = .ok (.getfield 10, 3) := by decide +kernel
theorem dX11_lineOf_11 : decode cX11_lineOf 11 = .ok (.getfield 206, 3) := by decide +kernel
theorem dX11_lineOf_14 : decode cX11_lineOf 14 = .ok (.iload_n 1, 1) := by decide +kernel
theorem dX11_lineOf_15 : decode cX11_lineOf 15 = .ok (.invokevirtual 210, 3) := by decide +kernel
theorem dX11_lineOf_18 : decode cX11_lineOf 18 = .ok (.ifCond .eq 25, 3) := by decide +kernel
theorem dX11_lineOf_21 : decode cX11_lineOf 21 = .ok (.iload_n 2, 1) := by decide +kernel
theorem dX11_lineOf_22 : decode cX11_lineOf 22 = .ok (.ifCond .lt 21, 3) := by decide +kernel
theorem dX11_lineOf_25 : decode cX11_lineOf 25 = .ok (.iload_n 2, 1) := by decide +kernel
theorem dX11_lineOf_26 : decode cX11_lineOf 26 = .ok (.aload_n 0, 1) := by decide +kernel
theorem dX11_lineOf_27 : decode cX11_lineOf 27 = .ok (.getfield 10, 3) := by decide +kernel
theorem dX11_lineOf_30 : decode cX11_lineOf 30 = .ok (.getfield 206, 3) := by decide +kernel
theorem dX11_lineOf_33 : decode cX11_lineOf 33 = .ok (.getfield 214, 3) := by decide +kernel
theorem dX11_lineOf_36 : decode cX11_lineOf 36 = .ok (.iload_n 1, 1) := by decide +kernel
theorem dX11_lineOf_37 : decode cX11_lineOf 37 = .ok (.invokevirtual 179, 3) := by decide +kernel
theorem dX11_lineOf_40 : decode cX11_lineOf 40 = .ok (.if_icmp .lt 7, 3) := by decide +kernel
theorem dX11_lineOf_43 : decode cX11_lineOf 43 = .ok (.ldc2_w 192, 3) := by decide +kernel
theorem dX11_lineOf_46 : decode cX11_lineOf 46 = .ok (.lreturn, 1) := by decide +kernel
theorem dX11_lineOf_47 : decode cX11_lineOf 47 = .ok (.iload_n 3, 1) := by decide +kernel
theorem dX11_lineOf_48 : decode cX11_lineOf 48 = .ok (.lookupswitch 55 #[(0, 28), (1, 42)], 28) := by decide +kernel
theorem dX11_lineOf_76 : decode cX11_lineOf 76 = .ok (.aload_n 0, 1) := by decide +kernel
theorem dX11_lineOf_77 : decode cX11_lineOf 77 = .ok (.getfield 10, 3) := by decide +kernel
theorem dX11_lineOf_80 : decode cX11_lineOf 80 = .ok (.getfield 206, 3) := by decide +kernel
theorem dX11_lineOf_83 : decode cX11_lineOf 83 = .ok (.iload_n 1, 1) := by decide +kernel
theorem dX11_lineOf_84 : decode cX11_lineOf 84 = .ok (.iload_n 2, 1) := by decide +kernel
theorem dX11_lineOf_85 : decode cX11_lineOf 85 = .ok (.invokevirtual 217, 3) := by decide +kernel
theorem dX11_lineOf_88 : decode cX11_lineOf 88 = .ok (.i2l, 1) := by decide +kernel
theorem dX11_lineOf_89 : decode cX11_lineOf 89 = .ok (.lreturn, 1) := by decide +kernel
theorem dX11_lineOf_90 : decode cX11_lineOf 90 = .ok (.aload_n 0, 1) := by decide +kernel
theorem dX11_lineOf_91 : decode cX11_lineOf 91 = .ok (.getfield 10, 3) := by decide +kernel
theorem dX11_lineOf_94 : decode cX11_lineOf 94 = .ok (.getfield 206, 3) := by decide +kernel
theorem dX11_lineOf_97 : decode cX11_lineOf 97 = .ok (.iload_n 1, 1) := by decide +kernel
theorem dX11_lineOf_98 : decode cX11_lineOf 98 = .ok (.iload_n 2, 1) := by decide +kernel
theorem dX11_lineOf_99 : decode cX11_lineOf 99 = .ok (.invokevirtual 220, 3) := by decide +kernel
theorem dX11_lineOf_102 : decode cX11_lineOf 102 = .ok (.lreturn, 1) := by decide +kernel
theorem dX11_lineOf_103 : decode cX11_lineOf 103 = .ok (.ldc2_w 192, 3) := by decide +kernel
theorem dX11_lineOf_106 : decode cX11_lineOf 106 = .ok (.lreturn, 1) := by decide +kernel
theorem dX11_ledger_0 : decode cX11_ledger 0 = .ok (.aload_n 0, 1) := by decide +kernel
theorem dX11_ledger_1 : decode cX11_ledger 1 = .ok (.getfield 64, 3) := by decide +kernel
theorem dX11_ledger_4 : decode cX11_ledger 4 = .ok (.ifCond .eq 39, 3) := by decide +kernel
theorem dX11_ledger_7 : decode cX11_ledger 7 = .ok (.aload_n 0, 1) := by decide +kernel
theorem dX11_ledger_8 : decode cX11_ledger 8 = .ok (.getfield 10, 3) := by decide +kernel
theorem dX11_ledger_11 : decode cX11_ledger 11 = .ok (.getfield 53, 3) := by decide +kernel
theorem dX11_ledger_14 : decode cX11_ledger 14 = .ok (.iload_n 1, 1) := by decide +kernel
theorem dX11_ledger_15 : decode cX11_ledger 15 = .ok (.invokevirtual 224, 3) := by decide +kernel
theorem dX11_ledger_18 : decode cX11_ledger 18 = .ok (.ifCond .eq 25, 3) := by decide +kernel
theorem dX11_ledger_21 : decode cX11_ledger 21 = .ok (.iload_n 2, 1) := by decide +kernel
theorem dX11_ledger_22 : decode cX11_ledger 22 = .ok (.ifCond .lt 21, 3) := by decide +kernel
theorem dX11_ledger_25 : decode cX11_ledger 25 = .ok (.iload_n 2, 1) := by decide +kernel
theorem dX11_ledger_26 : decode cX11_ledger 26 = .ok (.aload_n 0, 1) := by decide +kernel
theorem dX11_ledger_27 : decode cX11_ledger 27 = .ok (.getfield 10, 3) := by decide +kernel
theorem dX11_ledger_30 : decode cX11_ledger 30 = .ok (.getfield 53, 3) := by decide +kernel
theorem dX11_ledger_33 : decode cX11_ledger 33 = .ok (.getfield 227, 3) := by decide +kernel
theorem dX11_ledger_36 : decode cX11_ledger 36 = .ok (.iload_n 1, 1) := by decide +kernel
theorem dX11_ledger_37 : decode cX11_ledger 37 = .ok (.invokevirtual 179, 3) := by decide +kernel
theorem dX11_ledger_40 : decode cX11_ledger 40 = .ok (.if_icmp .lt 7, 3) := by decide +kernel
theorem dX11_ledger_43 : decode cX11_ledger 43 = .ok (.ldc2_w 192, 3) := by decide +kernel
theorem dX11_ledger_46 : decode cX11_ledger 46 = .ok (.lreturn, 1) := by decide +kernel
theorem dX11_ledger_47 : decode cX11_ledger 47 = .ok (.aload_n 0, 1) := by decide +kernel
theorem dX11_ledger_48 : decode cX11_ledger 48 = .ok (.getfield 10, 3) := by decide +kernel
theorem dX11_ledger_51 : decode cX11_ledger 51 = .ok (.getfield 206, 3) := by decide +kernel
theorem dX11_ledger_54 : decode cX11_ledger 54 = .ok (.iload_n 1, 1) := by decide +kernel
theorem dX11_ledger_55 : decode cX11_ledger 55 = .ok (.iload_n 2, 1) := by decide +kernel
theorem dX11_ledger_56 : decode cX11_ledger 56 = .ok (.iload_n 3, 1) := by decide +kernel
theorem dX11_ledger_57 : decode cX11_ledger 57 = .ok (.invokevirtual 228, 3) := by decide +kernel
theorem dX11_ledger_60 : decode cX11_ledger 60 = .ok (.lreturn, 1) := by decide +kernel
theorem dX11_periodOf_0 : decode cX11_periodOf 0 = .ok (.aload_n 0, 1) := by decide +kernel
theorem dX11_periodOf_1 : decode cX11_periodOf 1 = .ok (.getfield 64, 3) := by decide +kernel
theorem dX11_periodOf_4 : decode cX11_periodOf 4 = .ok (.ifCond .ne 6, 3) := by decide +kernel
theorem dX11_periodOf_7 : decode cX11_periodOf 7 = .ok (.bipush (-6), 2) := by decide +kernel
theorem dX11_periodOf_9 : decode cX11_periodOf 9 = .ok (.ireturn, 1) := by decide +kernel
theorem dX11_periodOf_10 : decode cX11_periodOf 10 = .ok (.aload_n 0, 1) := by decide +kernel
theorem dX11_periodOf_11 : decode cX11_periodOf 11 = .ok (.getfield 10, 3) := by decide +kernel
theorem dX11_periodOf_14 : decode cX11_periodOf 14 = .ok (.getfield 101, 3) := by decide +kernel
theorem dX11_periodOf_17 : decode cX11_periodOf 17 = .ok (.iload_n 1, 1) := by decide +kernel
theorem dX11_periodOf_18 : decode cX11_periodOf 18 = .ok (.invokevirtual 231, 3) := by decide +kernel
theorem dX11_periodOf_21 : decode cX11_periodOf 21 = .ok (.ifCond .eq 18, 3) := by decide +kernel
theorem dX11_periodOf_24 : decode cX11_periodOf 24 = .ok (.aload_n 0, 1) := by decide +kernel
theorem dX11_periodOf_25 : decode cX11_periodOf 25 = .ok (.getfield 10, 3) := by decide +kernel
theorem dX11_periodOf_28 : decode cX11_periodOf 28 = .ok (.getfield 101, 3) := by decide +kernel
theorem dX11_periodOf_31 : decode cX11_periodOf 31 = .ok (.iload_n 1, 1) := by decide +kernel
theorem dX11_periodOf_32 : decode cX11_periodOf 32 = .ok (.iload_n 2, 1) := by decide +kernel
theorem dX11_periodOf_33 : decode cX11_periodOf 33 = .ok (.invokevirtual 232, 3) := by decide +kernel
theorem dX11_periodOf_36 : decode cX11_periodOf 36 = .ok (.goto 5, 3) := by decide +kernel
theorem dX11_periodOf_39 : decode cX11_periodOf 39 = .ok (.bipush (-2), 2) := by decide +kernel
theorem dX11_periodOf_41 : decode cX11_periodOf 41 = .ok (.ireturn, 1) := by decide +kernel
theorem dX11_sheet_0 : decode cX11_sheet 0 = .ok (.aload_n 0, 1) := by decide +kernel
theorem dX11_sheet_1 : decode cX11_sheet 1 = .ok (.getfield 64, 3) := by decide +kernel
theorem dX11_sheet_4 : decode cX11_sheet 4 = .ok (.ifCond .ne 6, 3) := by decide +kernel
theorem dX11_sheet_7 : decode cX11_sheet 7 = .ok (.bipush (-6), 2) := by decide +kernel
theorem dX11_sheet_9 : decode cX11_sheet 9 = .ok (.ireturn, 1) := by decide +kernel
theorem dX11_sheet_10 : decode cX11_sheet 10 = .ok (.iload_n 1, 1) := by decide +kernel
theorem dX11_sheet_11 : decode cX11_sheet 11 = .ok (.ifCond .lt 8, 3) := by decide +kernel
theorem dX11_sheet_14 : decode cX11_sheet 14 = .ok (.iload_n 1, 1) := by decide +kernel
theorem dX11_sheet_15 : decode cX11_sheet 15 = .ok (.iconst 3, 1) := by decide +kernel
theorem dX11_sheet_16 : decode cX11_sheet 16 = .ok (.if_icmp .lt 6, 3) := by decide +kernel
theorem dX11_sheet_19 : decode cX11_sheet 19 = .ok (.bipush (-3), 2) := by decide +kernel
theorem dX11_sheet_21 : decode cX11_sheet 21 = .ok (.ireturn, 1) := by decide +kernel
theorem dX11_sheet_22 : decode cX11_sheet 22 = .ok (.aload_n 0, 1) := by decide +kernel
theorem dX11_sheet_23 : decode cX11_sheet 23 = .ok (.getfield 60, 3) := by decide +kernel
theorem dX11_sheet_26 : decode cX11_sheet 26 = .ok (.iload_n 1, 1) := by decide +kernel
theorem dX11_sheet_27 : decode cX11_sheet 27 = .ok (.invokevirtual 233, 3) := by decide +kernel
theorem dX11_sheet_30 : decode cX11_sheet 30 = .ok (.ifCond .eq 13, 3) := by decide +kernel
theorem dX11_sheet_33 : decode cX11_sheet 33 = .ok (.aload_n 0, 1) := by decide +kernel
theorem dX11_sheet_34 : decode cX11_sheet 34 = .ok (.getfield 60, 3) := by decide +kernel
theorem dX11_sheet_37 : decode cX11_sheet 37 = .ok (.getfield 235, 3) := by decide +kernel
theorem dX11_sheet_40 : decode cX11_sheet 40 = .ok (.goto 5, 3) := by decide +kernel
theorem dX11_sheet_43 : decode cX11_sheet 43 = .ok (.bipush (-13), 2) := by decide +kernel
theorem dX11_sheet_45 : decode cX11_sheet 45 = .ok (.ireturn, 1) := by decide +kernel
theorem dX11_shown_0 : decode cX11_shown 0 = .ok (.aload_n 0, 1) := by decide +kernel
theorem dX11_shown_1 : decode cX11_shown 1 = .ok (.getfield 64, 3) := by decide +kernel
theorem dX11_shown_4 : decode cX11_shown 4 = .ok (.ifCond .ne 6, 3) := by decide +kernel
theorem dX11_shown_7 : decode cX11_shown 7 = .ok (.bipush (-6), 2) := by decide +kernel
theorem dX11_shown_9 : decode cX11_shown 9 = .ok (.ireturn, 1) := by decide +kernel
theorem dX11_shown_10 : decode cX11_shown 10 = .ok (.iload_n 1, 1) := by decide +kernel
theorem dX11_shown_11 : decode cX11_shown 11 = .ok (.ifCond .lt 28, 3) := by decide +kernel
theorem dX11_shown_14 : decode cX11_shown 14 = .ok (.iload_n 1, 1) := by decide +kernel
theorem dX11_shown_15 : decode cX11_shown 15 = .ok (.aload_n 0, 1) := by decide +kernel
theorem dX11_shown_16 : decode cX11_shown 16 = .ok (.getfield 60, 3) := by decide +kernel
theorem dX11_shown_19 : decode cX11_shown 19 = .ok (.getfield 235, 3) := by decide +kernel
theorem dX11_shown_22 : decode cX11_shown 22 = .ok (.if_icmp .ge 17, 3) := by decide +kernel
theorem dX11_shown_25 : decode cX11_shown 25 = .ok (.aload_n 0, 1) := by decide +kernel
theorem dX11_shown_26 : decode cX11_shown 26 = .ok (.getfield 60, 3) := by decide +kernel
theorem dX11_shown_29 : decode cX11_shown 29 = .ok (.getfield 236, 3) := by decide +kernel
theorem dX11_shown_32 : decode cX11_shown 32 = .ok (.iload_n 1, 1) := by decide +kernel
theorem dX11_shown_33 : decode cX11_shown 33 = .ok (.invokevirtual 179, 3) := by decide +kernel
theorem dX11_shown_36 : decode cX11_shown 36 = .ok (.goto 5, 3) := by decide +kernel
theorem dX11_shown_39 : decode cX11_shown 39 = .ok (.bipush (-2), 2) := by decide +kernel
theorem dX11_shown_41 : decode cX11_shown 41 = .ok (.ireturn, 1) := by decide +kernel
theorem dX11_part_0 : decode cX11_part 0 = .ok (.iload 7, 2) := by decide +kernel
theorem dX11_part_2 : decode cX11_part 2 = .ok (.ifCond .lt 19, 3) := by decide +kernel
theorem dX11_part_5 : decode cX11_part 5 = .ok (.iload 7, 2) := by decide +kernel
theorem dX11_part_7 : decode cX11_part 7 = .ok (.iconst 4, 1) := by decide +kernel
theorem dX11_part_8 : decode cX11_part 8 = .ok (.if_icmp .ge 13, 3) := by decide +kernel
theorem dX11_part_11 : decode cX11_part 11 = .ok (.lload_n 1, 1) := by decide +kernel
theorem dX11_part_12 : decode cX11_part 12 = .ok (.ldc2_w 237, 3) := by decide +kernel
theorem dX11_part_15 : decode cX11_part 15 = .ok (.invokestatic 239, 3) := by decide +kernel
theorem dX11_part_18 : decode cX11_part 18 = .ok (.ifCond .ne 7, 3) := by decide +kernel
theorem dX11_part_21 : decode cX11_part 21 = .ok (.ldc2_w 192, 3) := by decide +kernel
theorem dX11_part_24 : decode cX11_part 24 = .ok (.lreturn, 1) := by decide +kernel
theorem dX11_part_25 : decode cX11_part 25 = .ok (.iload_n 3, 1) := by decide +kernel
theorem dX11_part_26 : decode cX11_part 26 = .ok (.invokestatic 243, 3) := by decide +kernel
theorem dX11_part_29 : decode cX11_part 29 = .ok (.ifCond .eq 27, 3) := by decide +kernel
theorem dX11_part_32 : decode cX11_part 32 = .ok (.iload 4, 2) := by decide +kernel
theorem dX11_part_34 : decode cX11_part 34 = .ok (.invokestatic 243, 3) := by decide +kernel
theorem dX11_part_37 : decode cX11_part 37 = .ok (.ifCond .eq 19, 3) := by decide +kernel
theorem dX11_part_40 : decode cX11_part 40 = .ok (.iload 5, 2) := by decide +kernel
theorem dX11_part_42 : decode cX11_part 42 = .ok (.invokestatic 243, 3) := by decide +kernel
theorem dX11_part_45 : decode cX11_part 45 = .ok (.ifCond .eq 11, 3) := by decide +kernel
theorem dX11_part_48 : decode cX11_part 48 = .ok (.iload 6, 2) := by decide +kernel
theorem dX11_part_50 : decode cX11_part 50 = .ok (.invokestatic 243, 3) := by decide +kernel
theorem dX11_part_53 : decode cX11_part 53 = .ok (.ifCond .ne 7, 3) := by decide +kernel
theorem dX11_part_56 : decode cX11_part 56 = .ok (.ldc2_w 192, 3) := by decide +kernel
theorem dX11_part_59 : decode cX11_part 59 = .ok (.lreturn, 1) := by decide +kernel
theorem dX11_part_60 : decode cX11_part 60 = .ok (.aload_n 0, 1) := by decide +kernel
theorem dX11_part_61 : decode cX11_part 61 = .ok (.getfield 47, 3) := by decide +kernel
theorem dX11_part_64 : decode cX11_part 64 = .ok (.invokevirtual 246, 3) := by decide +kernel
theorem dX11_part_67 : decode cX11_part 67 = .ok (.aload_n 0, 1) := by decide +kernel
theorem dX11_part_68 : decode cX11_part 68 = .ok (.getfield 47, 3) := by decide +kernel
theorem dX11_part_71 : decode cX11_part 71 = .ok (.iload_n 3, 1) := by decide +kernel
theorem dX11_part_72 : decode cX11_part 72 = .ok (.invokevirtual 247, 3) := by decide +kernel
theorem dX11_part_75 : decode cX11_part 75 = .ok (.aload_n 0, 1) := by decide +kernel
theorem dX11_part_76 : decode cX11_part 76 = .ok (.getfield 47, 3) := by decide +kernel
theorem dX11_part_79 : decode cX11_part 79 = .ok (.iload 4, 2) := by decide +kernel
theorem dX11_part_81 : decode cX11_part 81 = .ok (.invokevirtual 247, 3) := by decide +kernel
theorem dX11_part_84 : decode cX11_part 84 = .ok (.aload_n 0, 1) := by decide +kernel
theorem dX11_part_85 : decode cX11_part 85 = .ok (.getfield 47, 3) := by decide +kernel
theorem dX11_part_88 : decode cX11_part 88 = .ok (.iload 5, 2) := by decide +kernel
theorem dX11_part_90 : decode cX11_part 90 = .ok (.invokevirtual 247, 3) := by decide +kernel
theorem dX11_part_93 : decode cX11_part 93 = .ok (.aload_n 0, 1) := by decide +kernel
theorem dX11_part_94 : decode cX11_part 94 = .ok (.getfield 47, 3) := by decide +kernel
theorem dX11_part_97 : decode cX11_part 97 = .ok (.iload 6, 2) := by decide +kernel
theorem dX11_part_99 : decode cX11_part 99 = .ok (.invokevirtual 247, 3) := by decide +kernel
theorem dX11_part_102 : decode cX11_part 102 = .ok (.aload_n 0, 1) := by decide +kernel
theorem dX11_part_103 : decode cX11_part 103 = .ok (.getfield 47, 3) := by decide +kernel
theorem dX11_part_106 : decode cX11_part 106 = .ok (.lload_n 1, 1) := by decide +kernel
theorem dX11_part_107 : decode cX11_part 107 = .ok (.invokevirtual 249, 3) := by decide +kernel
theorem dX11_part_110 : decode cX11_part 110 = .ok (.ifCond .eq 18, 3) := by decide +kernel
theorem dX11_part_113 : decode cX11_part 113 = .ok (.aload_n 0, 1) := by decide +kernel
theorem dX11_part_114 : decode cX11_part 114 = .ok (.getfield 47, 3) := by decide +kernel
theorem dX11_part_117 : decode cX11_part 117 = .ok (.getfield 253, 3) := by decide +kernel
theorem dX11_part_120 : decode cX11_part 120 = .ok (.iload 7, 2) := by decide +kernel
theorem dX11_part_122 : decode cX11_part 122 = .ok (.invokevirtual 256, 3) := by decide +kernel
theorem dX11_part_125 : decode cX11_part 125 = .ok (.goto 6, 3) := by decide +kernel
theorem dX11_part_128 : decode cX11_part 128 = .ok (.ldc2_w 192, 3) := by decide +kernel
theorem dX11_part_131 : decode cX11_part 131 = .ok (.lreturn, 1) := by decide +kernel
theorem dX11_count_0 : decode cX11_count 0 = .ok (.iload_n 1, 1) := by decide +kernel
theorem dX11_count_1 : decode cX11_count 1 = .ok (.tableswitch 84 5 10 #[39, 47, 55, 84, 63, 71], 39) := by decide +kernel
theorem dX11_count_40 : decode cX11_count 40 = .ok (.aload_n 0, 1) := by decide +kernel
theorem dX11_count_41 : decode cX11_count 41 = .ok (.getfield 19, 3) := by decide +kernel
theorem dX11_count_44 : decode cX11_count 44 = .ok (.getfield 168, 3) := by decide +kernel
theorem dX11_count_47 : decode cX11_count 47 = .ok (.ireturn, 1) := by decide +kernel
theorem dX11_count_48 : decode cX11_count 48 = .ok (.aload_n 0, 1) := by decide +kernel
theorem dX11_count_49 : decode cX11_count 49 = .ok (.getfield 19, 3) := by decide +kernel
theorem dX11_count_52 : decode cX11_count 52 = .ok (.getfield 261, 3) := by decide +kernel
theorem dX11_count_55 : decode cX11_count 55 = .ok (.ireturn, 1) := by decide +kernel
theorem dX11_count_56 : decode cX11_count 56 = .ok (.aload_n 0, 1) := by decide +kernel
theorem dX11_count_57 : decode cX11_count 57 = .ok (.getfield 19, 3) := by decide +kernel
theorem dX11_count_60 : decode cX11_count 60 = .ok (.getfield 172, 3) := by decide +kernel
theorem dX11_count_63 : decode cX11_count 63 = .ok (.ireturn, 1) := by decide +kernel
theorem dX11_count_64 : decode cX11_count 64 = .ok (.aload_n 0, 1) := by decide +kernel
theorem dX11_count_65 : decode cX11_count 65 = .ok (.getfield 60, 3) := by decide +kernel
theorem dX11_count_68 : decode cX11_count 68 = .ok (.getfield 235, 3) := by decide +kernel
theorem dX11_count_71 : decode cX11_count 71 = .ok (.ireturn, 1) := by decide +kernel
theorem dX11_count_72 : decode cX11_count 72 = .ok (.aload_n 0, 1) := by decide +kernel
theorem dX11_count_73 : decode cX11_count 73 = .ok (.getfield 64, 3) := by decide +kernel
theorem dX11_count_76 : decode cX11_count 76 = .ok (.ifCond .eq 7, 3) := by decide +kernel
theorem dX11_count_79 : decode cX11_count 79 = .ok (.iconst 1, 1) := by decide +kernel
theorem dX11_count_80 : decode cX11_count 80 = .ok (.goto 4, 3) := by decide +kernel
theorem dX11_count_83 : decode cX11_count 83 = .ok (.iconst 0, 1) := by decide +kernel
theorem dX11_count_84 : decode cX11_count 84 = .ok (.ireturn, 1) := by decide +kernel
theorem dX11_count_85 : decode cX11_count 85 = .ok (.aload_n 0, 1) := by decide +kernel
theorem dX11_count_86 : decode cX11_count 86 = .ok (.iload_n 1, 1) := by decide +kernel
theorem dX11_count_87 : decode cX11_count 87 = .ok (.invokevirtual 264, 3) := by decide +kernel
theorem dX11_count_90 : decode cX11_count 90 = .ok (.ireturn, 1) := by decide +kernel
theorem dX11_countOfBooks_0 : decode cX11_countOfBooks 0 = .ok (.iload_n 1, 1) := by decide +kernel
theorem dX11_countOfBooks_1 : decode cX11_countOfBooks 1 = .ok (.tableswitch 183 0 8 #[51, 74, 97, 120, 143, 183, 183, 183, 163], 51) := by decide +kernel
theorem dX11_countOfBooks_52 : decode cX11_countOfBooks 52 = .ok (.aload_n 0, 1) := by decide +kernel
theorem dX11_countOfBooks_53 : decode cX11_countOfBooks 53 = .ok (.getfield 64, 3) := by decide +kernel
theorem dX11_countOfBooks_56 : decode cX11_countOfBooks 56 = .ok (.ifCond .eq 16, 3) := by decide +kernel
theorem dX11_countOfBooks_59 : decode cX11_countOfBooks 59 = .ok (.aload_n 0, 1) := by decide +kernel
theorem dX11_countOfBooks_60 : decode cX11_countOfBooks 60 = .ok (.getfield 10, 3) := by decide +kernel
theorem dX11_countOfBooks_63 : decode cX11_countOfBooks 63 = .ok (.getfield 53, 3) := by decide +kernel
theorem dX11_countOfBooks_66 : decode cX11_countOfBooks 66 = .ok (.getfield 267, 3) := by decide +kernel
theorem dX11_countOfBooks_69 : decode cX11_countOfBooks 69 = .ok (.goto 5, 3) := by decide +kernel
theorem dX11_countOfBooks_72 : decode cX11_countOfBooks 72 = .ok (.bipush (-6), 2) := by decide +kernel
theorem dX11_countOfBooks_74 : decode cX11_countOfBooks 74 = .ok (.ireturn, 1) := by decide +kernel
theorem dX11_countOfBooks_75 : decode cX11_countOfBooks 75 = .ok (.aload_n 0, 1) := by decide +kernel
theorem dX11_countOfBooks_76 : decode cX11_countOfBooks 76 = .ok (.getfield 64, 3) := by decide +kernel
theorem dX11_countOfBooks_79 : decode cX11_countOfBooks 79 = .ok (.ifCond .eq 16, 3) := by decide +kernel
theorem dX11_countOfBooks_82 : decode cX11_countOfBooks 82 = .ok (.aload_n 0, 1) := by decide +kernel
theorem dX11_countOfBooks_83 : decode cX11_countOfBooks 83 = .ok (.getfield 10, 3) := by decide +kernel
theorem dX11_countOfBooks_86 : decode cX11_countOfBooks 86 = .ok (.getfield 101, 3) := by decide +kernel
theorem dX11_countOfBooks_89 : decode cX11_countOfBooks 89 = .ok (.getfield 268, 3) := by decide +kernel
theorem dX11_countOfBooks_92 : decode cX11_countOfBooks 92 = .ok (.goto 5, 3) := by decide +kernel
theorem dX11_countOfBooks_95 : decode cX11_countOfBooks 95 = .ok (.bipush (-6), 2) := by decide +kernel
theorem dX11_countOfBooks_97 : decode cX11_countOfBooks 97 = .ok (.ireturn, 1) := by decide +kernel
theorem dX11_countOfBooks_98 : decode cX11_countOfBooks 98 = .ok (.aload_n 0, 1) := by decide +kernel
theorem dX11_countOfBooks_99 : decode cX11_countOfBooks 99 = .ok (.getfield 64, 3) := by decide +kernel
theorem dX11_countOfBooks_102 : decode cX11_countOfBooks 102 = .ok (.ifCond .eq 16, 3) := by decide +kernel
theorem dX11_countOfBooks_105 : decode cX11_countOfBooks 105 = .ok (.aload_n 0, 1) := by decide +kernel
theorem dX11_countOfBooks_106 : decode cX11_countOfBooks 106 = .ok (.getfield 10, 3) := by decide +kernel
theorem dX11_countOfBooks_109 : decode cX11_countOfBooks 109 = .ok (.getfield 101, 3) := by decide +kernel
theorem dX11_countOfBooks_112 : decode cX11_countOfBooks 112 = .ok (.getfield 269, 3) := by decide +kernel
theorem dX11_countOfBooks_115 : decode cX11_countOfBooks 115 = .ok (.goto 5, 3) := by decide +kernel
theorem dX11_countOfBooks_118 : decode cX11_countOfBooks 118 = .ok (.bipush (-6), 2) := by decide +kernel
theorem dX11_countOfBooks_120 : decode cX11_countOfBooks 120 = .ok (.ireturn, 1) := by decide +kernel
theorem dX11_countOfBooks_121 : decode cX11_countOfBooks 121 = .ok (.aload_n 0, 1) := by decide +kernel
theorem dX11_countOfBooks_122 : decode cX11_countOfBooks 122 = .ok (.getfield 64, 3) := by decide +kernel
theorem dX11_countOfBooks_125 : decode cX11_countOfBooks 125 = .ok (.ifCond .eq 16, 3) := by decide +kernel
theorem dX11_countOfBooks_128 : decode cX11_countOfBooks 128 = .ok (.aload_n 0, 1) := by decide +kernel
theorem dX11_countOfBooks_129 : decode cX11_countOfBooks 129 = .ok (.getfield 10, 3) := by decide +kernel
theorem dX11_countOfBooks_132 : decode cX11_countOfBooks 132 = .ok (.getfield 206, 3) := by decide +kernel
theorem dX11_countOfBooks_135 : decode cX11_countOfBooks 135 = .ok (.getfield 272, 3) := by decide +kernel
theorem dX11_countOfBooks_138 : decode cX11_countOfBooks 138 = .ok (.goto 5, 3) := by decide +kernel
theorem dX11_countOfBooks_141 : decode cX11_countOfBooks 141 = .ok (.bipush (-6), 2) := by decide +kernel
theorem dX11_countOfBooks_143 : decode cX11_countOfBooks 143 = .ok (.ireturn, 1) := by decide +kernel
theorem dX11_countOfBooks_144 : decode cX11_countOfBooks 144 = .ok (.aload_n 0, 1) := by decide +kernel
theorem dX11_countOfBooks_145 : decode cX11_countOfBooks 145 = .ok (.getfield 64, 3) := by decide +kernel
theorem dX11_countOfBooks_148 : decode cX11_countOfBooks 148 = .ok (.ifCond .eq 13, 3) := by decide +kernel
theorem dX11_countOfBooks_151 : decode cX11_countOfBooks 151 = .ok (.aload_n 0, 1) := by decide +kernel
theorem dX11_countOfBooks_152 : decode cX11_countOfBooks 152 = .ok (.getfield 37, 3) := by decide +kernel
theorem dX11_countOfBooks_155 : decode cX11_countOfBooks 155 = .ok (.getfield 119, 3) := by decide +kernel
theorem dX11_countOfBooks_158 : decode cX11_countOfBooks 158 = .ok (.goto 5, 3) := by decide +kernel
theorem dX11_countOfBooks_161 : decode cX11_countOfBooks 161 = .ok (.bipush (-6), 2) := by decide +kernel
theorem dX11_countOfBooks_163 : decode cX11_countOfBooks 163 = .ok (.ireturn, 1) := by decide +kernel
theorem dX11_countOfBooks_164 : decode cX11_countOfBooks 164 = .ok (.aload_n 0, 1) := by decide +kernel
theorem dX11_countOfBooks_165 : decode cX11_countOfBooks 165 = .ok (.getfield 64, 3) := by decide +kernel
theorem dX11_countOfBooks_168 : decode cX11_countOfBooks 168 = .ok (.ifCond .eq 13, 3) := by decide +kernel
theorem dX11_countOfBooks_171 : decode cX11_countOfBooks 171 = .ok (.aload_n 0, 1) := by decide +kernel
theorem dX11_countOfBooks_172 : decode cX11_countOfBooks 172 = .ok (.getfield 10, 3) := by decide +kernel
theorem dX11_countOfBooks_175 : decode cX11_countOfBooks 175 = .ok (.getfield 273, 3) := by decide +kernel
theorem dX11_countOfBooks_178 : decode cX11_countOfBooks 178 = .ok (.goto 5, 3) := by decide +kernel
theorem dX11_countOfBooks_181 : decode cX11_countOfBooks 181 = .ok (.bipush (-6), 2) := by decide +kernel
theorem dX11_countOfBooks_183 : decode cX11_countOfBooks 183 = .ok (.ireturn, 1) := by decide +kernel
theorem dX11_countOfBooks_184 : decode cX11_countOfBooks 184 = .ok (.bipush (-3), 2) := by decide +kernel
theorem dX11_countOfBooks_186 : decode cX11_countOfBooks 186 = .ok (.ireturn, 1) := by decide +kernel
theorem dX11_writePlain_0 : decode cX11_writePlain 0 = .ok (.aload_n 0, 1) := by decide +kernel
theorem dX11_writePlain_1 : decode cX11_writePlain 1 = .ok (.getfield 10, 3) := by decide +kernel
theorem dX11_writePlain_4 : decode cX11_writePlain 4 = .ok (.aload_n 1, 1) := by decide +kernel
theorem dX11_writePlain_5 : decode cX11_writePlain 5 = .ok (.iload_n 2, 1) := by decide +kernel
theorem dX11_writePlain_6 : decode cX11_writePlain 6 = .ok (.invokevirtual 276, 3) := by decide +kernel
theorem dX11_writePlain_9 : decode cX11_writePlain 9 = .ok (.istore 4, 2) := by decide +kernel
theorem dX11_writePlain_11 : decode cX11_writePlain 11 = .ok (.iload 4, 2) := by decide +kernel
theorem dX11_writePlain_13 : decode cX11_writePlain 13 = .ok (.ifCond .eq 6, 3) := by decide +kernel
theorem dX11_writePlain_16 : decode cX11_writePlain 16 = .ok (.iload 4, 2) := by decide +kernel
theorem dX11_writePlain_18 : decode cX11_writePlain 18 = .ok (.ireturn, 1) := by decide +kernel
theorem dX11_writePlain_19 : decode cX11_writePlain 19 = .ok (.aload_n 0, 1) := by decide +kernel
theorem dX11_writePlain_20 : decode cX11_writePlain 20 = .ok (.getfield 19, 3) := by decide +kernel
theorem dX11_writePlain_23 : decode cX11_writePlain 23 = .ok (.iconst 5, 1) := by decide +kernel
theorem dX11_writePlain_24 : decode cX11_writePlain 24 = .ok (.invokevirtual 72, 3) := by decide +kernel
theorem dX11_writePlain_27 : decode cX11_writePlain 27 = .ok (.aload_n 0, 1) := by decide +kernel
theorem dX11_writePlain_28 : decode cX11_writePlain 28 = .ok (.getfield 19, 3) := by decide +kernel
theorem dX11_writePlain_31 : decode cX11_writePlain 31 = .ok (.iload_n 2, 1) := by decide +kernel
theorem dX11_writePlain_32 : decode cX11_writePlain 32 = .ok (.i2l, 1) := by decide +kernel
theorem dX11_writePlain_33 : decode cX11_writePlain 33 = .ok (.invokevirtual 75, 3) := by decide +kernel
theorem dX11_writePlain_36 : decode cX11_writePlain 36 = .ok (.aload_n 0, 1) := by decide +kernel
theorem dX11_writePlain_37 : decode cX11_writePlain 37 = .ok (.getfield 19, 3) := by decide +kernel
theorem dX11_writePlain_40 : decode cX11_writePlain 40 = .ok (.iload_n 3, 1) := by decide +kernel
theorem dX11_writePlain_41 : decode cX11_writePlain 41 = .ok (.i2l, 1) := by decide +kernel
theorem dX11_writePlain_42 : decode cX11_writePlain 42 = .ok (.invokevirtual 75, 3) := by decide +kernel
theorem dX11_writePlain_45 : decode cX11_writePlain 45 = .ok (.aload_n 0, 1) := by decide +kernel
theorem dX11_writePlain_46 : decode cX11_writePlain 46 = .ok (.getfield 19, 3) := by decide +kernel
theorem dX11_writePlain_49 : decode cX11_writePlain 49 = .ok (.aload_n 1, 1) := by decide +kernel
theorem dX11_writePlain_50 : decode cX11_writePlain 50 = .ok (.getfield 119, 3) := by decide +kernel
theorem dX11_writePlain_53 : decode cX11_writePlain 53 = .ok (.i2l, 1) := by decide +kernel
theorem dX11_writePlain_54 : decode cX11_writePlain 54 = .ok (.invokevirtual 75, 3) := by decide +kernel
theorem dX11_writePlain_57 : decode cX11_writePlain 57 = .ok (.iconst 0, 1) := by decide +kernel
theorem dX11_writePlain_58 : decode cX11_writePlain 58 = .ok (.istore 5, 2) := by decide +kernel
theorem dX11_writePlain_60 : decode cX11_writePlain 60 = .ok (.iload 5, 2) := by decide +kernel
theorem dX11_writePlain_62 : decode cX11_writePlain 62 = .ok (.aload_n 1, 1) := by decide +kernel
theorem dX11_writePlain_63 : decode cX11_writePlain 63 = .ok (.getfield 119, 3) := by decide +kernel
theorem dX11_writePlain_66 : decode cX11_writePlain 66 = .ok (.if_icmp .ge 42, 3) := by decide +kernel
theorem dX11_writePlain_69 : decode cX11_writePlain 69 = .ok (.aload_n 0, 1) := by decide +kernel
theorem dX11_writePlain_70 : decode cX11_writePlain 70 = .ok (.getfield 19, 3) := by decide +kernel
theorem dX11_writePlain_73 : decode cX11_writePlain 73 = .ok (.aload_n 1, 1) := by decide +kernel
theorem dX11_writePlain_74 : decode cX11_writePlain 74 = .ok (.getfield 280, 3) := by decide +kernel
theorem dX11_writePlain_77 : decode cX11_writePlain 77 = .ok (.iload 5, 2) := by decide +kernel
theorem dX11_writePlain_79 : decode cX11_writePlain 79 = .ok (.invokevirtual 179, 3) := by decide +kernel
theorem dX11_writePlain_82 : decode cX11_writePlain 82 = .ok (.i2l, 1) := by decide +kernel
theorem dX11_writePlain_83 : decode cX11_writePlain 83 = .ok (.invokevirtual 75, 3) := by decide +kernel
theorem dX11_writePlain_86 : decode cX11_writePlain 86 = .ok (.aload_n 0, 1) := by decide +kernel
theorem dX11_writePlain_87 : decode cX11_writePlain 87 = .ok (.getfield 19, 3) := by decide +kernel
theorem dX11_writePlain_90 : decode cX11_writePlain 90 = .ok (.aload_n 1, 1) := by decide +kernel
theorem dX11_writePlain_91 : decode cX11_writePlain 91 = .ok (.getfield 282, 3) := by decide +kernel
theorem dX11_writePlain_94 : decode cX11_writePlain 94 = .ok (.iload 5, 2) := by decide +kernel
theorem dX11_writePlain_96 : decode cX11_writePlain 96 = .ok (.invokevirtual 256, 3) := by decide +kernel
theorem dX11_writePlain_99 : decode cX11_writePlain 99 = .ok (.invokevirtual 75, 3) := by decide +kernel
theorem dX11_writePlain_102 : decode cX11_writePlain 102 = .ok (.iinc 5 1, 3) := by decide +kernel
theorem dX11_writePlain_105 : decode cX11_writePlain 105 = .ok (.goto (-45), 3) := by decide +kernel
theorem dX11_writePlain_108 : decode cX11_writePlain 108 = .ok (.aload_n 0, 1) := by decide +kernel
theorem dX11_writePlain_109 : decode cX11_writePlain 109 = .ok (.getfield 19, 3) := by decide +kernel
theorem dX11_writePlain_112 : decode cX11_writePlain 112 = .ok (.invokevirtual 79, 3) := by decide +kernel
theorem dX11_writePlain_115 : decode cX11_writePlain 115 = .ok (.ifCond .ne 6, 3) := by decide +kernel
theorem dX11_writePlain_118 : decode cX11_writePlain 118 = .ok (.bipush (-13), 2) := by decide +kernel
theorem dX11_writePlain_120 : decode cX11_writePlain 120 = .ok (.ireturn, 1) := by decide +kernel
theorem dX11_writePlain_121 : decode cX11_writePlain 121 = .ok (.aload_n 0, 1) := by decide +kernel
theorem dX11_writePlain_122 : decode cX11_writePlain 122 = .ok (.getfield 10, 3) := by decide +kernel
theorem dX11_writePlain_125 : decode cX11_writePlain 125 = .ok (.aload_n 1, 1) := by decide +kernel
theorem dX11_writePlain_126 : decode cX11_writePlain 126 = .ok (.iload_n 2, 1) := by decide +kernel
theorem dX11_writePlain_127 : decode cX11_writePlain 127 = .ok (.iload_n 3, 1) := by decide +kernel
theorem dX11_writePlain_128 : decode cX11_writePlain 128 = .ok (.iconst 0, 1) := by decide +kernel
theorem dX11_writePlain_129 : decode cX11_writePlain 129 = .ok (.iconst (-1), 1) := by decide +kernel
theorem dX11_writePlain_130 : decode cX11_writePlain 130 = .ok (.invokevirtual 285, 3) := by decide +kernel
theorem dX11_writePlain_133 : decode cX11_writePlain 133 = .ok (.istore 5, 2) := by decide +kernel
theorem dX11_writePlain_135 : decode cX11_writePlain 135 = .ok (.aload_n 0, 1) := by decide +kernel
theorem dX11_writePlain_136 : decode cX11_writePlain 136 = .ok (.getfield 37, 3) := by decide +kernel
theorem dX11_writePlain_139 : decode cX11_writePlain 139 = .ok (.invokevirtual 126, 3) := by decide +kernel
theorem dX11_writePlain_142 : decode cX11_writePlain 142 = .ok (.iload 5, 2) := by decide +kernel
theorem dX11_writePlain_144 : decode cX11_writePlain 144 = .ok (.ireturn, 1) := by decide +kernel
theorem dX11_refusesShare_0 : decode cX11_refusesShare 0 = .ok (.aload_n 0, 1) := by decide +kernel
theorem dX11_refusesShare_1 : decode cX11_refusesShare 1 = .ok (.getfield 10, 3) := by decide +kernel
theorem dX11_refusesShare_4 : decode cX11_refusesShare 4 = .ok (.getfield 53, 3) := by decide +kernel
theorem dX11_refusesShare_7 : decode cX11_refusesShare 7 = .ok (.iload_n 1, 1) := by decide +kernel
theorem dX11_refusesShare_8 : decode cX11_refusesShare 8 = .ok (.invokevirtual 184, 3) := by decide +kernel
theorem dX11_refusesShare_11 : decode cX11_refusesShare 11 = .ok (.ifCond .ne 6, 3) := by decide +kernel
theorem dX11_refusesShare_14 : decode cX11_refusesShare 14 = .ok (.bipush (-2), 2) := by decide +kernel
theorem dX11_refusesShare_16 : decode cX11_refusesShare 16 = .ok (.ireturn, 1) := by decide +kernel
theorem dX11_refusesShare_17 : decode cX11_refusesShare 17 = .ok (.lload_n 2, 1) := by decide +kernel
theorem dX11_refusesShare_18 : decode cX11_refusesShare 18 = .ok (.invokestatic 289, 3) := by decide +kernel
theorem dX11_refusesShare_21 : decode cX11_refusesShare 21 = .ok (.ifCond .eq 13, 3) := by decide +kernel
theorem dX11_refusesShare_24 : decode cX11_refusesShare 24 = .ok (.aload_n 0, 1) := by decide +kernel
theorem dX11_refusesShare_25 : decode cX11_refusesShare 25 = .ok (.getfield 37, 3) := by decide +kernel
theorem dX11_refusesShare_28 : decode cX11_refusesShare 28 = .ok (.invokestatic 292, 3) := by decide +kernel
theorem dX11_refusesShare_31 : decode cX11_refusesShare 31 = .ok (.ifCond .ne 6, 3) := by decide +kernel
theorem dX11_refusesShare_34 : decode cX11_refusesShare 34 = .ok (.bipush (-3), 2) := by decide +kernel
theorem dX11_refusesShare_36 : decode cX11_refusesShare 36 = .ok (.ireturn, 1) := by decide +kernel
theorem dX11_refusesShare_37 : decode cX11_refusesShare 37 = .ok (.aload_n 0, 1) := by decide +kernel
theorem dX11_refusesShare_38 : decode cX11_refusesShare 38 = .ok (.getfield 10, 3) := by decide +kernel
theorem dX11_refusesShare_41 : decode cX11_refusesShare 41 = .ok (.getfield 53, 3) := by decide +kernel
theorem dX11_refusesShare_44 : decode cX11_refusesShare 44 = .ok (.iload_n 1, 1) := by decide +kernel
theorem dX11_refusesShare_45 : decode cX11_refusesShare 45 = .ok (.invokevirtual 224, 3) := by decide +kernel
theorem dX11_refusesShare_48 : decode cX11_refusesShare 48 = .ok (.ifCond .ne 6, 3) := by decide +kernel
theorem dX11_refusesShare_51 : decode cX11_refusesShare 51 = .ok (.bipush (-4), 2) := by decide +kernel
theorem dX11_refusesShare_53 : decode cX11_refusesShare 53 = .ok (.ireturn, 1) := by decide +kernel
theorem dX11_refusesShare_54 : decode cX11_refusesShare 54 = .ok (.aload_n 0, 1) := by decide +kernel
theorem dX11_refusesShare_55 : decode cX11_refusesShare 55 = .ok (.getfield 37, 3) := by decide +kernel
theorem dX11_refusesShare_58 : decode cX11_refusesShare 58 = .ok (.getfield 119, 3) := by decide +kernel
theorem dX11_refusesShare_61 : decode cX11_refusesShare 61 = .ok (.ifCond .ne 8, 3) := by decide +kernel
theorem dX11_refusesShare_64 : decode cX11_refusesShare 64 = .ok (.bipush (-6), 2) := by decide +kernel
theorem dX11_refusesShare_66 : decode cX11_refusesShare 66 = .ok (.goto 4, 3) := by decide +kernel
theorem dX11_refusesShare_69 : decode cX11_refusesShare 69 = .ok (.iconst 0, 1) := by decide +kernel
theorem dX11_refusesShare_70 : decode cX11_refusesShare 70 = .ok (.ireturn, 1) := by decide +kernel
theorem dX11_shareOut_0 : decode cX11_shareOut 0 = .ok (.aload_n 0, 1) := by decide +kernel
theorem dX11_shareOut_1 : decode cX11_shareOut 1 = .ok (.getfield 47, 3) := by decide +kernel
theorem dX11_shareOut_4 : decode cX11_shareOut 4 = .ok (.invokevirtual 246, 3) := by decide +kernel
theorem dX11_shareOut_7 : decode cX11_shareOut 7 = .ok (.iconst 0, 1) := by decide +kernel
theorem dX11_shareOut_8 : decode cX11_shareOut 8 = .ok (.istore 4, 2) := by decide +kernel
theorem dX11_shareOut_10 : decode cX11_shareOut 10 = .ok (.iload 4, 2) := by decide +kernel
theorem dX11_shareOut_12 : decode cX11_shareOut 12 = .ok (.aload_n 0, 1) := by decide +kernel
theorem dX11_shareOut_13 : decode cX11_shareOut 13 = .ok (.getfield 37, 3) := by decide +kernel
theorem dX11_shareOut_16 : decode cX11_shareOut 16 = .ok (.getfield 119, 3) := by decide +kernel
theorem dX11_shareOut_19 : decode cX11_shareOut 19 = .ok (.if_icmp .ge 29, 3) := by decide +kernel
theorem dX11_shareOut_22 : decode cX11_shareOut 22 = .ok (.aload_n 0, 1) := by decide +kernel
theorem dX11_shareOut_23 : decode cX11_shareOut 23 = .ok (.getfield 47, 3) := by decide +kernel
theorem dX11_shareOut_26 : decode cX11_shareOut 26 = .ok (.aload_n 0, 1) := by decide +kernel
theorem dX11_shareOut_27 : decode cX11_shareOut 27 = .ok (.getfield 37, 3) := by decide +kernel
theorem dX11_shareOut_30 : decode cX11_shareOut 30 = .ok (.getfield 282, 3) := by decide +kernel
theorem dX11_shareOut_33 : decode cX11_shareOut 33 = .ok (.iload 4, 2) := by decide +kernel
theorem dX11_shareOut_35 : decode cX11_shareOut 35 = .ok (.invokevirtual 256, 3) := by decide +kernel
theorem dX11_shareOut_38 : decode cX11_shareOut 38 = .ok (.l2i, 1) := by decide +kernel
theorem dX11_shareOut_39 : decode cX11_shareOut 39 = .ok (.invokevirtual 247, 3) := by decide +kernel
theorem dX11_shareOut_42 : decode cX11_shareOut 42 = .ok (.iinc 4 1, 3) := by decide +kernel
theorem dX11_shareOut_45 : decode cX11_shareOut 45 = .ok (.goto (-35), 3) := by decide +kernel
theorem dX11_shareOut_48 : decode cX11_shareOut 48 = .ok (.aload_n 0, 1) := by decide +kernel
theorem dX11_shareOut_49 : decode cX11_shareOut 49 = .ok (.getfield 47, 3) := by decide +kernel
theorem dX11_shareOut_52 : decode cX11_shareOut 52 = .ok (.lload_n 2, 1) := by decide +kernel
theorem dX11_shareOut_53 : decode cX11_shareOut 53 = .ok (.invokevirtual 249, 3) := by decide +kernel
theorem dX11_shareOut_56 : decode cX11_shareOut 56 = .ok (.pop, 1) := by decide +kernel
theorem dX11_shareOut_57 : decode cX11_shareOut 57 = .ok (.aload_n 0, 1) := by decide +kernel
theorem dX11_shareOut_58 : decode cX11_shareOut 58 = .ok (.getfield 41, 3) := by decide +kernel
theorem dX11_shareOut_61 : decode cX11_shareOut 61 = .ok (.invokevirtual 126, 3) := by decide +kernel
theorem dX11_shareOut_64 : decode cX11_shareOut 64 = .ok (.aload_n 0, 1) := by decide +kernel
theorem dX11_shareOut_65 : decode cX11_shareOut 65 = .ok (.getfield 41, 3) := by decide +kernel
theorem dX11_shareOut_68 : decode cX11_shareOut 68 = .ok (.iload_n 1, 1) := by decide +kernel
theorem dX11_shareOut_69 : decode cX11_shareOut 69 = .ok (.lload_n 2, 1) := by decide +kernel
theorem dX11_shareOut_70 : decode cX11_shareOut 70 = .ok (.lneg, 1) := by decide +kernel
theorem dX11_shareOut_71 : decode cX11_shareOut 71 = .ok (.invokevirtual 123, 3) := by decide +kernel
theorem dX11_shareOut_74 : decode cX11_shareOut 74 = .ok (.iconst 0, 1) := by decide +kernel
theorem dX11_shareOut_75 : decode cX11_shareOut 75 = .ok (.istore 4, 2) := by decide +kernel
theorem dX11_shareOut_77 : decode cX11_shareOut 77 = .ok (.iload 4, 2) := by decide +kernel
theorem dX11_shareOut_79 : decode cX11_shareOut 79 = .ok (.aload_n 0, 1) := by decide +kernel
theorem dX11_shareOut_80 : decode cX11_shareOut 80 = .ok (.getfield 37, 3) := by decide +kernel
theorem dX11_shareOut_83 : decode cX11_shareOut 83 = .ok (.getfield 119, 3) := by decide +kernel
theorem dX11_shareOut_86 : decode cX11_shareOut 86 = .ok (.if_icmp .ge 57, 3) := by decide +kernel
theorem dX11_shareOut_89 : decode cX11_shareOut 89 = .ok (.aload_n 0, 1) := by decide +kernel
theorem dX11_shareOut_90 : decode cX11_shareOut 90 = .ok (.getfield 47, 3) := by decide +kernel
theorem dX11_shareOut_93 : decode cX11_shareOut 93 = .ok (.getfield 253, 3) := by decide +kernel
theorem dX11_shareOut_96 : decode cX11_shareOut 96 = .ok (.iload 4, 2) := by decide +kernel
theorem dX11_shareOut_98 : decode cX11_shareOut 98 = .ok (.invokevirtual 256, 3) := by decide +kernel
theorem dX11_shareOut_101 : decode cX11_shareOut 101 = .ok (.lconst 0, 1) := by decide +kernel
theorem dX11_shareOut_102 : decode cX11_shareOut 102 = .ok (.lcmp, 1) := by decide +kernel
theorem dX11_shareOut_103 : decode cX11_shareOut 103 = .ok (.ifCond .eq 34, 3) := by decide +kernel
theorem dX11_shareOut_106 : decode cX11_shareOut 106 = .ok (.aload_n 0, 1) := by decide +kernel
theorem dX11_shareOut_107 : decode cX11_shareOut 107 = .ok (.getfield 41, 3) := by decide +kernel
theorem dX11_shareOut_110 : decode cX11_shareOut 110 = .ok (.aload_n 0, 1) := by decide +kernel
theorem dX11_shareOut_111 : decode cX11_shareOut 111 = .ok (.getfield 37, 3) := by decide +kernel
theorem dX11_shareOut_114 : decode cX11_shareOut 114 = .ok (.getfield 280, 3) := by decide +kernel
theorem dX11_shareOut_117 : decode cX11_shareOut 117 = .ok (.iload 4, 2) := by decide +kernel
theorem dX11_shareOut_119 : decode cX11_shareOut 119 = .ok (.invokevirtual 179, 3) := by decide +kernel
theorem dX11_shareOut_122 : decode cX11_shareOut 122 = .ok (.aload_n 0, 1) := by decide +kernel
theorem dX11_shareOut_123 : decode cX11_shareOut 123 = .ok (.getfield 47, 3) := by decide +kernel
theorem dX11_shareOut_126 : decode cX11_shareOut 126 = .ok (.getfield 253, 3) := by decide +kernel
theorem dX11_shareOut_129 : decode cX11_shareOut 129 = .ok (.iload 4, 2) := by decide +kernel
theorem dX11_shareOut_131 : decode cX11_shareOut 131 = .ok (.invokevirtual 256, 3) := by decide +kernel
theorem dX11_shareOut_134 : decode cX11_shareOut 134 = .ok (.invokevirtual 123, 3) := by decide +kernel
theorem dX11_shareOut_137 : decode cX11_shareOut 137 = .ok (.iinc 4 1, 3) := by decide +kernel
theorem dX11_shareOut_140 : decode cX11_shareOut 140 = .ok (.goto (-63), 3) := by decide +kernel
theorem dX11_shareOut_143 : decode cX11_shareOut 143 = .ok (.return_, 1) := by decide +kernel
theorem dX11_areWeights_0 : decode cX11_areWeights 0 = .ok (.iconst 0, 1) := by decide +kernel
theorem dX11_areWeights_1 : decode cX11_areWeights 1 = .ok (.istore_n 1, 1) := by decide +kernel
theorem dX11_areWeights_2 : decode cX11_areWeights 2 = .ok (.iload_n 1, 1) := by decide +kernel
theorem dX11_areWeights_3 : decode cX11_areWeights 3 = .ok (.aload_n 0, 1) := by decide +kernel
theorem dX11_areWeights_4 : decode cX11_areWeights 4 = .ok (.getfield 119, 3) := by decide +kernel
theorem dX11_areWeights_7 : decode cX11_areWeights 7 = .ok (.if_icmp .ge 34, 3) := by decide +kernel
theorem dX11_areWeights_10 : decode cX11_areWeights 10 = .ok (.aload_n 0, 1) := by decide +kernel
theorem dX11_areWeights_11 : decode cX11_areWeights 11 = .ok (.getfield 282, 3) := by decide +kernel
theorem dX11_areWeights_14 : decode cX11_areWeights 14 = .ok (.iload_n 1, 1) := by decide +kernel
theorem dX11_areWeights_15 : decode cX11_areWeights 15 = .ok (.invokevirtual 256, 3) := by decide +kernel
theorem dX11_areWeights_18 : decode cX11_areWeights 18 = .ok (.lstore_n 2, 1) := by decide +kernel
theorem dX11_areWeights_19 : decode cX11_areWeights 19 = .ok (.lload_n 2, 1) := by decide +kernel
theorem dX11_areWeights_20 : decode cX11_areWeights 20 = .ok (.lconst 1, 1) := by decide +kernel
theorem dX11_areWeights_21 : decode cX11_areWeights 21 = .ok (.lcmp, 1) := by decide +kernel
theorem dX11_areWeights_22 : decode cX11_areWeights 22 = .ok (.ifCond .lt 11, 3) := by decide +kernel
theorem dX11_areWeights_25 : decode cX11_areWeights 25 = .ok (.lload_n 2, 1) := by decide +kernel
theorem dX11_areWeights_26 : decode cX11_areWeights 26 = .ok (.ldc2_w 296, 3) := by decide +kernel
theorem dX11_areWeights_29 : decode cX11_areWeights 29 = .ok (.lcmp, 1) := by decide +kernel
theorem dX11_areWeights_30 : decode cX11_areWeights 30 = .ok (.ifCond .le 5, 3) := by decide +kernel
theorem dX11_areWeights_33 : decode cX11_areWeights 33 = .ok (.iconst 0, 1) := by decide +kernel
theorem dX11_areWeights_34 : decode cX11_areWeights 34 = .ok (.ireturn, 1) := by decide +kernel
theorem dX11_areWeights_35 : decode cX11_areWeights 35 = .ok (.iinc 1 1, 3) := by decide +kernel
theorem dX11_areWeights_38 : decode cX11_areWeights 38 = .ok (.goto (-36), 3) := by decide +kernel
theorem dX11_areWeights_41 : decode cX11_areWeights 41 = .ok (.aload_n 0, 1) := by decide +kernel
theorem dX11_areWeights_42 : decode cX11_areWeights 42 = .ok (.getfield 119, 3) := by decide +kernel
theorem dX11_areWeights_45 : decode cX11_areWeights 45 = .ok (.bipush 7, 2) := by decide +kernel
theorem dX11_areWeights_47 : decode cX11_areWeights 47 = .ok (.if_icmp .gt 7, 3) := by decide +kernel
theorem dX11_areWeights_50 : decode cX11_areWeights 50 = .ok (.iconst 1, 1) := by decide +kernel
theorem dX11_areWeights_51 : decode cX11_areWeights 51 = .ok (.goto 4, 3) := by decide +kernel
theorem dX11_areWeights_54 : decode cX11_areWeights 54 = .ok (.iconst 0, 1) := by decide +kernel
theorem dX11_areWeights_55 : decode cX11_areWeights 55 = .ok (.ireturn, 1) := by decide +kernel
theorem dX11_isPartWeight_0 : decode cX11_isPartWeight 0 = .ok (.iload_n 0, 1) := by decide +kernel
theorem dX11_isPartWeight_1 : decode cX11_isPartWeight 1 = .ok (.ifCond .lt 14, 3) := by decide +kernel
theorem dX11_isPartWeight_4 : decode cX11_isPartWeight 4 = .ok (.iload_n 0, 1) := by decide +kernel
theorem dX11_isPartWeight_5 : decode cX11_isPartWeight 5 = .ok (.sipush 1000, 3) := by decide +kernel
theorem dX11_isPartWeight_8 : decode cX11_isPartWeight 8 = .ok (.if_icmp .gt 7, 3) := by decide +kernel
theorem dX11_isPartWeight_11 : decode cX11_isPartWeight 11 = .ok (.iconst 1, 1) := by decide +kernel
theorem dX11_isPartWeight_12 : decode cX11_isPartWeight 12 = .ok (.goto 4, 3) := by decide +kernel
theorem dX11_isPartWeight_15 : decode cX11_isPartWeight 15 = .ok (.iconst 0, 1) := by decide +kernel
theorem dX11_isPartWeight_16 : decode cX11_isPartWeight 16 = .ok (.ireturn, 1) := by decide +kernel
theorem dX11_isAmount_0 : decode cX11_isAmount 0 = .ok (.lload_n 0, 1) := by decide +kernel
theorem dX11_isAmount_1 : decode cX11_isAmount 1 = .ok (.lconst 0, 1) := by decide +kernel
theorem dX11_isAmount_2 : decode cX11_isAmount 2 = .ok (.lcmp, 1) := by decide +kernel
theorem dX11_isAmount_3 : decode cX11_isAmount 3 = .ok (.ifCond .eq 17, 3) := by decide +kernel
theorem dX11_isAmount_6 : decode cX11_isAmount 6 = .ok (.lload_n 0, 1) := by decide +kernel
theorem dX11_isAmount_7 : decode cX11_isAmount 7 = .ok (.ldc2_w 237, 3) := by decide +kernel
theorem dX11_isAmount_10 : decode cX11_isAmount 10 = .ok (.invokestatic 239, 3) := by decide +kernel
theorem dX11_isAmount_13 : decode cX11_isAmount 13 = .ok (.ifCond .eq 7, 3) := by decide +kernel
theorem dX11_isAmount_16 : decode cX11_isAmount 16 = .ok (.iconst 1, 1) := by decide +kernel
theorem dX11_isAmount_17 : decode cX11_isAmount 17 = .ok (.goto 4, 3) := by decide +kernel
theorem dX11_isAmount_20 : decode cX11_isAmount 20 = .ok (.iconst 0, 1) := by decide +kernel
theorem dX11_isAmount_21 : decode cX11_isAmount 21 = .ok (.ireturn, 1) := by decide +kernel
theorem dX11_isWithin_0 : decode cX11_isWithin 0 = .ok (.lload_n 0, 1) := by decide +kernel
theorem dX11_isWithin_1 : decode cX11_isWithin 1 = .ok (.lload_n 2, 1) := by decide +kernel
theorem dX11_isWithin_2 : decode cX11_isWithin 2 = .ok (.lneg, 1) := by decide +kernel
theorem dX11_isWithin_3 : decode cX11_isWithin 3 = .ok (.lcmp, 1) := by decide +kernel
theorem dX11_isWithin_4 : decode cX11_isWithin 4 = .ok (.ifCond .lt 13, 3) := by decide +kernel
theorem dX11_isWithin_7 : decode cX11_isWithin 7 = .ok (.lload_n 0, 1) := by decide +kernel
theorem dX11_isWithin_8 : decode cX11_isWithin 8 = .ok (.lload_n 2, 1) := by decide +kernel
theorem dX11_isWithin_9 : decode cX11_isWithin 9 = .ok (.lcmp, 1) := by decide +kernel
theorem dX11_isWithin_10 : decode cX11_isWithin 10 = .ok (.ifCond .gt 7, 3) := by decide +kernel
theorem dX11_isWithin_13 : decode cX11_isWithin 13 = .ok (.iconst 1, 1) := by decide +kernel
theorem dX11_isWithin_14 : decode cX11_isWithin 14 = .ok (.goto 4, 3) := by decide +kernel
theorem dX11_isWithin_17 : decode cX11_isWithin 17 = .ok (.iconst 0, 1) := by decide +kernel
theorem dX11_isWithin_18 : decode cX11_isWithin 18 = .ok (.ireturn, 1) := by decide +kernel
theorem dX12_init_0 : decode cX12_init 0 = .ok (.aload_n 0, 1) := by decide +kernel
theorem dX12_init_1 : decode cX12_init 1 = .ok (.invokespecial 1, 3) := by decide +kernel
theorem dX12_init_4 : decode cX12_init 4 = .ok (.aload_n 0, 1) := by decide +kernel
theorem dX12_init_5 : decode cX12_init 5 = .ok (.iconst 1, 1) := by decide +kernel
theorem dX12_init_6 : decode cX12_init 6 = .ok (.putfield 7, 3) := by decide +kernel
theorem dX12_init_9 : decode cX12_init 9 = .ok (.aload_n 0, 1) := by decide +kernel
theorem dX12_init_10 : decode cX12_init 10 = .ok (.bipush 60, 2) := by decide +kernel
theorem dX12_init_12 : decode cX12_init 12 = .ok (.newarray .int, 2) := by decide +kernel
theorem dX12_init_14 : decode cX12_init 14 = .ok (.putfield 13, 3) := by decide +kernel
theorem dX12_init_17 : decode cX12_init 17 = .ok (.aload_n 0, 1) := by decide +kernel
theorem dX12_init_18 : decode cX12_init 18 = .ok (.bipush 60, 2) := by decide +kernel
theorem dX12_init_20 : decode cX12_init 20 = .ok (.newarray .int, 2) := by decide +kernel
theorem dX12_init_22 : decode cX12_init 22 = .ok (.putfield 17, 3) := by decide +kernel
theorem dX12_init_25 : decode cX12_init 25 = .ok (.aload_n 0, 1) := by decide +kernel
theorem dX12_init_26 : decode cX12_init 26 = .ok (.bipush 60, 2) := by decide +kernel
theorem dX12_init_28 : decode cX12_init 28 = .ok (.newarray .int, 2) := by decide +kernel
theorem dX12_init_30 : decode cX12_init 30 = .ok (.putfield 20, 3) := by decide +kernel
theorem dX12_init_33 : decode cX12_init 33 = .ok (.aload_n 0, 1) := by decide +kernel
theorem dX12_init_34 : decode cX12_init 34 = .ok (.bipush 60, 2) := by decide +kernel
theorem dX12_init_36 : decode cX12_init 36 = .ok (.newarray .boolean, 2) := by decide +kernel
theorem dX12_init_38 : decode cX12_init 38 = .ok (.putfield 23, 3) := by decide +kernel
theorem dX12_init_41 : decode cX12_init 41 = .ok (.aload_n 0, 1) := by decide +kernel
theorem dX12_init_42 : decode cX12_init 42 = .ok (.bipush 60, 2) := by decide +kernel
theorem dX12_init_44 : decode cX12_init 44 = .ok (.newarray .int, 2) := by decide +kernel
theorem dX12_init_46 : decode cX12_init 46 = .ok (.putfield 27, 3) := by decide +kernel
theorem dX12_init_49 : decode cX12_init 49 = .ok (.aload_n 0, 1) := by decide +kernel
theorem dX12_init_50 : decode cX12_init 50 = .ok (.bipush 60, 2) := by decide +kernel
theorem dX12_init_52 : decode cX12_init 52 = .ok (.newarray .boolean, 2) := by decide +kernel
theorem dX12_init_54 : decode cX12_init 54 = .ok (.putfield 30, 3) := by decide +kernel
theorem dX12_init_57 : decode cX12_init 57 = .ok (.aload_n 0, 1) := by decide +kernel
theorem dX12_init_58 : decode cX12_init 58 = .ok (.bipush 60, 2) := by decide +kernel
theorem dX12_init_60 : decode cX12_init 60 = .ok (.newarray .long, 2) := by decide +kernel
theorem dX12_init_62 : decode cX12_init 62 = .ok (.putfield 33, 3) := by decide +kernel
theorem dX12_init_65 : decode cX12_init 65 = .ok (.aload_n 0, 1) := by decide +kernel
theorem dX12_init_66 : decode cX12_init 66 = .ok (.iconst (-1), 1) := by decide +kernel
theorem dX12_init_67 : decode cX12_init 67 = .ok (.putfield 37, 3) := by decide +kernel
theorem dX12_init_70 : decode cX12_init 70 = .ok (.aload_n 0, 1) := by decide +kernel
theorem dX12_init_71 : decode cX12_init 71 = .ok (.bipush 24, 2) := by decide +kernel
theorem dX12_init_73 : decode cX12_init 73 = .ok (.newarray .int, 2) := by decide +kernel
theorem dX12_init_75 : decode cX12_init 75 = .ok (.putfield 41, 3) := by decide +kernel
theorem dX12_init_78 : decode cX12_init 78 = .ok (.aload_n 0, 1) := by decide +kernel
theorem dX12_init_79 : decode cX12_init 79 = .ok (.bipush 24, 2) := by decide +kernel
theorem dX12_init_81 : decode cX12_init 81 = .ok (.newarray .int, 2) := by decide +kernel
theorem dX12_init_83 : decode cX12_init 83 = .ok (.putfield 44, 3) := by decide +kernel
theorem dX12_init_86 : decode cX12_init 86 = .ok (.aload_n 0, 1) := by decide +kernel
theorem dX12_init_87 : decode cX12_init 87 = .ok (.sipush 400, 3) := by decide +kernel
theorem dX12_init_90 : decode cX12_init 90 = .ok (.newarray .int, 2) := by decide +kernel
theorem dX12_init_92 : decode cX12_init 92 = .ok (.putfield 47, 3) := by decide +kernel
theorem dX12_init_95 : decode cX12_init 95 = .ok (.aload_n 0, 1) := by decide +kernel
theorem dX12_init_96 : decode cX12_init 96 = .ok (.sipush 400, 3) := by decide +kernel
theorem dX12_init_99 : decode cX12_init 99 = .ok (.newarray .int, 2) := by decide +kernel
theorem dX12_init_101 : decode cX12_init 101 = .ok (.putfield 50, 3) := by decide +kernel
theorem dX12_init_104 : decode cX12_init 104 = .ok (.aload_n 0, 1) := by decide +kernel
theorem dX12_init_105 : decode cX12_init 105 = .ok (.sipush 400, 3) := by decide +kernel
theorem dX12_init_108 : decode cX12_init 108 = .ok (.newarray .int, 2) := by decide +kernel
theorem dX12_init_110 : decode cX12_init 110 = .ok (.putfield 53, 3) := by decide +kernel
theorem dX12_init_113 : decode cX12_init 113 = .ok (.aload_n 0, 1) := by decide +kernel
theorem dX12_init_114 : decode cX12_init 114 = .ok (.sipush 401, 3) := by decide +kernel
theorem dX12_init_117 : decode cX12_init 117 = .ok (.newarray .int, 2) := by decide +kernel
theorem dX12_init_119 : decode cX12_init 119 = .ok (.putfield 56, 3) := by decide +kernel
theorem dX12_init_122 : decode cX12_init 122 = .ok (.aload_n 0, 1) := by decide +kernel
theorem dX12_init_123 : decode cX12_init 123 = .ok (.sipush 400, 3) := by decide +kernel
theorem dX12_init_126 : decode cX12_init 126 = .ok (.newarray .int, 2) := by decide +kernel
theorem dX12_init_128 : decode cX12_init 128 = .ok (.putfield 59, 3) := by decide +kernel
theorem dX12_init_131 : decode cX12_init 131 = .ok (.aload_n 0, 1) := by decide +kernel
theorem dX12_init_132 : decode cX12_init 132 = .ok (.sipush 400, 3) := by decide +kernel
theorem dX12_init_135 : decode cX12_init 135 = .ok (.newarray .int, 2) := by decide +kernel
theorem dX12_init_137 : decode cX12_init 137 = .ok (.putfield 62, 3) := by decide +kernel
theorem dX12_init_140 : decode cX12_init 140 = .ok (.aload_n 0, 1) := by decide +kernel
theorem dX12_init_141 : decode cX12_init 141 = .ok (.sipush 24800, 3) := by decide +kernel
theorem dX12_init_144 : decode cX12_init 144 = .ok (.newarray .int, 2) := by decide +kernel
theorem dX12_init_146 : decode cX12_init 146 = .ok (.putfield 65, 3) := by decide +kernel
theorem dX12_init_149 : decode cX12_init 149 = .ok (.aload_n 0, 1) := by decide +kernel
theorem dX12_init_150 : decode cX12_init 150 = .ok (.sipush 24800, 3) := by decide +kernel
theorem dX12_init_153 : decode cX12_init 153 = .ok (.newarray .long, 2) := by decide +kernel
theorem dX12_init_155 : decode cX12_init 155 = .ok (.putfield 68, 3) := by decide +kernel
theorem dX12_init_158 : decode cX12_init 158 = .ok (.aload_n 0, 1) := by decide +kernel
theorem dX12_init_159 : decode cX12_init 159 = .ok (.bipush 8, 2) := by decide +kernel
theorem dX12_init_161 : decode cX12_init 161 = .ok (.newarray .int, 2) := by decide +kernel
theorem dX12_init_163 : decode cX12_init 163 = .ok (.putfield 71, 3) := by decide +kernel
theorem dX12_init_166 : decode cX12_init 166 = .ok (.aload_n 0, 1) := by decide +kernel
theorem dX12_init_167 : decode cX12_init 167 = .ok (.bipush 8, 2) := by decide +kernel
theorem dX12_init_169 : decode cX12_init 169 = .ok (.newarray .long, 2) := by decide +kernel
theorem dX12_init_171 : decode cX12_init 171 = .ok (.putfield 74, 3) := by decide +kernel
theorem dX12_init_174 : decode cX12_init 174 = .ok (.aload_n 0, 1) := by decide +kernel
theorem dX12_init_175 : decode cX12_init 175 = .ok (.bipush 64, 2) := by decide +kernel
theorem dX12_init_177 : decode cX12_init 177 = .ok (.newarray .int, 2) := by decide +kernel
theorem dX12_init_179 : decode cX12_init 179 = .ok (.putfield 77, 3) := by decide +kernel
theorem dX12_init_182 : decode cX12_init 182 = .ok (.aload_n 0, 1) := by decide +kernel
theorem dX12_init_183 : decode cX12_init 183 = .ok (.bipush 64, 2) := by decide +kernel
theorem dX12_init_185 : decode cX12_init 185 = .ok (.newarray .long, 2) := by decide +kernel
theorem dX12_init_187 : decode cX12_init 187 = .ok (.putfield 80, 3) := by decide +kernel
theorem dX12_init_190 : decode cX12_init 190 = .ok (.aload_n 0, 1) := by decide +kernel
theorem dX12_init_191 : decode cX12_init 191 = .ok (.sipush 6000, 3) := by decide +kernel
theorem dX12_init_194 : decode cX12_init 194 = .ok (.newarray .int, 2) := by decide +kernel
theorem dX12_init_196 : decode cX12_init 196 = .ok (.putfield 83, 3) := by decide +kernel
theorem dX12_init_199 : decode cX12_init 199 = .ok (.aload_n 0, 1) := by decide +kernel
theorem dX12_init_200 : decode cX12_init 200 = .ok (.sipush 300, 3) := by decide +kernel
theorem dX12_init_203 : decode cX12_init 203 = .ok (.newarray .int, 2) := by decide +kernel
theorem dX12_init_205 : decode cX12_init 205 = .ok (.putfield 86, 3) := by decide +kernel
theorem dX12_init_208 : decode cX12_init 208 = .ok (.aload_n 0, 1) := by decide +kernel
theorem dX12_init_209 : decode cX12_init 209 = .ok (.sipush 4000, 3) := by decide +kernel
theorem dX12_init_212 : decode cX12_init 212 = .ok (.newarray .int, 2) := by decide +kernel
theorem dX12_init_214 : decode cX12_init 214 = .ok (.putfield 89, 3) := by decide +kernel
theorem dX12_init_217 : decode cX12_init 217 = .ok (.aload_n 0, 1) := by decide +kernel
theorem dX12_init_218 : decode cX12_init 218 = .ok (.bipush 24, 2) := by decide +kernel
theorem dX12_init_220 : decode cX12_init 220 = .ok (.newarray .int, 2) := by decide +kernel
theorem dX12_init_222 : decode cX12_init 222 = .ok (.putfield 92, 3) := by decide +kernel
theorem dX12_init_225 : decode cX12_init 225 = .ok (.aload_n 0, 1) := by decide +kernel
theorem dX12_init_226 : decode cX12_init 226 = .ok (.bipush 8, 2) := by decide +kernel
theorem dX12_init_228 : decode cX12_init 228 = .ok (.newarray .int, 2) := by decide +kernel
theorem dX12_init_230 : decode cX12_init 230 = .ok (.putfield 95, 3) := by decide +kernel
theorem dX12_init_233 : decode cX12_init 233 = .ok (.aload_n 0, 1) := by decide +kernel
theorem dX12_init_234 : decode cX12_init 234 = .ok (.bipush 8, 2) := by decide +kernel
theorem dX12_init_236 : decode cX12_init 236 = .ok (.newarray .int, 2) := by decide +kernel
theorem dX12_init_238 : decode cX12_init 238 = .ok (.putfield 98, 3) := by decide +kernel
theorem dX12_init_241 : decode cX12_init 241 = .ok (.aload_n 0, 1) := by decide +kernel
theorem dX12_init_242 : decode cX12_init 242 = .ok (.bipush 8, 2) := by decide +kernel
theorem dX12_init_244 : decode cX12_init 244 = .ok (.newarray .long, 2) := by decide +kernel
theorem dX12_init_246 : decode cX12_init 246 = .ok (.putfield 101, 3) := by decide +kernel
theorem dX12_init_249 : decode cX12_init 249 = .ok (.aload_n 0, 1) := by decide +kernel
theorem dX12_init_250 : decode cX12_init 250 = .ok (.bipush 8, 2) := by decide +kernel
theorem dX12_init_252 : decode cX12_init 252 = .ok (.newarray .long, 2) := by decide +kernel
theorem dX12_init_254 : decode cX12_init 254 = .ok (.putfield 104, 3) := by decide +kernel
theorem dX12_init_257 : decode cX12_init 257 = .ok (.aload_n 0, 1) := by decide +kernel
theorem dX12_init_258 : decode cX12_init 258 = .ok (.bipush 8, 2) := by decide +kernel
theorem dX12_init_260 : decode cX12_init 260 = .ok (.newarray .long, 2) := by decide +kernel
theorem dX12_init_262 : decode cX12_init 262 = .ok (.putfield 107, 3) := by decide +kernel
end
section
theorem dX12_init_265 : decode cX12_init 265 = .ok (.aload_n 0, 1) := by decide +kernel
theorem dX12_init_266 : decode cX12_init 266 = .ok (.bipush 8, 2) := by decide +kernel
theorem dX12_init_268 : decode cX12_init 268 = .ok (.newarray .boolean, 2) := by decide +kernel
theorem dX12_init_270 : decode cX12_init 270 = .ok (.putfield 110, 3) := by decide +kernel
theorem dX12_init_273 : decode cX12_init 273 = .ok (.aload_n 0, 1) := by decide +kernel
theorem dX12_init_274 : decode cX12_init 274 = .ok (.getfield 56, 3) := by decide +kernel
theorem dX12_init_277 : decode cX12_init 277 = .ok (.iconst 0, 1) := by decide +kernel
theorem dX12_init_278 : decode cX12_init 278 = .ok (.iconst 0, 1) := by decide +kernel
theorem dX12_init_279 : decode cX12_init 279 = .ok (.iastore, 1) := by decide +kernel
theorem dX12_init_280 : decode cX12_init 280 = .ok (.return_, 1) := by decide +kernel
theorem dX12_in_0 : decode cX12_in 0 = .ok (.lload_n 0, 1) := by decide +kernel
theorem dX12_in_1 : decode cX12_in 1 = .ok (.lload_n 2, 1) := by decide +kernel
theorem dX12_in_2 : decode cX12_in 2 = .ok (.lcmp, 1) := by decide +kernel
theorem dX12_in_3 : decode cX12_in 3 = .ok (.ifCond .lt 14, 3) := by decide +kernel
theorem dX12_in_6 : decode cX12_in 6 = .ok (.lload_n 0, 1) := by decide +kernel
theorem dX12_in_7 : decode cX12_in 7 = .ok (.lload 4, 2) := by decide +kernel
theorem dX12_in_9 : decode cX12_in 9 = .ok (.lcmp, 1) := by decide +kernel
theorem dX12_in_10 : decode cX12_in 10 = .ok (.ifCond .gt 7, 3) := by decide +kernel
theorem dX12_in_13 : decode cX12_in 13 = .ok (.iconst 1, 1) := by decide +kernel
theorem dX12_in_14 : decode cX12_in 14 = .ok (.goto 4, 3) := by decide +kernel
theorem dX12_in_17 : decode cX12_in 17 = .ok (.iconst 0, 1) := by decide +kernel
theorem dX12_in_18 : decode cX12_in 18 = .ok (.ireturn, 1) := by decide +kernel
theorem dX12_isAccount_0 : decode cX12_isAccount 0 = .ok (.iload_n 1, 1) := by decide +kernel
theorem dX12_isAccount_1 : decode cX12_isAccount 1 = .ok (.i2l, 1) := by decide +kernel
theorem dX12_isAccount_2 : decode cX12_isAccount 2 = .ok (.lconst 0, 1) := by decide +kernel
theorem dX12_isAccount_3 : decode cX12_isAccount 3 = .ok (.aload_n 0, 1) := by decide +kernel
theorem dX12_isAccount_4 : decode cX12_isAccount 4 = .ok (.getfield 113, 3) := by decide +kernel
theorem dX12_isAccount_7 : decode cX12_isAccount 7 = .ok (.iconst 1, 1) := by decide +kernel
theorem dX12_isAccount_8 : decode cX12_isAccount 8 = .ok (.isub, 1) := by decide +kernel
theorem dX12_isAccount_9 : decode cX12_isAccount 9 = .ok (.i2l, 1) := by decide +kernel
theorem dX12_isAccount_10 : decode cX12_isAccount 10 = .ok (.invokestatic 116, 3) := by decide +kernel
theorem dX12_isAccount_13 : decode cX12_isAccount 13 = .ok (.ireturn, 1) := by decide +kernel
theorem dX12_begin_0 : decode cX12_begin 0 = .ok (.aload_n 0, 1) := by decide +kernel
theorem dX12_begin_1 : decode cX12_begin 1 = .ok (.iconst 0, 1) := by decide +kernel
theorem dX12_begin_2 : decode cX12_begin 2 = .ok (.putfield 120, 3) := by decide +kernel
theorem dX12_begin_5 : decode cX12_begin 5 = .ok (.return_, 1) := by decide +kernel
theorem dX12_say_0 : decode cX12_say 0 = .ok (.lload_n 1, 1) := by decide +kernel
theorem dX12_say_1 : decode cX12_say 1 = .ok (.lconst 0, 1) := by decide +kernel
theorem dX12_say_2 : decode cX12_say 2 = .ok (.lcmp, 1) := by decide +kernel
theorem dX12_say_3 : decode cX12_say 3 = .ok (.ifCond .ge 13, 3) := by decide +kernel
theorem dX12_say_6 : decode cX12_say 6 = .ok (.ldc2_w 123, 3) := by decide +kernel
theorem dX12_say_9 : decode cX12_say 9 = .ok (.lload_n 1, 1) := by decide +kernel
theorem dX12_say_10 : decode cX12_say 10 = .ok (.lmul, 1) := by decide +kernel
theorem dX12_say_11 : decode cX12_say 11 = .ok (.lconst 1, 1) := by decide +kernel
theorem dX12_say_12 : decode cX12_say 12 = .ok (.lsub, 1) := by decide +kernel
theorem dX12_say_13 : decode cX12_say 13 = .ok (.goto 8, 3) := by decide +kernel
theorem dX12_say_16 : decode cX12_say 16 = .ok (.ldc2_w 125, 3) := by decide +kernel
theorem dX12_say_19 : decode cX12_say 19 = .ok (.lload_n 1, 1) := by decide +kernel
theorem dX12_say_20 : decode cX12_say 20 = .ok (.lmul, 1) := by decide +kernel
theorem dX12_say_21 : decode cX12_say 21 = .ok (.lstore_n 3, 1) := by decide +kernel
theorem dX12_say_22 : decode cX12_say 22 = .ok (.lload_n 3, 1) := by decide +kernel
theorem dX12_say_23 : decode cX12_say 23 = .ok (.bipush 7, 2) := by decide +kernel
theorem dX12_say_25 : decode cX12_say 25 = .ok (.lushr, 1) := by decide +kernel
theorem dX12_say_26 : decode cX12_say 26 = .ok (.lconst 0, 1) := by decide +kernel
theorem dX12_say_27 : decode cX12_say 27 = .ok (.lcmp, 1) := by decide +kernel
theorem dX12_say_28 : decode cX12_say 28 = .ok (.ifCond .eq 40, 3) := by decide +kernel
theorem dX12_say_31 : decode cX12_say 31 = .ok (.aload_n 0, 1) := by decide +kernel
theorem dX12_say_32 : decode cX12_say 32 = .ok (.getfield 86, 3) := by decide +kernel
theorem dX12_say_35 : decode cX12_say 35 = .ok (.aload_n 0, 1) := by decide +kernel
theorem dX12_say_36 : decode cX12_say 36 = .ok (.getfield 120, 3) := by decide +kernel
theorem dX12_say_39 : decode cX12_say 39 = .ok (.lload_n 3, 1) := by decide +kernel
theorem dX12_say_40 : decode cX12_say 40 = .ok (.ldc2_w 127, 3) := by decide +kernel
theorem dX12_say_43 : decode cX12_say 43 = .ok (.land, 1) := by decide +kernel
theorem dX12_say_44 : decode cX12_say 44 = .ok (.l2i, 1) := by decide +kernel
theorem dX12_say_45 : decode cX12_say 45 = .ok (.sipush 128, 3) := by decide +kernel
theorem dX12_say_48 : decode cX12_say 48 = .ok (.ior, 1) := by decide +kernel
theorem dX12_say_49 : decode cX12_say 49 = .ok (.iastore, 1) := by decide +kernel
theorem dX12_say_50 : decode cX12_say 50 = .ok (.aload_n 0, 1) := by decide +kernel
theorem dX12_say_51 : decode cX12_say 51 = .ok (.dup, 1) := by decide +kernel
theorem dX12_say_52 : decode cX12_say 52 = .ok (.getfield 120, 3) := by decide +kernel
theorem dX12_say_55 : decode cX12_say 55 = .ok (.iconst 1, 1) := by decide +kernel
theorem dX12_say_56 : decode cX12_say 56 = .ok (.iadd, 1) := by decide +kernel
theorem dX12_say_57 : decode cX12_say 57 = .ok (.putfield 120, 3) := by decide +kernel
theorem dX12_say_60 : decode cX12_say 60 = .ok (.lload_n 3, 1) := by decide +kernel
theorem dX12_say_61 : decode cX12_say 61 = .ok (.bipush 7, 2) := by decide +kernel
theorem dX12_say_63 : decode cX12_say 63 = .ok (.lushr, 1) := by decide +kernel
theorem dX12_say_64 : decode cX12_say 64 = .ok (.lstore_n 3, 1) := by decide +kernel
theorem dX12_say_65 : decode cX12_say 65 = .ok (.goto (-43), 3) := by decide +kernel
theorem dX12_say_68 : decode cX12_say 68 = .ok (.aload_n 0, 1) := by decide +kernel
theorem dX12_say_69 : decode cX12_say 69 = .ok (.getfield 86, 3) := by decide +kernel
theorem dX12_say_72 : decode cX12_say 72 = .ok (.aload_n 0, 1) := by decide +kernel
theorem dX12_say_73 : decode cX12_say 73 = .ok (.getfield 120, 3) := by decide +kernel
theorem dX12_say_76 : decode cX12_say 76 = .ok (.lload_n 3, 1) := by decide +kernel
theorem dX12_say_77 : decode cX12_say 77 = .ok (.l2i, 1) := by decide +kernel
theorem dX12_say_78 : decode cX12_say 78 = .ok (.iastore, 1) := by decide +kernel
theorem dX12_say_79 : decode cX12_say 79 = .ok (.aload_n 0, 1) := by decide +kernel
theorem dX12_say_80 : decode cX12_say 80 = .ok (.dup, 1) := by decide +kernel
theorem dX12_say_81 : decode cX12_say 81 = .ok (.getfield 120, 3) := by decide +kernel
theorem dX12_say_84 : decode cX12_say 84 = .ok (.iconst 1, 1) := by decide +kernel
theorem dX12_say_85 : decode cX12_say 85 = .ok (.iadd, 1) := by decide +kernel
theorem dX12_say_86 : decode cX12_say 86 = .ok (.putfield 120, 3) := by decide +kernel
theorem dX12_say_89 : decode cX12_say 89 = .ok (.return_, 1) := by decide +kernel
theorem dX12_hasRoom_0 : decode cX12_hasRoom 0 = .ok (.aload_n 0, 1) := by decide +kernel
theorem dX12_hasRoom_1 : decode cX12_hasRoom 1 = .ok (.getfield 129, 3) := by decide +kernel
theorem dX12_hasRoom_4 : decode cX12_hasRoom 4 = .ok (.ifCond .ne 20, 3) := by decide +kernel
theorem dX12_hasRoom_7 : decode cX12_hasRoom 7 = .ok (.aload_n 0, 1) := by decide +kernel
theorem dX12_hasRoom_8 : decode cX12_hasRoom 8 = .ok (.getfield 132, 3) := by decide +kernel
theorem dX12_hasRoom_11 : decode cX12_hasRoom 11 = .ok (.aload_n 0, 1) := by decide +kernel
theorem dX12_hasRoom_12 : decode cX12_hasRoom 12 = .ok (.getfield 120, 3) := by decide +kernel
theorem dX12_hasRoom_15 : decode cX12_hasRoom 15 = .ok (.iadd, 1) := by decide +kernel
theorem dX12_hasRoom_16 : decode cX12_hasRoom 16 = .ok (.iconst 4, 1) := by decide +kernel
theorem dX12_hasRoom_17 : decode cX12_hasRoom 17 = .ok (.iadd, 1) := by decide +kernel
theorem dX12_hasRoom_18 : decode cX12_hasRoom 18 = .ok (.sipush 6000, 3) := by decide +kernel
theorem dX12_hasRoom_21 : decode cX12_hasRoom 21 = .ok (.if_icmp .gt 7, 3) := by decide +kernel
theorem dX12_hasRoom_24 : decode cX12_hasRoom 24 = .ok (.iconst 1, 1) := by decide +kernel
theorem dX12_hasRoom_25 : decode cX12_hasRoom 25 = .ok (.goto 4, 3) := by decide +kernel
theorem dX12_hasRoom_28 : decode cX12_hasRoom 28 = .ok (.iconst 0, 1) := by decide +kernel
theorem dX12_hasRoom_29 : decode cX12_hasRoom 29 = .ok (.ireturn, 1) := by decide +kernel
theorem dX12_checked_0 : decode cX12_checked 0 = .ok (.iload_n 0, 1) := by decide +kernel
theorem dX12_checked_1 : decode cX12_checked 1 = .ok (.iload_n 1, 1) := by decide +kernel
theorem dX12_checked_2 : decode cX12_checked 2 = .ok (.bipush 8, 2) := by decide +kernel
theorem dX12_checked_4 : decode cX12_checked 4 = .ok (.ishl, 1) := by decide +kernel
theorem dX12_checked_5 : decode cX12_checked 5 = .ok (.ixor, 1) := by decide +kernel
theorem dX12_checked_6 : decode cX12_checked 6 = .ok (.istore_n 2, 1) := by decide +kernel
theorem dX12_checked_7 : decode cX12_checked 7 = .ok (.iconst 0, 1) := by decide +kernel
theorem dX12_checked_8 : decode cX12_checked 8 = .ok (.istore_n 3, 1) := by decide +kernel
theorem dX12_checked_9 : decode cX12_checked 9 = .ok (.iload_n 3, 1) := by decide +kernel
theorem dX12_checked_10 : decode cX12_checked 10 = .ok (.bipush 8, 2) := by decide +kernel
theorem dX12_checked_12 : decode cX12_checked 12 = .ok (.if_icmp .ge 30, 3) := by decide +kernel
theorem dX12_checked_15 : decode cX12_checked 15 = .ok (.iload_n 2, 1) := by decide +kernel
theorem dX12_checked_16 : decode cX12_checked 16 = .ok (.ldc 135, 2) := by decide +kernel
theorem dX12_checked_18 : decode cX12_checked 18 = .ok (.iand, 1) := by decide +kernel
theorem dX12_checked_19 : decode cX12_checked 19 = .ok (.ifCond .eq 13, 3) := by decide +kernel
theorem dX12_checked_22 : decode cX12_checked 22 = .ok (.iload_n 2, 1) := by decide +kernel
theorem dX12_checked_23 : decode cX12_checked 23 = .ok (.iconst 1, 1) := by decide +kernel
theorem dX12_checked_24 : decode cX12_checked 24 = .ok (.ishl, 1) := by decide +kernel
theorem dX12_checked_25 : decode cX12_checked 25 = .ok (.sipush 4129, 3) := by decide +kernel
theorem dX12_checked_28 : decode cX12_checked 28 = .ok (.ixor, 1) := by decide +kernel
theorem dX12_checked_29 : decode cX12_checked 29 = .ok (.goto 6, 3) := by decide +kernel
theorem dX12_checked_32 : decode cX12_checked 32 = .ok (.iload_n 2, 1) := by decide +kernel
theorem dX12_checked_33 : decode cX12_checked 33 = .ok (.iconst 1, 1) := by decide +kernel
theorem dX12_checked_34 : decode cX12_checked 34 = .ok (.ishl, 1) := by decide +kernel
theorem dX12_checked_35 : decode cX12_checked 35 = .ok (.istore_n 2, 1) := by decide +kernel
theorem dX12_checked_36 : decode cX12_checked 36 = .ok (.iinc 3 1, 3) := by decide +kernel
theorem dX12_checked_39 : decode cX12_checked 39 = .ok (.goto (-30), 3) := by decide +kernel
theorem dX12_checked_42 : decode cX12_checked 42 = .ok (.iload_n 2, 1) := by decide +kernel
theorem dX12_checked_43 : decode cX12_checked 43 = .ok (.ldc 136, 2) := by decide +kernel
theorem dX12_checked_45 : decode cX12_checked 45 = .ok (.iand, 1) := by decide +kernel
theorem dX12_checked_46 : decode cX12_checked 46 = .ok (.ireturn, 1) := by decide +kernel
theorem dX12_append_0 : decode cX12_append 0 = .ok (.aload_n 0, 1) := by decide +kernel
theorem dX12_append_1 : decode cX12_append 1 = .ok (.getfield 83, 3) := by decide +kernel
theorem dX12_append_4 : decode cX12_append 4 = .ok (.aload_n 0, 1) := by decide +kernel
theorem dX12_append_5 : decode cX12_append 5 = .ok (.getfield 132, 3) := by decide +kernel
theorem dX12_append_8 : decode cX12_append 8 = .ok (.iload_n 1, 1) := by decide +kernel
theorem dX12_append_9 : decode cX12_append 9 = .ok (.iastore, 1) := by decide +kernel
theorem dX12_append_10 : decode cX12_append 10 = .ok (.aload_n 0, 1) := by decide +kernel
theorem dX12_append_11 : decode cX12_append 11 = .ok (.dup, 1) := by decide +kernel
theorem dX12_append_12 : decode cX12_append 12 = .ok (.getfield 132, 3) := by decide +kernel
theorem dX12_append_15 : decode cX12_append 15 = .ok (.iconst 1, 1) := by decide +kernel
theorem dX12_append_16 : decode cX12_append 16 = .ok (.iadd, 1) := by decide +kernel
theorem dX12_append_17 : decode cX12_append 17 = .ok (.putfield 132, 3) := by decide +kernel
theorem dX12_append_20 : decode cX12_append 20 = .ok (.return_, 1) := by decide +kernel
theorem dX12_write_0 : decode cX12_write 0 = .ok (.aload_n 0, 1) := by decide +kernel
theorem dX12_write_1 : decode cX12_write 1 = .ok (.dup, 1) := by decide +kernel
theorem dX12_write_2 : decode cX12_write 2 = .ok (.getfield 137, 3) := by decide +kernel
theorem dX12_write_5 : decode cX12_write 5 = .ok (.iconst 1, 1) := by decide +kernel
theorem dX12_write_6 : decode cX12_write 6 = .ok (.iadd, 1) := by decide +kernel
theorem dX12_write_7 : decode cX12_write 7 = .ok (.putfield 137, 3) := by decide +kernel
theorem dX12_write_10 : decode cX12_write 10 = .ok (.aload_n 0, 1) := by decide +kernel
theorem dX12_write_11 : decode cX12_write 11 = .ok (.getfield 129, 3) := by decide +kernel
theorem dX12_write_14 : decode cX12_write 14 = .ok (.ifCond .eq 4, 3) := by decide +kernel
theorem dX12_write_17 : decode cX12_write 17 = .ok (.return_, 1) := by decide +kernel
theorem dX12_write_18 : decode cX12_write 18 = .ok (.ldc 136, 2) := by decide +kernel
theorem dX12_write_20 : decode cX12_write 20 = .ok (.aload_n 0, 1) := by decide +kernel
theorem dX12_write_21 : decode cX12_write 21 = .ok (.getfield 120, 3) := by decide +kernel
theorem dX12_write_24 : decode cX12_write 24 = .ok (.invokestatic 140, 3) := by decide +kernel
theorem dX12_write_27 : decode cX12_write 27 = .ok (.iload_n 1, 1) := by decide +kernel
theorem dX12_write_28 : decode cX12_write 28 = .ok (.invokestatic 140, 3) := by decide +kernel
theorem dX12_write_31 : decode cX12_write 31 = .ok (.istore_n 2, 1) := by decide +kernel
theorem dX12_write_32 : decode cX12_write 32 = .ok (.aload_n 0, 1) := by decide +kernel
theorem dX12_write_33 : decode cX12_write 33 = .ok (.aload_n 0, 1) := by decide +kernel
theorem dX12_write_34 : decode cX12_write 34 = .ok (.getfield 120, 3) := by decide +kernel
theorem dX12_write_37 : decode cX12_write 37 = .ok (.invokevirtual 144, 3) := by decide +kernel
theorem dX12_write_40 : decode cX12_write 40 = .ok (.aload_n 0, 1) := by decide +kernel
theorem dX12_write_41 : decode cX12_write 41 = .ok (.iload_n 1, 1) := by decide +kernel
theorem dX12_write_42 : decode cX12_write 42 = .ok (.invokevirtual 144, 3) := by decide +kernel
theorem dX12_write_45 : decode cX12_write 45 = .ok (.iconst 0, 1) := by decide +kernel
theorem dX12_write_46 : decode cX12_write 46 = .ok (.istore_n 3, 1) := by decide +kernel
theorem dX12_write_47 : decode cX12_write 47 = .ok (.iload_n 3, 1) := by decide +kernel
theorem dX12_write_48 : decode cX12_write 48 = .ok (.aload_n 0, 1) := by decide +kernel
theorem dX12_write_49 : decode cX12_write 49 = .ok (.getfield 120, 3) := by decide +kernel
theorem dX12_write_52 : decode cX12_write 52 = .ok (.if_icmp .ge 30, 3) := by decide +kernel
theorem dX12_write_55 : decode cX12_write 55 = .ok (.aload_n 0, 1) := by decide +kernel
theorem dX12_write_56 : decode cX12_write 56 = .ok (.aload_n 0, 1) := by decide +kernel
theorem dX12_write_57 : decode cX12_write 57 = .ok (.getfield 86, 3) := by decide +kernel
theorem dX12_write_60 : decode cX12_write 60 = .ok (.iload_n 3, 1) := by decide +kernel
theorem dX12_write_61 : decode cX12_write 61 = .ok (.iaload, 1) := by decide +kernel
theorem dX12_write_62 : decode cX12_write 62 = .ok (.invokevirtual 144, 3) := by decide +kernel
theorem dX12_write_65 : decode cX12_write 65 = .ok (.iload_n 2, 1) := by decide +kernel
theorem dX12_write_66 : decode cX12_write 66 = .ok (.aload_n 0, 1) := by decide +kernel
theorem dX12_write_67 : decode cX12_write 67 = .ok (.getfield 86, 3) := by decide +kernel
theorem dX12_write_70 : decode cX12_write 70 = .ok (.iload_n 3, 1) := by decide +kernel
theorem dX12_write_71 : decode cX12_write 71 = .ok (.iaload, 1) := by decide +kernel
theorem dX12_write_72 : decode cX12_write 72 = .ok (.invokestatic 140, 3) := by decide +kernel
theorem dX12_write_75 : decode cX12_write 75 = .ok (.istore_n 2, 1) := by decide +kernel
theorem dX12_write_76 : decode cX12_write 76 = .ok (.iinc 3 1, 3) := by decide +kernel
theorem dX12_write_79 : decode cX12_write 79 = .ok (.goto (-32), 3) := by decide +kernel
theorem dX12_write_82 : decode cX12_write 82 = .ok (.aload_n 0, 1) := by decide +kernel
theorem dX12_write_83 : decode cX12_write 83 = .ok (.iload_n 2, 1) := by decide +kernel
theorem dX12_write_84 : decode cX12_write 84 = .ok (.bipush 8, 2) := by decide +kernel
theorem dX12_write_86 : decode cX12_write 86 = .ok (.ishr, 1) := by decide +kernel
theorem dX12_write_87 : decode cX12_write 87 = .ok (.invokevirtual 144, 3) := by decide +kernel
theorem dX12_write_90 : decode cX12_write 90 = .ok (.aload_n 0, 1) := by decide +kernel
theorem dX12_write_91 : decode cX12_write 91 = .ok (.iload_n 2, 1) := by decide +kernel
theorem dX12_write_92 : decode cX12_write 92 = .ok (.sipush 255, 3) := by decide +kernel
theorem dX12_write_95 : decode cX12_write 95 = .ok (.iand, 1) := by decide +kernel
theorem dX12_write_96 : decode cX12_write 96 = .ok (.invokevirtual 144, 3) := by decide +kernel
theorem dX12_write_99 : decode cX12_write 99 = .ok (.return_, 1) := by decide +kernel
theorem dX12_isTold_0 : decode cX12_isTold 0 = .ok (.iconst 0, 1) := by decide +kernel
theorem dX12_isTold_1 : decode cX12_isTold 1 = .ok (.istore_n 2, 1) := by decide +kernel
theorem dX12_isTold_2 : decode cX12_isTold 2 = .ok (.iconst 0, 1) := by decide +kernel
theorem dX12_isTold_3 : decode cX12_isTold 3 = .ok (.istore_n 3, 1) := by decide +kernel
theorem dX12_isTold_4 : decode cX12_isTold 4 = .ok (.iload_n 3, 1) := by decide +kernel
theorem dX12_isTold_5 : decode cX12_isTold 5 = .ok (.aload_n 0, 1) := by decide +kernel
theorem dX12_isTold_6 : decode cX12_isTold 6 = .ok (.getfield 113, 3) := by decide +kernel
theorem dX12_isTold_9 : decode cX12_isTold 9 = .ok (.if_icmp .ge 29, 3) := by decide +kernel
theorem dX12_isTold_12 : decode cX12_isTold 12 = .ok (.iload_n 2, 1) := by decide +kernel
theorem dX12_isTold_13 : decode cX12_isTold 13 = .ok (.ifCond .ne 13, 3) := by decide +kernel
theorem dX12_isTold_16 : decode cX12_isTold 16 = .ok (.aload_n 0, 1) := by decide +kernel
theorem dX12_isTold_17 : decode cX12_isTold 17 = .ok (.getfield 13, 3) := by decide +kernel
theorem dX12_isTold_20 : decode cX12_isTold 20 = .ok (.iload_n 3, 1) := by decide +kernel
theorem dX12_isTold_21 : decode cX12_isTold 21 = .ok (.iaload, 1) := by decide +kernel
theorem dX12_isTold_22 : decode cX12_isTold 22 = .ok (.iload_n 1, 1) := by decide +kernel
theorem dX12_isTold_23 : decode cX12_isTold 23 = .ok (.if_icmp .ne 7, 3) := by decide +kernel
theorem dX12_isTold_26 : decode cX12_isTold 26 = .ok (.iconst 1, 1) := by decide +kernel
theorem dX12_isTold_27 : decode cX12_isTold 27 = .ok (.goto 4, 3) := by decide +kernel
theorem dX12_isTold_30 : decode cX12_isTold 30 = .ok (.iconst 0, 1) := by decide +kernel
theorem dX12_isTold_31 : decode cX12_isTold 31 = .ok (.istore_n 2, 1) := by decide +kernel
theorem dX12_isTold_32 : decode cX12_isTold 32 = .ok (.iinc 3 1, 3) := by decide +kernel
theorem dX12_isTold_35 : decode cX12_isTold 35 = .ok (.goto (-31), 3) := by decide +kernel
theorem dX12_isTold_38 : decode cX12_isTold 38 = .ok (.iload_n 2, 1) := by decide +kernel
theorem dX12_isTold_39 : decode cX12_isTold 39 = .ok (.ireturn, 1) := by decide +kernel
theorem dX12_account_0 : decode cX12_account 0 = .ok (.aload_n 0, 1) := by decide +kernel
theorem dX12_account_1 : decode cX12_account 1 = .ok (.getfield 7, 3) := by decide +kernel
theorem dX12_account_4 : decode cX12_account 4 = .ok (.ifCond .ne 6, 3) := by decide +kernel
theorem dX12_account_7 : decode cX12_account 7 = .ok (.bipush (-6), 2) := by decide +kernel
theorem dX12_account_9 : decode cX12_account 9 = .ok (.ireturn, 1) := by decide +kernel
theorem dX12_account_10 : decode cX12_account 10 = .ok (.iload_n 3, 1) := by decide +kernel
theorem dX12_account_11 : decode cX12_account 11 = .ok (.iconst (-1), 1) := by decide +kernel
theorem dX12_account_12 : decode cX12_account 12 = .ok (.if_icmp .eq 14, 3) := by decide +kernel
theorem dX12_account_15 : decode cX12_account 15 = .ok (.aload_n 0, 1) := by decide +kernel
theorem dX12_account_16 : decode cX12_account 16 = .ok (.iload_n 3, 1) := by decide +kernel
theorem dX12_account_17 : decode cX12_account 17 = .ok (.invokevirtual 148, 3) := by decide +kernel
theorem dX12_account_20 : decode cX12_account 20 = .ok (.ifCond .ne 6, 3) := by decide +kernel
theorem dX12_account_23 : decode cX12_account 23 = .ok (.bipush (-2), 2) := by decide +kernel
theorem dX12_account_25 : decode cX12_account 25 = .ok (.ireturn, 1) := by decide +kernel
theorem dX12_account_26 : decode cX12_account 26 = .ok (.iload_n 1, 1) := by decide +kernel
theorem dX12_account_27 : decode cX12_account 27 = .ok (.i2l, 1) := by decide +kernel
theorem dX12_account_28 : decode cX12_account 28 = .ok (.lconst 1, 1) := by decide +kernel
theorem dX12_account_29 : decode cX12_account 29 = .ok (.ldc2_w 152, 3) := by decide +kernel
theorem dX12_account_32 : decode cX12_account 32 = .ok (.invokestatic 116, 3) := by decide +kernel
theorem dX12_account_35 : decode cX12_account 35 = .ok (.ifCond .eq 15, 3) := by decide +kernel
theorem dX12_account_38 : decode cX12_account 38 = .ok (.iload_n 2, 1) := by decide +kernel
theorem dX12_account_39 : decode cX12_account 39 = .ok (.i2l, 1) := by decide +kernel
theorem dX12_account_40 : decode cX12_account 40 = .ok (.lconst 0, 1) := by decide +kernel
theorem dX12_account_41 : decode cX12_account 41 = .ok (.ldc2_w 154, 3) := by decide +kernel
theorem dX12_account_44 : decode cX12_account 44 = .ok (.invokestatic 116, 3) := by decide +kernel
theorem dX12_account_47 : decode cX12_account 47 = .ok (.ifCond .ne 6, 3) := by decide +kernel
theorem dX12_account_50 : decode cX12_account 50 = .ok (.bipush (-3), 2) := by decide +kernel
theorem dX12_account_52 : decode cX12_account 52 = .ok (.ireturn, 1) := by decide +kernel
theorem dX12_account_53 : decode cX12_account 53 = .ok (.iload_n 3, 1) := by decide +kernel
theorem dX12_account_54 : decode cX12_account 54 = .ok (.iconst (-1), 1) := by decide +kernel
theorem dX12_account_55 : decode cX12_account 55 = .ok (.if_icmp .eq 35, 3) := by decide +kernel
theorem dX12_account_58 : decode cX12_account 58 = .ok (.aload_n 0, 1) := by decide +kernel
theorem dX12_account_59 : decode cX12_account 59 = .ok (.getfield 23, 3) := by decide +kernel
theorem dX12_account_62 : decode cX12_account 62 = .ok (.iload_n 3, 1) := by decide +kernel
theorem dX12_account_63 : decode cX12_account 63 = .ok (.baload, 1) := by decide +kernel
theorem dX12_account_64 : decode cX12_account 64 = .ok (.ifCond .eq 23, 3) := by decide +kernel
theorem dX12_account_67 : decode cX12_account 67 = .ok (.aload_n 0, 1) := by decide +kernel
theorem dX12_account_68 : decode cX12_account 68 = .ok (.getfield 17, 3) := by decide +kernel
theorem dX12_account_71 : decode cX12_account 71 = .ok (.iload_n 3, 1) := by decide +kernel
theorem dX12_account_72 : decode cX12_account 72 = .ok (.iaload, 1) := by decide +kernel
theorem dX12_account_73 : decode cX12_account 73 = .ok (.iload_n 2, 1) := by decide +kernel
theorem dX12_account_74 : decode cX12_account 74 = .ok (.if_icmp .ne 13, 3) := by decide +kernel
theorem dX12_account_77 : decode cX12_account 77 = .ok (.aload_n 0, 1) := by decide +kernel
theorem dX12_account_78 : decode cX12_account 78 = .ok (.getfield 27, 3) := by decide +kernel
theorem dX12_account_81 : decode cX12_account 81 = .ok (.iload_n 3, 1) := by decide +kernel
theorem dX12_account_82 : decode cX12_account 82 = .ok (.iaload, 1) := by decide +kernel
theorem dX12_account_83 : decode cX12_account 83 = .ok (.iconst 5, 1) := by decide +kernel
theorem dX12_account_84 : decode cX12_account 84 = .ok (.if_icmp .ne 6, 3) := by decide +kernel
theorem dX12_account_87 : decode cX12_account 87 = .ok (.bipush (-4), 2) := by decide +kernel
theorem dX12_account_89 : decode cX12_account 89 = .ok (.ireturn, 1) := by decide +kernel
theorem dX12_account_90 : decode cX12_account 90 = .ok (.aload_n 0, 1) := by decide +kernel
theorem dX12_account_91 : decode cX12_account 91 = .ok (.iload_n 1, 1) := by decide +kernel
theorem dX12_account_92 : decode cX12_account 92 = .ok (.invokevirtual 156, 3) := by decide +kernel
theorem dX12_account_95 : decode cX12_account 95 = .ok (.ifCond .eq 6, 3) := by decide +kernel
theorem dX12_account_98 : decode cX12_account 98 = .ok (.bipush (-5), 2) := by decide +kernel
theorem dX12_account_100 : decode cX12_account 100 = .ok (.ireturn, 1) := by decide +kernel
theorem dX12_account_101 : decode cX12_account 101 = .ok (.aload_n 0, 1) := by decide +kernel
theorem dX12_account_102 : decode cX12_account 102 = .ok (.invokevirtual 159, 3) := by decide +kernel
theorem dX12_account_105 : decode cX12_account 105 = .ok (.aload_n 0, 1) := by decide +kernel
theorem dX12_account_106 : decode cX12_account 106 = .ok (.iload_n 1, 1) := by decide +kernel
theorem dX12_account_107 : decode cX12_account 107 = .ok (.i2l, 1) := by decide +kernel
theorem dX12_account_108 : decode cX12_account 108 = .ok (.invokevirtual 162, 3) := by decide +kernel
theorem dX12_account_111 : decode cX12_account 111 = .ok (.aload_n 0, 1) := by decide +kernel
theorem dX12_account_112 : decode cX12_account 112 = .ok (.iload_n 2, 1) := by decide +kernel
theorem dX12_account_113 : decode cX12_account 113 = .ok (.i2l, 1) := by decide +kernel
theorem dX12_account_114 : decode cX12_account 114 = .ok (.invokevirtual 162, 3) := by decide +kernel
theorem dX12_account_117 : decode cX12_account 117 = .ok (.aload_n 0, 1) := by decide +kernel
theorem dX12_account_118 : decode cX12_account 118 = .ok (.iload_n 3, 1) := by decide +kernel
theorem dX12_account_119 : decode cX12_account 119 = .ok (.i2l, 1) := by decide +kernel
theorem dX12_account_120 : decode cX12_account 120 = .ok (.invokevirtual 162, 3) := by decide +kernel
theorem dX12_account_123 : decode cX12_account 123 = .ok (.aload_n 0, 1) := by decide +kernel
theorem dX12_account_124 : decode cX12_account 124 = .ok (.iload 4, 2) := by decide +kernel
theorem dX12_account_126 : decode cX12_account 126 = .ok (.ifCond .eq 7, 3) := by decide +kernel
theorem dX12_account_129 : decode cX12_account 129 = .ok (.lconst 1, 1) := by decide +kernel
theorem dX12_account_130 : decode cX12_account 130 = .ok (.goto 4, 3) := by decide +kernel
theorem dX12_account_133 : decode cX12_account 133 = .ok (.lconst 0, 1) := by decide +kernel
theorem dX12_account_134 : decode cX12_account 134 = .ok (.invokevirtual 162, 3) := by decide +kernel
theorem dX12_account_137 : decode cX12_account 137 = .ok (.aload_n 0, 1) := by decide +kernel
theorem dX12_account_138 : decode cX12_account 138 = .ok (.getfield 113, 3) := by decide +kernel
theorem dX12_account_141 : decode cX12_account 141 = .ok (.bipush 60, 2) := by decide +kernel
theorem dX12_account_143 : decode cX12_account 143 = .ok (.if_icmp .eq 10, 3) := by decide +kernel
theorem dX12_account_146 : decode cX12_account 146 = .ok (.aload_n 0, 1) := by decide +kernel
theorem dX12_account_147 : decode cX12_account 147 = .ok (.invokevirtual 166, 3) := by decide +kernel
theorem dX12_account_150 : decode cX12_account 150 = .ok (.ifCond .ne 6, 3) := by decide +kernel
theorem dX12_account_153 : decode cX12_account 153 = .ok (.bipush (-13), 2) := by decide +kernel
theorem dX12_account_155 : decode cX12_account 155 = .ok (.ireturn, 1) := by decide +kernel
theorem dX12_account_156 : decode cX12_account 156 = .ok (.aload_n 0, 1) := by decide +kernel
theorem dX12_account_157 : decode cX12_account 157 = .ok (.getfield 113, 3) := by decide +kernel
theorem dX12_account_160 : decode cX12_account 160 = .ok (.istore 5, 2) := by decide +kernel
theorem dX12_account_162 : decode cX12_account 162 = .ok (.aload_n 0, 1) := by decide +kernel
theorem dX12_account_163 : decode cX12_account 163 = .ok (.getfield 13, 3) := by decide +kernel
theorem dX12_account_166 : decode cX12_account 166 = .ok (.iload 5, 2) := by decide +kernel
theorem dX12_account_168 : decode cX12_account 168 = .ok (.iload_n 1, 1) := by decide +kernel
theorem dX12_account_169 : decode cX12_account 169 = .ok (.iastore, 1) := by decide +kernel
theorem dX12_account_170 : decode cX12_account 170 = .ok (.aload_n 0, 1) := by decide +kernel
theorem dX12_account_171 : decode cX12_account 171 = .ok (.getfield 17, 3) := by decide +kernel
theorem dX12_account_174 : decode cX12_account 174 = .ok (.iload 5, 2) := by decide +kernel
theorem dX12_account_176 : decode cX12_account 176 = .ok (.iload_n 2, 1) := by decide +kernel
theorem dX12_account_177 : decode cX12_account 177 = .ok (.iastore, 1) := by decide +kernel
theorem dX12_account_178 : decode cX12_account 178 = .ok (.aload_n 0, 1) := by decide +kernel
theorem dX12_account_179 : decode cX12_account 179 = .ok (.getfield 20, 3) := by decide +kernel
theorem dX12_account_182 : decode cX12_account 182 = .ok (.iload 5, 2) := by decide +kernel
theorem dX12_account_184 : decode cX12_account 184 = .ok (.iload_n 3, 1) := by decide +kernel
theorem dX12_account_185 : decode cX12_account 185 = .ok (.iastore, 1) := by decide +kernel
theorem dX12_account_186 : decode cX12_account 186 = .ok (.aload_n 0, 1) := by decide +kernel
theorem dX12_account_187 : decode cX12_account 187 = .ok (.getfield 23, 3) := by decide +kernel
theorem dX12_account_190 : decode cX12_account 190 = .ok (.iload 5, 2) := by decide +kernel
theorem dX12_account_192 : decode cX12_account 192 = .ok (.iload 4, 2) := by decide +kernel
theorem dX12_account_194 : decode cX12_account 194 = .ok (.bastore, 1) := by decide +kernel
theorem dX12_account_195 : decode cX12_account 195 = .ok (.aload_n 0, 1) := by decide +kernel
theorem dX12_account_196 : decode cX12_account 196 = .ok (.getfield 27, 3) := by decide +kernel
theorem dX12_account_199 : decode cX12_account 199 = .ok (.iload 5, 2) := by decide +kernel
theorem dX12_account_201 : decode cX12_account 201 = .ok (.iload_n 3, 1) := by decide +kernel
theorem dX12_account_202 : decode cX12_account 202 = .ok (.iconst (-1), 1) := by decide +kernel
theorem dX12_account_203 : decode cX12_account 203 = .ok (.if_icmp .ne 7, 3) := by decide +kernel
theorem dX12_account_206 : decode cX12_account 206 = .ok (.iconst 0, 1) := by decide +kernel
theorem dX12_account_207 : decode cX12_account 207 = .ok (.goto 11, 3) := by decide +kernel
theorem dX12_account_210 : decode cX12_account 210 = .ok (.aload_n 0, 1) := by decide +kernel
theorem dX12_account_211 : decode cX12_account 211 = .ok (.getfield 27, 3) := by decide +kernel
theorem dX12_account_214 : decode cX12_account 214 = .ok (.iload_n 3, 1) := by decide +kernel
theorem dX12_account_215 : decode cX12_account 215 = .ok (.iaload, 1) := by decide +kernel
theorem dX12_account_216 : decode cX12_account 216 = .ok (.iconst 1, 1) := by decide +kernel
theorem dX12_account_217 : decode cX12_account 217 = .ok (.iadd, 1) := by decide +kernel
theorem dX12_account_218 : decode cX12_account 218 = .ok (.iastore, 1) := by decide +kernel
theorem dX12_account_219 : decode cX12_account 219 = .ok (.aload_n 0, 1) := by decide +kernel
theorem dX12_account_220 : decode cX12_account 220 = .ok (.getfield 30, 3) := by decide +kernel
theorem dX12_account_223 : decode cX12_account 223 = .ok (.iload 5, 2) := by decide +kernel
theorem dX12_account_225 : decode cX12_account 225 = .ok (.iconst 0, 1) := by decide +kernel
theorem dX12_account_226 : decode cX12_account 226 = .ok (.bastore, 1) := by decide +kernel
theorem dX12_account_227 : decode cX12_account 227 = .ok (.aload_n 0, 1) := by decide +kernel
theorem dX12_account_228 : decode cX12_account 228 = .ok (.getfield 33, 3) := by decide +kernel
theorem dX12_account_231 : decode cX12_account 231 = .ok (.iload 5, 2) := by decide +kernel
theorem dX12_account_233 : decode cX12_account 233 = .ok (.lconst 0, 1) := by decide +kernel
theorem dX12_account_234 : decode cX12_account 234 = .ok (.lastore, 1) := by decide +kernel
theorem dX12_account_235 : decode cX12_account 235 = .ok (.aload_n 0, 1) := by decide +kernel
theorem dX12_account_236 : decode cX12_account 236 = .ok (.dup, 1) := by decide +kernel
theorem dX12_account_237 : decode cX12_account 237 = .ok (.getfield 113, 3) := by decide +kernel
theorem dX12_account_240 : decode cX12_account 240 = .ok (.iconst 1, 1) := by decide +kernel
theorem dX12_account_241 : decode cX12_account 241 = .ok (.iadd, 1) := by decide +kernel
theorem dX12_account_242 : decode cX12_account 242 = .ok (.putfield 113, 3) := by decide +kernel
theorem dX12_account_245 : decode cX12_account 245 = .ok (.aload_n 0, 1) := by decide +kernel
theorem dX12_account_246 : decode cX12_account 246 = .ok (.iconst 1, 1) := by decide +kernel
theorem dX12_account_247 : decode cX12_account 247 = .ok (.invokevirtual 170, 3) := by decide +kernel
theorem dX12_account_250 : decode cX12_account 250 = .ok (.iload 5, 2) := by decide +kernel
theorem dX12_account_252 : decode cX12_account 252 = .ok (.ireturn, 1) := by decide +kernel
theorem dX12_shut_0 : decode cX12_shut 0 = .ok (.aload_n 0, 1) := by decide +kernel
theorem dX12_shut_1 : decode cX12_shut 1 = .ok (.getfield 7, 3) := by decide +kernel
theorem dX12_shut_4 : decode cX12_shut 4 = .ok (.ifCond .ne 6, 3) := by decide +kernel
theorem dX12_shut_7 : decode cX12_shut 7 = .ok (.bipush (-6), 2) := by decide +kernel
theorem dX12_shut_9 : decode cX12_shut 9 = .ok (.ireturn, 1) := by decide +kernel
theorem dX12_shut_10 : decode cX12_shut 10 = .ok (.aload_n 0, 1) := by decide +kernel
theorem dX12_shut_11 : decode cX12_shut 11 = .ok (.iload_n 1, 1) := by decide +kernel
theorem dX12_shut_12 : decode cX12_shut 12 = .ok (.invokevirtual 148, 3) := by decide +kernel
theorem dX12_shut_15 : decode cX12_shut 15 = .ok (.ifCond .ne 6, 3) := by decide +kernel
theorem dX12_shut_18 : decode cX12_shut 18 = .ok (.bipush (-2), 2) := by decide +kernel
theorem dX12_shut_20 : decode cX12_shut 20 = .ok (.ireturn, 1) := by decide +kernel
theorem dX12_shut_21 : decode cX12_shut 21 = .ok (.aload_n 0, 1) := by decide +kernel
theorem dX12_shut_22 : decode cX12_shut 22 = .ok (.getfield 23, 3) := by decide +kernel
theorem dX12_shut_25 : decode cX12_shut 25 = .ok (.iload_n 1, 1) := by decide +kernel
theorem dX12_shut_26 : decode cX12_shut 26 = .ok (.baload, 1) := by decide +kernel
theorem dX12_shut_27 : decode cX12_shut 27 = .ok (.ifCond .eq 6, 3) := by decide +kernel
theorem dX12_shut_30 : decode cX12_shut 30 = .ok (.bipush (-4), 2) := by decide +kernel
theorem dX12_shut_32 : decode cX12_shut 32 = .ok (.ireturn, 1) := by decide +kernel
theorem dX12_shut_33 : decode cX12_shut 33 = .ok (.aload_n 0, 1) := by decide +kernel
theorem dX12_shut_34 : decode cX12_shut 34 = .ok (.getfield 30, 3) := by decide +kernel
theorem dX12_shut_37 : decode cX12_shut 37 = .ok (.iload_n 1, 1) := by decide +kernel
theorem dX12_shut_38 : decode cX12_shut 38 = .ok (.baload, 1) := by decide +kernel
theorem dX12_shut_39 : decode cX12_shut 39 = .ok (.iload_n 2, 1) := by decide +kernel
theorem dX12_shut_40 : decode cX12_shut 40 = .ok (.if_icmp .ne 6, 3) := by decide +kernel
theorem dX12_shut_43 : decode cX12_shut 43 = .ok (.bipush (-6), 2) := by decide +kernel
theorem dX12_shut_45 : decode cX12_shut 45 = .ok (.ireturn, 1) := by decide +kernel
theorem dX12_shut_46 : decode cX12_shut 46 = .ok (.aload_n 0, 1) := by decide +kernel
theorem dX12_shut_47 : decode cX12_shut 47 = .ok (.invokevirtual 159, 3) := by decide +kernel
theorem dX12_shut_50 : decode cX12_shut 50 = .ok (.aload_n 0, 1) := by decide +kernel
theorem dX12_shut_51 : decode cX12_shut 51 = .ok (.iload_n 1, 1) := by decide +kernel
theorem dX12_shut_52 : decode cX12_shut 52 = .ok (.i2l, 1) := by decide +kernel
theorem dX12_shut_53 : decode cX12_shut 53 = .ok (.invokevirtual 162, 3) := by decide +kernel
theorem dX12_shut_56 : decode cX12_shut 56 = .ok (.aload_n 0, 1) := by decide +kernel
theorem dX12_shut_57 : decode cX12_shut 57 = .ok (.iload_n 2, 1) := by decide +kernel
theorem dX12_shut_58 : decode cX12_shut 58 = .ok (.ifCond .eq 7, 3) := by decide +kernel
theorem dX12_shut_61 : decode cX12_shut 61 = .ok (.lconst 1, 1) := by decide +kernel
theorem dX12_shut_62 : decode cX12_shut 62 = .ok (.goto 4, 3) := by decide +kernel
theorem dX12_shut_65 : decode cX12_shut 65 = .ok (.lconst 0, 1) := by decide +kernel
theorem dX12_shut_66 : decode cX12_shut 66 = .ok (.invokevirtual 162, 3) := by decide +kernel
theorem dX12_shut_69 : decode cX12_shut 69 = .ok (.aload_n 0, 1) := by decide +kernel
theorem dX12_shut_70 : decode cX12_shut 70 = .ok (.invokevirtual 166, 3) := by decide +kernel
theorem dX12_shut_73 : decode cX12_shut 73 = .ok (.ifCond .ne 6, 3) := by decide +kernel
theorem dX12_shut_76 : decode cX12_shut 76 = .ok (.bipush (-13), 2) := by decide +kernel
theorem dX12_shut_78 : decode cX12_shut 78 = .ok (.ireturn, 1) := by decide +kernel
theorem dX12_shut_79 : decode cX12_shut 79 = .ok (.aload_n 0, 1) := by decide +kernel
theorem dX12_shut_80 : decode cX12_shut 80 = .ok (.getfield 30, 3) := by decide +kernel
theorem dX12_shut_83 : decode cX12_shut 83 = .ok (.iload_n 1, 1) := by decide +kernel
theorem dX12_shut_84 : decode cX12_shut 84 = .ok (.iload_n 2, 1) := by decide +kernel
theorem dX12_shut_85 : decode cX12_shut 85 = .ok (.bastore, 1) := by decide +kernel
theorem dX12_shut_86 : decode cX12_shut 86 = .ok (.aload_n 0, 1) := by decide +kernel
theorem dX12_shut_87 : decode cX12_shut 87 = .ok (.iconst 2, 1) := by decide +kernel
theorem dX12_shut_88 : decode cX12_shut 88 = .ok (.invokevirtual 170, 3) := by decide +kernel
theorem dX12_shut_91 : decode cX12_shut 91 = .ok (.iload_n 2, 1) := by decide +kernel
theorem dX12_shut_92 : decode cX12_shut 92 = .ok (.ifCond .eq 7, 3) := by decide +kernel
theorem dX12_shut_95 : decode cX12_shut 95 = .ok (.iconst 0, 1) := by decide +kernel
theorem dX12_shut_96 : decode cX12_shut 96 = .ok (.goto 4, 3) := by decide +kernel
theorem dX12_shut_99 : decode cX12_shut 99 = .ok (.iconst 1, 1) := by decide +kernel
theorem dX12_shut_100 : decode cX12_shut 100 = .ok (.ireturn, 1) := by decide +kernel
theorem dX12_firstDay_0 : decode cX12_firstDay 0 = .ok (.iload_n 1, 1) := by decide +kernel
theorem dX12_firstDay_1 : decode cX12_firstDay 1 = .ok (.ifCond .ne 7, 3) := by decide +kernel
theorem dX12_firstDay_4 : decode cX12_firstDay 4 = .ok (.iconst 0, 1) := by decide +kernel
theorem dX12_firstDay_5 : decode cX12_firstDay 5 = .ok (.goto 13, 3) := by decide +kernel
theorem dX12_firstDay_8 : decode cX12_firstDay 8 = .ok (.aload_n 0, 1) := by decide +kernel
theorem dX12_firstDay_9 : decode cX12_firstDay 9 = .ok (.getfield 41, 3) := by decide +kernel
theorem dX12_firstDay_12 : decode cX12_firstDay 12 = .ok (.iload_n 1, 1) := by decide +kernel
theorem dX12_firstDay_13 : decode cX12_firstDay 13 = .ok (.iconst 1, 1) := by decide +kernel
theorem dX12_firstDay_14 : decode cX12_firstDay 14 = .ok (.isub, 1) := by decide +kernel
theorem dX12_firstDay_15 : decode cX12_firstDay 15 = .ok (.iaload, 1) := by decide +kernel
theorem dX12_firstDay_16 : decode cX12_firstDay 16 = .ok (.iconst 1, 1) := by decide +kernel
theorem dX12_firstDay_17 : decode cX12_firstDay 17 = .ok (.iadd, 1) := by decide +kernel
theorem dX12_firstDay_18 : decode cX12_firstDay 18 = .ok (.ireturn, 1) := by decide +kernel
theorem dX12_period_0 : decode cX12_period 0 = .ok (.aload_n 0, 1) := by decide +kernel
theorem dX12_period_1 : decode cX12_period 1 = .ok (.getfield 7, 3) := by decide +kernel
theorem dX12_period_4 : decode cX12_period 4 = .ok (.ifCond .ne 6, 3) := by decide +kernel
theorem dX12_period_7 : decode cX12_period 7 = .ok (.bipush (-6), 2) := by decide +kernel
theorem dX12_period_9 : decode cX12_period 9 = .ok (.ireturn, 1) := by decide +kernel
theorem dX12_period_10 : decode cX12_period 10 = .ok (.iload_n 1, 1) := by decide +kernel
theorem dX12_period_11 : decode cX12_period 11 = .ok (.i2l, 1) := by decide +kernel
theorem dX12_period_12 : decode cX12_period 12 = .ok (.aload_n 0, 1) := by decide +kernel
theorem dX12_period_13 : decode cX12_period 13 = .ok (.aload_n 0, 1) := by decide +kernel
theorem dX12_period_14 : decode cX12_period 14 = .ok (.getfield 173, 3) := by decide +kernel
theorem dX12_period_17 : decode cX12_period 17 = .ok (.invokevirtual 176, 3) := by decide +kernel
theorem dX12_period_20 : decode cX12_period 20 = .ok (.i2l, 1) := by decide +kernel
theorem dX12_period_21 : decode cX12_period 21 = .ok (.ldc2_w 152, 3) := by decide +kernel
theorem dX12_period_24 : decode cX12_period 24 = .ok (.invokestatic 116, 3) := by decide +kernel
theorem dX12_period_27 : decode cX12_period 27 = .ok (.ifCond .ne 6, 3) := by decide +kernel
theorem dX12_period_30 : decode cX12_period 30 = .ok (.bipush (-3), 2) := by decide +kernel
theorem dX12_period_32 : decode cX12_period 32 = .ok (.ireturn, 1) := by decide +kernel
theorem dX12_period_33 : decode cX12_period 33 = .ok (.aload_n 0, 1) := by decide +kernel
theorem dX12_period_34 : decode cX12_period 34 = .ok (.invokevirtual 159, 3) := by decide +kernel
theorem dX12_period_37 : decode cX12_period 37 = .ok (.aload_n 0, 1) := by decide +kernel
theorem dX12_period_38 : decode cX12_period 38 = .ok (.iload_n 1, 1) := by decide +kernel
theorem dX12_period_39 : decode cX12_period 39 = .ok (.i2l, 1) := by decide +kernel
theorem dX12_period_40 : decode cX12_period 40 = .ok (.invokevirtual 162, 3) := by decide +kernel
theorem dX12_period_43 : decode cX12_period 43 = .ok (.aload_n 0, 1) := by decide +kernel
theorem dX12_period_44 : decode cX12_period 44 = .ok (.getfield 173, 3) := by decide +kernel
theorem dX12_period_47 : decode cX12_period 47 = .ok (.bipush 24, 2) := by decide +kernel
theorem dX12_period_49 : decode cX12_period 49 = .ok (.if_icmp .eq 10, 3) := by decide +kernel
theorem dX12_period_52 : decode cX12_period 52 = .ok (.aload_n 0, 1) := by decide +kernel
theorem dX12_period_53 : decode cX12_period 53 = .ok (.invokevirtual 166, 3) := by decide +kernel
theorem dX12_period_56 : decode cX12_period 56 = .ok (.ifCond .ne 6, 3) := by decide +kernel
theorem dX12_period_59 : decode cX12_period 59 = .ok (.bipush (-13), 2) := by decide +kernel
theorem dX12_period_61 : decode cX12_period 61 = .ok (.ireturn, 1) := by decide +kernel
theorem dX12_period_62 : decode cX12_period 62 = .ok (.aload_n 0, 1) := by decide +kernel
theorem dX12_period_63 : decode cX12_period 63 = .ok (.getfield 41, 3) := by decide +kernel
theorem dX12_period_66 : decode cX12_period 66 = .ok (.aload_n 0, 1) := by decide +kernel
theorem dX12_period_67 : decode cX12_period 67 = .ok (.getfield 173, 3) := by decide +kernel
theorem dX12_period_70 : decode cX12_period 70 = .ok (.iload_n 1, 1) := by decide +kernel
theorem dX12_period_71 : decode cX12_period 71 = .ok (.iastore, 1) := by decide +kernel
theorem dX12_period_72 : decode cX12_period 72 = .ok (.aload_n 0, 1) := by decide +kernel
theorem dX12_period_73 : decode cX12_period 73 = .ok (.getfield 44, 3) := by decide +kernel
theorem dX12_period_76 : decode cX12_period 76 = .ok (.aload_n 0, 1) := by decide +kernel
theorem dX12_period_77 : decode cX12_period 77 = .ok (.getfield 173, 3) := by decide +kernel
theorem dX12_period_80 : decode cX12_period 80 = .ok (.iconst (-1), 1) := by decide +kernel
theorem dX12_period_81 : decode cX12_period 81 = .ok (.iastore, 1) := by decide +kernel
theorem dX12_period_82 : decode cX12_period 82 = .ok (.aload_n 0, 1) := by decide +kernel
theorem dX12_period_83 : decode cX12_period 83 = .ok (.dup, 1) := by decide +kernel
theorem dX12_period_84 : decode cX12_period 84 = .ok (.getfield 173, 3) := by decide +kernel
theorem dX12_period_87 : decode cX12_period 87 = .ok (.iconst 1, 1) := by decide +kernel
theorem dX12_period_88 : decode cX12_period 88 = .ok (.iadd, 1) := by decide +kernel
theorem dX12_period_89 : decode cX12_period 89 = .ok (.putfield 173, 3) := by decide +kernel
theorem dX12_period_92 : decode cX12_period 92 = .ok (.aload_n 0, 1) := by decide +kernel
theorem dX12_period_93 : decode cX12_period 93 = .ok (.iconst 3, 1) := by decide +kernel
theorem dX12_period_94 : decode cX12_period 94 = .ok (.invokevirtual 170, 3) := by decide +kernel
theorem dX12_period_97 : decode cX12_period 97 = .ok (.aload_n 0, 1) := by decide +kernel
theorem dX12_period_98 : decode cX12_period 98 = .ok (.getfield 173, 3) := by decide +kernel
theorem dX12_period_101 : decode cX12_period 101 = .ok (.iconst 1, 1) := by decide +kernel
theorem dX12_period_102 : decode cX12_period 102 = .ok (.isub, 1) := by decide +kernel
theorem dX12_period_103 : decode cX12_period 103 = .ok (.ireturn, 1) := by decide +kernel
theorem dX12_owner_0 : decode cX12_owner 0 = .ok (.aload_n 0, 1) := by decide +kernel
theorem dX12_owner_1 : decode cX12_owner 1 = .ok (.getfield 7, 3) := by decide +kernel
theorem dX12_owner_4 : decode cX12_owner 4 = .ok (.ifCond .ne 6, 3) := by decide +kernel
theorem dX12_owner_7 : decode cX12_owner 7 = .ok (.bipush (-6), 2) := by decide +kernel
theorem dX12_owner_9 : decode cX12_owner 9 = .ok (.ireturn, 1) := by decide +kernel
theorem dX12_owner_10 : decode cX12_owner 10 = .ok (.aload_n 0, 1) := by decide +kernel
theorem dX12_owner_11 : decode cX12_owner 11 = .ok (.iload_n 1, 1) := by decide +kernel
theorem dX12_owner_12 : decode cX12_owner 12 = .ok (.invokevirtual 148, 3) := by decide +kernel
theorem dX12_owner_15 : decode cX12_owner 15 = .ok (.ifCond .ne 6, 3) := by decide +kernel
theorem dX12_owner_18 : decode cX12_owner 18 = .ok (.bipush (-2), 2) := by decide +kernel
theorem dX12_owner_20 : decode cX12_owner 20 = .ok (.ireturn, 1) := by decide +kernel
theorem dX12_owner_21 : decode cX12_owner 21 = .ok (.aload_n 0, 1) := by decide +kernel
theorem dX12_owner_22 : decode cX12_owner 22 = .ok (.getfield 23, 3) := by decide +kernel
theorem dX12_owner_25 : decode cX12_owner 25 = .ok (.iload_n 1, 1) := by decide +kernel
theorem dX12_owner_26 : decode cX12_owner 26 = .ok (.baload, 1) := by decide +kernel
theorem dX12_owner_27 : decode cX12_owner 27 = .ok (.ifCond .ne 13, 3) := by decide +kernel
theorem dX12_owner_30 : decode cX12_owner 30 = .ok (.aload_n 0, 1) := by decide +kernel
theorem dX12_owner_31 : decode cX12_owner 31 = .ok (.getfield 17, 3) := by decide +kernel
theorem dX12_owner_34 : decode cX12_owner 34 = .ok (.iload_n 1, 1) := by decide +kernel
theorem dX12_owner_35 : decode cX12_owner 35 = .ok (.iaload, 1) := by decide +kernel
theorem dX12_owner_36 : decode cX12_owner 36 = .ok (.iconst 2, 1) := by decide +kernel
theorem dX12_owner_37 : decode cX12_owner 37 = .ok (.if_icmp .eq 6, 3) := by decide +kernel
theorem dX12_owner_40 : decode cX12_owner 40 = .ok (.bipush (-4), 2) := by decide +kernel
theorem dX12_owner_42 : decode cX12_owner 42 = .ok (.ireturn, 1) := by decide +kernel
theorem dX12_owner_43 : decode cX12_owner 43 = .ok (.aload_n 0, 1) := by decide +kernel
theorem dX12_owner_44 : decode cX12_owner 44 = .ok (.invokevirtual 159, 3) := by decide +kernel
theorem dX12_owner_47 : decode cX12_owner 47 = .ok (.aload_n 0, 1) := by decide +kernel
theorem dX12_owner_48 : decode cX12_owner 48 = .ok (.iload_n 1, 1) := by decide +kernel
theorem dX12_owner_49 : decode cX12_owner 49 = .ok (.i2l, 1) := by decide +kernel
theorem dX12_owner_50 : decode cX12_owner 50 = .ok (.invokevirtual 162, 3) := by decide +kernel
theorem dX12_owner_53 : decode cX12_owner 53 = .ok (.aload_n 0, 1) := by decide +kernel
theorem dX12_owner_54 : decode cX12_owner 54 = .ok (.invokevirtual 166, 3) := by decide +kernel
theorem dX12_owner_57 : decode cX12_owner 57 = .ok (.ifCond .ne 6, 3) := by decide +kernel
theorem dX12_owner_60 : decode cX12_owner 60 = .ok (.bipush (-13), 2) := by decide +kernel
theorem dX12_owner_62 : decode cX12_owner 62 = .ok (.ireturn, 1) := by decide +kernel
theorem dX12_owner_63 : decode cX12_owner 63 = .ok (.aload_n 0, 1) := by decide +kernel
theorem dX12_owner_64 : decode cX12_owner 64 = .ok (.getfield 37, 3) := by decide +kernel
theorem dX12_owner_67 : decode cX12_owner 67 = .ok (.istore_n 2, 1) := by decide +kernel
theorem dX12_owner_68 : decode cX12_owner 68 = .ok (.aload_n 0, 1) := by decide +kernel
theorem dX12_owner_69 : decode cX12_owner 69 = .ok (.iload_n 1, 1) := by decide +kernel
theorem dX12_owner_70 : decode cX12_owner 70 = .ok (.putfield 37, 3) := by decide +kernel
theorem dX12_owner_73 : decode cX12_owner 73 = .ok (.aload_n 0, 1) := by decide +kernel
theorem dX12_owner_74 : decode cX12_owner 74 = .ok (.iconst 4, 1) := by decide +kernel
theorem dX12_owner_75 : decode cX12_owner 75 = .ok (.invokevirtual 170, 3) := by decide +kernel
theorem dX12_owner_78 : decode cX12_owner 78 = .ok (.iload_n 2, 1) := by decide +kernel
theorem dX12_owner_79 : decode cX12_owner 79 = .ok (.ireturn, 1) := by decide +kernel
theorem dX12_line_0 : decode cX12_line 0 = .ok (.aload_n 0, 1) := by decide +kernel
theorem dX12_line_1 : decode cX12_line 1 = .ok (.getfield 7, 3) := by decide +kernel
theorem dX12_line_4 : decode cX12_line 4 = .ok (.ifCond .ne 6, 3) := by decide +kernel
theorem dX12_line_7 : decode cX12_line 7 = .ok (.bipush (-6), 2) := by decide +kernel
theorem dX12_line_9 : decode cX12_line 9 = .ok (.ireturn, 1) := by decide +kernel
theorem dX12_line_10 : decode cX12_line 10 = .ok (.aload_n 0, 1) := by decide +kernel
theorem dX12_line_11 : decode cX12_line 11 = .ok (.iload_n 1, 1) := by decide +kernel
theorem dX12_line_12 : decode cX12_line 12 = .ok (.invokevirtual 148, 3) := by decide +kernel
theorem dX12_line_15 : decode cX12_line 15 = .ok (.ifCond .ne 6, 3) := by decide +kernel
theorem dX12_line_18 : decode cX12_line 18 = .ok (.bipush (-2), 2) := by decide +kernel
theorem dX12_line_20 : decode cX12_line 20 = .ok (.ireturn, 1) := by decide +kernel
theorem dX12_line_21 : decode cX12_line 21 = .ok (.lload_n 2, 1) := by decide +kernel
theorem dX12_line_22 : decode cX12_line 22 = .ok (.lconst 0, 1) := by decide +kernel
theorem dX12_line_23 : decode cX12_line 23 = .ok (.lcmp, 1) := by decide +kernel
theorem dX12_line_24 : decode cX12_line 24 = .ok (.ifCond .eq 16, 3) := by decide +kernel
theorem dX12_line_27 : decode cX12_line 27 = .ok (.lload_n 2, 1) := by decide +kernel
theorem dX12_line_28 : decode cX12_line 28 = .ok (.ldc2_w 180, 3) := by decide +kernel
theorem dX12_line_31 : decode cX12_line 31 = .ok (.ldc2_w 182, 3) := by decide +kernel
theorem dX12_line_34 : decode cX12_line 34 = .ok (.invokestatic 116, 3) := by decide +kernel
theorem dX12_line_37 : decode cX12_line 37 = .ok (.ifCond .ne 6, 3) := by decide +kernel
theorem dX12_line_40 : decode cX12_line 40 = .ok (.bipush (-3), 2) := by decide +kernel
theorem dX12_line_42 : decode cX12_line 42 = .ok (.ireturn, 1) := by decide +kernel
theorem dX12_line_43 : decode cX12_line 43 = .ok (.aload_n 0, 1) := by decide +kernel
theorem dX12_line_44 : decode cX12_line 44 = .ok (.getfield 23, 3) := by decide +kernel
theorem dX12_line_47 : decode cX12_line 47 = .ok (.iload_n 1, 1) := by decide +kernel
theorem dX12_line_48 : decode cX12_line 48 = .ok (.baload, 1) := by decide +kernel
theorem dX12_line_49 : decode cX12_line 49 = .ok (.ifCond .eq 6, 3) := by decide +kernel
theorem dX12_line_52 : decode cX12_line 52 = .ok (.bipush (-4), 2) := by decide +kernel
theorem dX12_line_54 : decode cX12_line 54 = .ok (.ireturn, 1) := by decide +kernel
theorem dX12_line_55 : decode cX12_line 55 = .ok (.aload_n 0, 1) := by decide +kernel
theorem dX12_line_56 : decode cX12_line 56 = .ok (.getfield 184, 3) := by decide +kernel
theorem dX12_line_59 : decode cX12_line 59 = .ok (.bipush 8, 2) := by decide +kernel
theorem dX12_line_61 : decode cX12_line 61 = .ok (.if_icmp .ne 6, 3) := by decide +kernel
theorem dX12_line_64 : decode cX12_line 64 = .ok (.bipush (-13), 2) := by decide +kernel
theorem dX12_line_66 : decode cX12_line 66 = .ok (.ireturn, 1) := by decide +kernel
theorem dX12_line_67 : decode cX12_line 67 = .ok (.aload_n 0, 1) := by decide +kernel
theorem dX12_line_68 : decode cX12_line 68 = .ok (.getfield 71, 3) := by decide +kernel
theorem dX12_line_71 : decode cX12_line 71 = .ok (.aload_n 0, 1) := by decide +kernel
theorem dX12_line_72 : decode cX12_line 72 = .ok (.getfield 184, 3) := by decide +kernel
theorem dX12_line_75 : decode cX12_line 75 = .ok (.iload_n 1, 1) := by decide +kernel
theorem dX12_line_76 : decode cX12_line 76 = .ok (.iastore, 1) := by decide +kernel
theorem dX12_line_77 : decode cX12_line 77 = .ok (.aload_n 0, 1) := by decide +kernel
theorem dX12_line_78 : decode cX12_line 78 = .ok (.getfield 74, 3) := by decide +kernel
theorem dX12_line_81 : decode cX12_line 81 = .ok (.aload_n 0, 1) := by decide +kernel
theorem dX12_line_82 : decode cX12_line 82 = .ok (.getfield 184, 3) := by decide +kernel
theorem dX12_line_85 : decode cX12_line 85 = .ok (.lload_n 2, 1) := by decide +kernel
theorem dX12_line_86 : decode cX12_line 86 = .ok (.lastore, 1) := by decide +kernel
theorem dX12_line_87 : decode cX12_line 87 = .ok (.aload_n 0, 1) := by decide +kernel
theorem dX12_line_88 : decode cX12_line 88 = .ok (.dup, 1) := by decide +kernel
theorem dX12_line_89 : decode cX12_line 89 = .ok (.getfield 184, 3) := by decide +kernel
theorem dX12_line_92 : decode cX12_line 92 = .ok (.iconst 1, 1) := by decide +kernel
theorem dX12_line_93 : decode cX12_line 93 = .ok (.iadd, 1) := by decide +kernel
theorem dX12_line_94 : decode cX12_line 94 = .ok (.putfield 184, 3) := by decide +kernel
theorem dX12_line_97 : decode cX12_line 97 = .ok (.aload_n 0, 1) := by decide +kernel
theorem dX12_line_98 : decode cX12_line 98 = .ok (.getfield 184, 3) := by decide +kernel
theorem dX12_line_101 : decode cX12_line 101 = .ok (.ireturn, 1) := by decide +kernel
theorem dX12_drop_0 : decode cX12_drop 0 = .ok (.aload_n 0, 1) := by decide +kernel
theorem dX12_drop_1 : decode cX12_drop 1 = .ok (.getfield 7, 3) := by decide +kernel
theorem dX12_drop_4 : decode cX12_drop 4 = .ok (.ifCond .ne 6, 3) := by decide +kernel
theorem dX12_drop_7 : decode cX12_drop 7 = .ok (.bipush (-6), 2) := by decide +kernel
theorem dX12_drop_9 : decode cX12_drop 9 = .ok (.ireturn, 1) := by decide +kernel
theorem dX12_drop_10 : decode cX12_drop 10 = .ok (.aload_n 0, 1) := by decide +kernel
theorem dX12_drop_11 : decode cX12_drop 11 = .ok (.getfield 184, 3) := by decide +kernel
theorem dX12_drop_14 : decode cX12_drop 14 = .ok (.istore_n 1, 1) := by decide +kernel
theorem dX12_drop_15 : decode cX12_drop 15 = .ok (.aload_n 0, 1) := by decide +kernel
theorem dX12_drop_16 : decode cX12_drop 16 = .ok (.iconst 0, 1) := by decide +kernel
theorem dX12_drop_17 : decode cX12_drop 17 = .ok (.putfield 184, 3) := by decide +kernel
theorem dX12_drop_20 : decode cX12_drop 20 = .ok (.iload_n 1, 1) := by decide +kernel
theorem dX12_drop_21 : decode cX12_drop 21 = .ok (.ireturn, 1) := by decide +kernel
theorem dX12_hand_0 : decode cX12_hand 0 = .ok (.aload_n 0, 1) := by decide +kernel
theorem dX12_hand_1 : decode cX12_hand 1 = .ok (.getfield 77, 3) := by decide +kernel
theorem dX12_hand_4 : decode cX12_hand 4 = .ok (.aload_n 0, 1) := by decide +kernel
theorem dX12_hand_5 : decode cX12_hand 5 = .ok (.getfield 187, 3) := by decide +kernel
theorem dX12_hand_8 : decode cX12_hand 8 = .ok (.iload_n 1, 1) := by decide +kernel
theorem dX12_hand_9 : decode cX12_hand 9 = .ok (.iastore, 1) := by decide +kernel
theorem dX12_hand_10 : decode cX12_hand 10 = .ok (.aload_n 0, 1) := by decide +kernel
theorem dX12_hand_11 : decode cX12_hand 11 = .ok (.getfield 80, 3) := by decide +kernel
theorem dX12_hand_14 : decode cX12_hand 14 = .ok (.aload_n 0, 1) := by decide +kernel
theorem dX12_hand_15 : decode cX12_hand 15 = .ok (.getfield 187, 3) := by decide +kernel
theorem dX12_hand_18 : decode cX12_hand 18 = .ok (.lload_n 2, 1) := by decide +kernel
theorem dX12_hand_19 : decode cX12_hand 19 = .ok (.lastore, 1) := by decide +kernel
theorem dX12_hand_20 : decode cX12_hand 20 = .ok (.aload_n 0, 1) := by decide +kernel
theorem dX12_hand_21 : decode cX12_hand 21 = .ok (.dup, 1) := by decide +kernel
theorem dX12_hand_22 : decode cX12_hand 22 = .ok (.getfield 187, 3) := by decide +kernel
theorem dX12_hand_25 : decode cX12_hand 25 = .ok (.iconst 1, 1) := by decide +kernel
theorem dX12_hand_26 : decode cX12_hand 26 = .ok (.iadd, 1) := by decide +kernel
theorem dX12_hand_27 : decode cX12_hand 27 = .ok (.putfield 187, 3) := by decide +kernel
theorem dX12_hand_30 : decode cX12_hand 30 = .ok (.return_, 1) := by decide +kernel
theorem dX12_periodAt_0 : decode cX12_periodAt 0 = .ok (.iconst (-1), 1) := by decide +kernel
theorem dX12_periodAt_1 : decode cX12_periodAt 1 = .ok (.istore_n 2, 1) := by decide +kernel
theorem dX12_periodAt_2 : decode cX12_periodAt 2 = .ok (.aload_n 0, 1) := by decide +kernel
theorem dX12_periodAt_3 : decode cX12_periodAt 3 = .ok (.getfield 173, 3) := by decide +kernel
theorem dX12_periodAt_6 : decode cX12_periodAt 6 = .ok (.iconst 1, 1) := by decide +kernel
theorem dX12_periodAt_7 : decode cX12_periodAt 7 = .ok (.isub, 1) := by decide +kernel
theorem dX12_periodAt_8 : decode cX12_periodAt 8 = .ok (.istore_n 3, 1) := by decide +kernel
theorem dX12_periodAt_9 : decode cX12_periodAt 9 = .ok (.iload_n 3, 1) := by decide +kernel
theorem dX12_periodAt_10 : decode cX12_periodAt 10 = .ok (.ifCond .lt 36, 3) := by decide +kernel
theorem dX12_periodAt_13 : decode cX12_periodAt 13 = .ok (.iload_n 1, 1) := by decide +kernel
theorem dX12_periodAt_14 : decode cX12_periodAt 14 = .ok (.i2l, 1) := by decide +kernel
theorem dX12_periodAt_15 : decode cX12_periodAt 15 = .ok (.aload_n 0, 1) := by decide +kernel
theorem dX12_periodAt_16 : decode cX12_periodAt 16 = .ok (.iload_n 3, 1) := by decide +kernel
theorem dX12_periodAt_17 : decode cX12_periodAt 17 = .ok (.invokevirtual 176, 3) := by decide +kernel
theorem dX12_periodAt_20 : decode cX12_periodAt 20 = .ok (.i2l, 1) := by decide +kernel
theorem dX12_periodAt_21 : decode cX12_periodAt 21 = .ok (.aload_n 0, 1) := by decide +kernel
theorem dX12_periodAt_22 : decode cX12_periodAt 22 = .ok (.getfield 41, 3) := by decide +kernel
theorem dX12_periodAt_25 : decode cX12_periodAt 25 = .ok (.iload_n 3, 1) := by decide +kernel
theorem dX12_periodAt_26 : decode cX12_periodAt 26 = .ok (.iaload, 1) := by decide +kernel
theorem dX12_periodAt_27 : decode cX12_periodAt 27 = .ok (.i2l, 1) := by decide +kernel
theorem dX12_periodAt_28 : decode cX12_periodAt 28 = .ok (.invokestatic 116, 3) := by decide +kernel
theorem dX12_periodAt_31 : decode cX12_periodAt 31 = .ok (.ifCond .eq 7, 3) := by decide +kernel
theorem dX12_periodAt_34 : decode cX12_periodAt 34 = .ok (.iload_n 3, 1) := by decide +kernel
theorem dX12_periodAt_35 : decode cX12_periodAt 35 = .ok (.goto 4, 3) := by decide +kernel
theorem dX12_periodAt_38 : decode cX12_periodAt 38 = .ok (.iload_n 2, 1) := by decide +kernel
theorem dX12_periodAt_39 : decode cX12_periodAt 39 = .ok (.istore_n 2, 1) := by decide +kernel
theorem dX12_periodAt_40 : decode cX12_periodAt 40 = .ok (.iinc 3 (-1), 3) := by decide +kernel
theorem dX12_periodAt_43 : decode cX12_periodAt 43 = .ok (.goto (-34), 3) := by decide +kernel
theorem dX12_periodAt_46 : decode cX12_periodAt 46 = .ok (.iload_n 2, 1) := by decide +kernel
theorem dX12_periodAt_47 : decode cX12_periodAt 47 = .ok (.ireturn, 1) := by decide +kernel
theorem dX12_isOver_0 : decode cX12_isOver 0 = .ok (.iconst 0, 1) := by decide +kernel
theorem dX12_isOver_1 : decode cX12_isOver 1 = .ok (.istore_n 1, 1) := by decide +kernel
theorem dX12_isOver_2 : decode cX12_isOver 2 = .ok (.iload_n 1, 1) := by decide +kernel
theorem dX12_isOver_3 : decode cX12_isOver 3 = .ok (.aload_n 0, 1) := by decide +kernel
theorem dX12_isOver_4 : decode cX12_isOver 4 = .ok (.getfield 187, 3) := by decide +kernel
theorem dX12_isOver_7 : decode cX12_isOver 7 = .ok (.if_icmp .ge 84, 3) := by decide +kernel
theorem dX12_isOver_10 : decode cX12_isOver 10 = .ok (.aload_n 0, 1) := by decide +kernel
theorem dX12_isOver_11 : decode cX12_isOver 11 = .ok (.getfield 33, 3) := by decide +kernel
theorem dX12_isOver_14 : decode cX12_isOver 14 = .ok (.aload_n 0, 1) := by decide +kernel
theorem dX12_isOver_15 : decode cX12_isOver 15 = .ok (.getfield 77, 3) := by decide +kernel
theorem dX12_isOver_18 : decode cX12_isOver 18 = .ok (.iload_n 1, 1) := by decide +kernel
theorem dX12_isOver_19 : decode cX12_isOver 19 = .ok (.iaload, 1) := by decide +kernel
theorem dX12_isOver_20 : decode cX12_isOver 20 = .ok (.laload, 1) := by decide +kernel
theorem dX12_isOver_21 : decode cX12_isOver 21 = .ok (.lstore_n 2, 1) := by decide +kernel
theorem dX12_isOver_22 : decode cX12_isOver 22 = .ok (.iconst 0, 1) := by decide +kernel
theorem dX12_isOver_23 : decode cX12_isOver 23 = .ok (.istore 4, 2) := by decide +kernel
theorem dX12_isOver_25 : decode cX12_isOver 25 = .ok (.iload 4, 2) := by decide +kernel
theorem dX12_isOver_27 : decode cX12_isOver 27 = .ok (.aload_n 0, 1) := by decide +kernel
theorem dX12_isOver_28 : decode cX12_isOver 28 = .ok (.getfield 187, 3) := by decide +kernel
theorem dX12_isOver_31 : decode cX12_isOver 31 = .ok (.if_icmp .ge 39, 3) := by decide +kernel
theorem dX12_isOver_34 : decode cX12_isOver 34 = .ok (.lload_n 2, 1) := by decide +kernel
theorem dX12_isOver_35 : decode cX12_isOver 35 = .ok (.aload_n 0, 1) := by decide +kernel
theorem dX12_isOver_36 : decode cX12_isOver 36 = .ok (.getfield 77, 3) := by decide +kernel
theorem dX12_isOver_39 : decode cX12_isOver 39 = .ok (.iload 4, 2) := by decide +kernel
theorem dX12_isOver_41 : decode cX12_isOver 41 = .ok (.iaload, 1) := by decide +kernel
theorem dX12_isOver_42 : decode cX12_isOver 42 = .ok (.aload_n 0, 1) := by decide +kernel
theorem dX12_isOver_43 : decode cX12_isOver 43 = .ok (.getfield 77, 3) := by decide +kernel
theorem dX12_isOver_46 : decode cX12_isOver 46 = .ok (.iload_n 1, 1) := by decide +kernel
theorem dX12_isOver_47 : decode cX12_isOver 47 = .ok (.iaload, 1) := by decide +kernel
theorem dX12_isOver_48 : decode cX12_isOver 48 = .ok (.if_icmp .ne 13, 3) := by decide +kernel
theorem dX12_isOver_51 : decode cX12_isOver 51 = .ok (.aload_n 0, 1) := by decide +kernel
theorem dX12_isOver_52 : decode cX12_isOver 52 = .ok (.getfield 80, 3) := by decide +kernel
theorem dX12_isOver_55 : decode cX12_isOver 55 = .ok (.iload 4, 2) := by decide +kernel
theorem dX12_isOver_57 : decode cX12_isOver 57 = .ok (.laload, 1) := by decide +kernel
theorem dX12_isOver_58 : decode cX12_isOver 58 = .ok (.goto 4, 3) := by decide +kernel
theorem dX12_isOver_61 : decode cX12_isOver 61 = .ok (.lconst 0, 1) := by decide +kernel
theorem dX12_isOver_62 : decode cX12_isOver 62 = .ok (.ladd, 1) := by decide +kernel
theorem dX12_isOver_63 : decode cX12_isOver 63 = .ok (.lstore_n 2, 1) := by decide +kernel
theorem dX12_isOver_64 : decode cX12_isOver 64 = .ok (.iinc 4 1, 3) := by decide +kernel
theorem dX12_isOver_67 : decode cX12_isOver 67 = .ok (.goto (-42), 3) := by decide +kernel
theorem dX12_isOver_70 : decode cX12_isOver 70 = .ok (.lload_n 2, 1) := by decide +kernel
theorem dX12_isOver_71 : decode cX12_isOver 71 = .ok (.ldc2_w 190, 3) := by decide +kernel
theorem dX12_isOver_74 : decode cX12_isOver 74 = .ok (.ldc2_w 192, 3) := by decide +kernel
theorem dX12_isOver_77 : decode cX12_isOver 77 = .ok (.invokestatic 116, 3) := by decide +kernel
theorem dX12_isOver_80 : decode cX12_isOver 80 = .ok (.ifCond .ne 5, 3) := by decide +kernel
theorem dX12_isOver_83 : decode cX12_isOver 83 = .ok (.iconst 1, 1) := by decide +kernel
theorem dX12_isOver_84 : decode cX12_isOver 84 = .ok (.ireturn, 1) := by decide +kernel
theorem dX12_isOver_85 : decode cX12_isOver 85 = .ok (.iinc 1 1, 3) := by decide +kernel
theorem dX12_isOver_88 : decode cX12_isOver 88 = .ok (.goto (-86), 3) := by decide +kernel
theorem dX12_isOver_91 : decode cX12_isOver 91 = .ok (.iconst 0, 1) := by decide +kernel
theorem dX12_isOver_92 : decode cX12_isOver 92 = .ok (.ireturn, 1) := by decide +kernel
theorem dX12_judged_0 : decode cX12_judged 0 = .ok (.aload_n 0, 1) := by decide +kernel
theorem dX12_judged_1 : decode cX12_judged 1 = .ok (.getfield 187, 3) := by decide +kernel
theorem dX12_judged_4 : decode cX12_judged 4 = .ok (.iconst 2, 1) := by decide +kernel
theorem dX12_judged_5 : decode cX12_judged 5 = .ok (.if_icmp .ge 6, 3) := by decide +kernel
theorem dX12_judged_8 : decode cX12_judged 8 = .ok (.bipush (-7), 2) := by decide +kernel
theorem dX12_judged_10 : decode cX12_judged 10 = .ok (.ireturn, 1) := by decide +kernel
theorem dX12_judged_11 : decode cX12_judged 11 = .ok (.lconst 0, 1) := by decide +kernel
theorem dX12_judged_12 : decode cX12_judged 12 = .ok (.lstore_n 2, 1) := by decide +kernel
theorem dX12_judged_13 : decode cX12_judged 13 = .ok (.iconst 0, 1) := by decide +kernel
theorem dX12_judged_14 : decode cX12_judged 14 = .ok (.istore 4, 2) := by decide +kernel
theorem dX12_judged_16 : decode cX12_judged 16 = .ok (.iconst 0, 1) := by decide +kernel
theorem dX12_judged_17 : decode cX12_judged 17 = .ok (.istore 5, 2) := by decide +kernel
theorem dX12_judged_19 : decode cX12_judged 19 = .ok (.iload 5, 2) := by decide +kernel
theorem dX12_judged_21 : decode cX12_judged 21 = .ok (.aload_n 0, 1) := by decide +kernel
theorem dX12_judged_22 : decode cX12_judged 22 = .ok (.getfield 187, 3) := by decide +kernel
theorem dX12_judged_25 : decode cX12_judged 25 = .ok (.if_icmp .ge 46, 3) := by decide +kernel
theorem dX12_judged_28 : decode cX12_judged 28 = .ok (.lload_n 2, 1) := by decide +kernel
theorem dX12_judged_29 : decode cX12_judged 29 = .ok (.aload_n 0, 1) := by decide +kernel
theorem dX12_judged_30 : decode cX12_judged 30 = .ok (.getfield 80, 3) := by decide +kernel
theorem dX12_judged_33 : decode cX12_judged 33 = .ok (.iload 5, 2) := by decide +kernel
theorem dX12_judged_35 : decode cX12_judged 35 = .ok (.laload, 1) := by decide +kernel
theorem dX12_judged_36 : decode cX12_judged 36 = .ok (.ladd, 1) := by decide +kernel
theorem dX12_judged_37 : decode cX12_judged 37 = .ok (.lstore_n 2, 1) := by decide +kernel
theorem dX12_judged_38 : decode cX12_judged 38 = .ok (.iload 4, 2) := by decide +kernel
theorem dX12_judged_40 : decode cX12_judged 40 = .ok (.ifCond .ne 18, 3) := by decide +kernel
theorem dX12_judged_43 : decode cX12_judged 43 = .ok (.aload_n 0, 1) := by decide +kernel
theorem dX12_judged_44 : decode cX12_judged 44 = .ok (.getfield 30, 3) := by decide +kernel
theorem dX12_judged_47 : decode cX12_judged 47 = .ok (.aload_n 0, 1) := by decide +kernel
theorem dX12_judged_48 : decode cX12_judged 48 = .ok (.getfield 77, 3) := by decide +kernel
theorem dX12_judged_51 : decode cX12_judged 51 = .ok (.iload 5, 2) := by decide +kernel
theorem dX12_judged_53 : decode cX12_judged 53 = .ok (.iaload, 1) := by decide +kernel
theorem dX12_judged_54 : decode cX12_judged 54 = .ok (.baload, 1) := by decide +kernel
theorem dX12_judged_55 : decode cX12_judged 55 = .ok (.ifCond .eq 7, 3) := by decide +kernel
theorem dX12_judged_58 : decode cX12_judged 58 = .ok (.iconst 1, 1) := by decide +kernel
theorem dX12_judged_59 : decode cX12_judged 59 = .ok (.goto 4, 3) := by decide +kernel
theorem dX12_judged_62 : decode cX12_judged 62 = .ok (.iconst 0, 1) := by decide +kernel
theorem dX12_judged_63 : decode cX12_judged 63 = .ok (.istore 4, 2) := by decide +kernel
theorem dX12_judged_65 : decode cX12_judged 65 = .ok (.iinc 5 1, 3) := by decide +kernel
theorem dX12_judged_68 : decode cX12_judged 68 = .ok (.goto (-49), 3) := by decide +kernel
theorem dX12_judged_71 : decode cX12_judged 71 = .ok (.lload_n 2, 1) := by decide +kernel
theorem dX12_judged_72 : decode cX12_judged 72 = .ok (.lconst 0, 1) := by decide +kernel
theorem dX12_judged_73 : decode cX12_judged 73 = .ok (.lcmp, 1) := by decide +kernel
theorem dX12_judged_74 : decode cX12_judged 74 = .ok (.ifCond .eq 6, 3) := by decide +kernel
theorem dX12_judged_77 : decode cX12_judged 77 = .ok (.bipush (-8), 2) := by decide +kernel
theorem dX12_judged_79 : decode cX12_judged 79 = .ok (.ireturn, 1) := by decide +kernel
theorem dX12_judged_80 : decode cX12_judged 80 = .ok (.aload_n 0, 1) := by decide +kernel
theorem dX12_judged_81 : decode cX12_judged 81 = .ok (.iload_n 1, 1) := by decide +kernel
theorem dX12_judged_82 : decode cX12_judged 82 = .ok (.invokevirtual 194, 3) := by decide +kernel
theorem dX12_judged_85 : decode cX12_judged 85 = .ok (.istore 5, 2) := by decide +kernel
theorem dX12_judged_87 : decode cX12_judged 87 = .ok (.iload 5, 2) := by decide +kernel
theorem dX12_judged_89 : decode cX12_judged 89 = .ok (.iconst (-1), 1) := by decide +kernel
theorem dX12_judged_90 : decode cX12_judged 90 = .ok (.if_icmp .ne 6, 3) := by decide +kernel
theorem dX12_judged_93 : decode cX12_judged 93 = .ok (.bipush (-9), 2) := by decide +kernel
theorem dX12_judged_95 : decode cX12_judged 95 = .ok (.ireturn, 1) := by decide +kernel
theorem dX12_judged_96 : decode cX12_judged 96 = .ok (.iload 5, 2) := by decide +kernel
theorem dX12_judged_98 : decode cX12_judged 98 = .ok (.aload_n 0, 1) := by decide +kernel
theorem dX12_judged_99 : decode cX12_judged 99 = .ok (.getfield 197, 3) := by decide +kernel
theorem dX12_judged_102 : decode cX12_judged 102 = .ok (.if_icmp .ge 6, 3) := by decide +kernel
theorem dX12_judged_105 : decode cX12_judged 105 = .ok (.bipush (-10), 2) := by decide +kernel
theorem dX12_judged_107 : decode cX12_judged 107 = .ok (.ireturn, 1) := by decide +kernel
theorem dX12_judged_108 : decode cX12_judged 108 = .ok (.iload 4, 2) := by decide +kernel
theorem dX12_judged_110 : decode cX12_judged 110 = .ok (.ifCond .eq 6, 3) := by decide +kernel
theorem dX12_judged_113 : decode cX12_judged 113 = .ok (.bipush (-11), 2) := by decide +kernel
theorem dX12_judged_115 : decode cX12_judged 115 = .ok (.ireturn, 1) := by decide +kernel
theorem dX12_judged_116 : decode cX12_judged 116 = .ok (.aload_n 0, 1) := by decide +kernel
theorem dX12_judged_117 : decode cX12_judged 117 = .ok (.invokevirtual 200, 3) := by decide +kernel
theorem dX12_judged_120 : decode cX12_judged 120 = .ok (.ifCond .eq 6, 3) := by decide +kernel
theorem dX12_judged_123 : decode cX12_judged 123 = .ok (.bipush (-12), 2) := by decide +kernel
theorem dX12_judged_125 : decode cX12_judged 125 = .ok (.ireturn, 1) := by decide +kernel
theorem dX12_judged_126 : decode cX12_judged 126 = .ok (.aload_n 0, 1) := by decide +kernel
theorem dX12_judged_127 : decode cX12_judged 127 = .ok (.getfield 203, 3) := by decide +kernel
theorem dX12_judged_130 : decode cX12_judged 130 = .ok (.sipush 400, 3) := by decide +kernel
theorem dX12_judged_133 : decode cX12_judged 133 = .ok (.if_icmp .eq 10, 3) := by decide +kernel
theorem dX12_judged_136 : decode cX12_judged 136 = .ok (.aload_n 0, 1) := by decide +kernel
theorem dX12_judged_137 : decode cX12_judged 137 = .ok (.invokevirtual 166, 3) := by decide +kernel
theorem dX12_judged_140 : decode cX12_judged 140 = .ok (.ifCond .ne 8, 3) := by decide +kernel
theorem dX12_judged_143 : decode cX12_judged 143 = .ok (.bipush (-13), 2) := by decide +kernel
theorem dX12_judged_145 : decode cX12_judged 145 = .ok (.goto 4, 3) := by decide +kernel
theorem dX12_judged_148 : decode cX12_judged 148 = .ok (.iconst 0, 1) := by decide +kernel
theorem dX12_judged_149 : decode cX12_judged 149 = .ok (.ireturn, 1) := by decide +kernel
theorem dX12_enter_0 : decode cX12_enter 0 = .ok (.aload_n 0, 1) := by decide +kernel
theorem dX12_enter_1 : decode cX12_enter 1 = .ok (.getfield 203, 3) := by decide +kernel
theorem dX12_enter_4 : decode cX12_enter 4 = .ok (.istore 5, 2) := by decide +kernel
theorem dX12_enter_6 : decode cX12_enter 6 = .ok (.aload_n 0, 1) := by decide +kernel
theorem dX12_enter_7 : decode cX12_enter 7 = .ok (.getfield 47, 3) := by decide +kernel
theorem dX12_enter_10 : decode cX12_enter 10 = .ok (.iload 5, 2) := by decide +kernel
theorem dX12_enter_12 : decode cX12_enter 12 = .ok (.iload_n 1, 1) := by decide +kernel
theorem dX12_enter_13 : decode cX12_enter 13 = .ok (.iastore, 1) := by decide +kernel
theorem dX12_enter_14 : decode cX12_enter 14 = .ok (.aload_n 0, 1) := by decide +kernel
theorem dX12_enter_15 : decode cX12_enter 15 = .ok (.getfield 50, 3) := by decide +kernel
theorem dX12_enter_18 : decode cX12_enter 18 = .ok (.iload 5, 2) := by decide +kernel
theorem dX12_enter_20 : decode cX12_enter 20 = .ok (.iload_n 2, 1) := by decide +kernel
theorem dX12_enter_21 : decode cX12_enter 21 = .ok (.iastore, 1) := by decide +kernel
theorem dX12_enter_22 : decode cX12_enter 22 = .ok (.aload_n 0, 1) := by decide +kernel
theorem dX12_enter_23 : decode cX12_enter 23 = .ok (.getfield 53, 3) := by decide +kernel
theorem dX12_enter_26 : decode cX12_enter 26 = .ok (.iload 5, 2) := by decide +kernel
theorem dX12_enter_28 : decode cX12_enter 28 = .ok (.iload_n 3, 1) := by decide +kernel
theorem dX12_enter_29 : decode cX12_enter 29 = .ok (.iastore, 1) := by decide +kernel
theorem dX12_enter_30 : decode cX12_enter 30 = .ok (.aload_n 0, 1) := by decide +kernel
theorem dX12_enter_31 : decode cX12_enter 31 = .ok (.getfield 59, 3) := by decide +kernel
theorem dX12_enter_34 : decode cX12_enter 34 = .ok (.iload 5, 2) := by decide +kernel
theorem dX12_enter_36 : decode cX12_enter 36 = .ok (.iconst (-1), 1) := by decide +kernel
theorem dX12_enter_37 : decode cX12_enter 37 = .ok (.iastore, 1) := by decide +kernel
theorem dX12_enter_38 : decode cX12_enter 38 = .ok (.aload_n 0, 1) := by decide +kernel
theorem dX12_enter_39 : decode cX12_enter 39 = .ok (.getfield 62, 3) := by decide +kernel
theorem dX12_enter_42 : decode cX12_enter 42 = .ok (.iload 5, 2) := by decide +kernel
theorem dX12_enter_44 : decode cX12_enter 44 = .ok (.iload 4, 2) := by decide +kernel
theorem dX12_enter_46 : decode cX12_enter 46 = .ok (.iastore, 1) := by decide +kernel
theorem dX12_enter_47 : decode cX12_enter 47 = .ok (.iconst 0, 1) := by decide +kernel
theorem dX12_enter_48 : decode cX12_enter 48 = .ok (.istore 6, 2) := by decide +kernel
theorem dX12_enter_50 : decode cX12_enter 50 = .ok (.iload 6, 2) := by decide +kernel
theorem dX12_enter_52 : decode cX12_enter 52 = .ok (.aload_n 0, 1) := by decide +kernel
theorem dX12_enter_53 : decode cX12_enter 53 = .ok (.getfield 187, 3) := by decide +kernel
theorem dX12_enter_56 : decode cX12_enter 56 = .ok (.if_icmp .ge 75, 3) := by decide +kernel
theorem dX12_enter_59 : decode cX12_enter 59 = .ok (.aload_n 0, 1) := by decide +kernel
theorem dX12_enter_60 : decode cX12_enter 60 = .ok (.getfield 65, 3) := by decide +kernel
theorem dX12_enter_63 : decode cX12_enter 63 = .ok (.aload_n 0, 1) := by decide +kernel
theorem dX12_enter_64 : decode cX12_enter 64 = .ok (.getfield 56, 3) := by decide +kernel
theorem dX12_enter_67 : decode cX12_enter 67 = .ok (.iload 5, 2) := by decide +kernel
theorem dX12_enter_69 : decode cX12_enter 69 = .ok (.iaload, 1) := by decide +kernel
theorem dX12_enter_70 : decode cX12_enter 70 = .ok (.iload 6, 2) := by decide +kernel
theorem dX12_enter_72 : decode cX12_enter 72 = .ok (.iadd, 1) := by decide +kernel
theorem dX12_enter_73 : decode cX12_enter 73 = .ok (.aload_n 0, 1) := by decide +kernel
theorem dX12_enter_74 : decode cX12_enter 74 = .ok (.getfield 77, 3) := by decide +kernel
theorem dX12_enter_77 : decode cX12_enter 77 = .ok (.iload 6, 2) := by decide +kernel
theorem dX12_enter_79 : decode cX12_enter 79 = .ok (.iaload, 1) := by decide +kernel
theorem dX12_enter_80 : decode cX12_enter 80 = .ok (.iastore, 1) := by decide +kernel
theorem dX12_enter_81 : decode cX12_enter 81 = .ok (.aload_n 0, 1) := by decide +kernel
theorem dX12_enter_82 : decode cX12_enter 82 = .ok (.getfield 68, 3) := by decide +kernel
theorem dX12_enter_85 : decode cX12_enter 85 = .ok (.aload_n 0, 1) := by decide +kernel
theorem dX12_enter_86 : decode cX12_enter 86 = .ok (.getfield 56, 3) := by decide +kernel
theorem dX12_enter_89 : decode cX12_enter 89 = .ok (.iload 5, 2) := by decide +kernel
theorem dX12_enter_91 : decode cX12_enter 91 = .ok (.iaload, 1) := by decide +kernel
theorem dX12_enter_92 : decode cX12_enter 92 = .ok (.iload 6, 2) := by decide +kernel
theorem dX12_enter_94 : decode cX12_enter 94 = .ok (.iadd, 1) := by decide +kernel
theorem dX12_enter_95 : decode cX12_enter 95 = .ok (.aload_n 0, 1) := by decide +kernel
theorem dX12_enter_96 : decode cX12_enter 96 = .ok (.getfield 80, 3) := by decide +kernel
theorem dX12_enter_99 : decode cX12_enter 99 = .ok (.iload 6, 2) := by decide +kernel
theorem dX12_enter_101 : decode cX12_enter 101 = .ok (.laload, 1) := by decide +kernel
theorem dX12_enter_102 : decode cX12_enter 102 = .ok (.lastore, 1) := by decide +kernel
theorem dX12_enter_103 : decode cX12_enter 103 = .ok (.aload_n 0, 1) := by decide +kernel
theorem dX12_enter_104 : decode cX12_enter 104 = .ok (.getfield 33, 3) := by decide +kernel
theorem dX12_enter_107 : decode cX12_enter 107 = .ok (.aload_n 0, 1) := by decide +kernel
theorem dX12_enter_108 : decode cX12_enter 108 = .ok (.getfield 77, 3) := by decide +kernel
theorem dX12_enter_111 : decode cX12_enter 111 = .ok (.iload 6, 2) := by decide +kernel
theorem dX12_enter_113 : decode cX12_enter 113 = .ok (.iaload, 1) := by decide +kernel
theorem dX12_enter_114 : decode cX12_enter 114 = .ok (.dup2, 1) := by decide +kernel
theorem dX12_enter_115 : decode cX12_enter 115 = .ok (.laload, 1) := by decide +kernel
theorem dX12_enter_116 : decode cX12_enter 116 = .ok (.aload_n 0, 1) := by decide +kernel
theorem dX12_enter_117 : decode cX12_enter 117 = .ok (.getfield 80, 3) := by decide +kernel
theorem dX12_enter_120 : decode cX12_enter 120 = .ok (.iload 6, 2) := by decide +kernel
theorem dX12_enter_122 : decode cX12_enter 122 = .ok (.laload, 1) := by decide +kernel
theorem dX12_enter_123 : decode cX12_enter 123 = .ok (.ladd, 1) := by decide +kernel
theorem dX12_enter_124 : decode cX12_enter 124 = .ok (.lastore, 1) := by decide +kernel
theorem dX12_enter_125 : decode cX12_enter 125 = .ok (.iinc 6 1, 3) := by decide +kernel
theorem dX12_enter_128 : decode cX12_enter 128 = .ok (.goto (-78), 3) := by decide +kernel
theorem dX12_enter_131 : decode cX12_enter 131 = .ok (.aload_n 0, 1) := by decide +kernel
theorem dX12_enter_132 : decode cX12_enter 132 = .ok (.getfield 56, 3) := by decide +kernel
theorem dX12_enter_135 : decode cX12_enter 135 = .ok (.iload 5, 2) := by decide +kernel
theorem dX12_enter_137 : decode cX12_enter 137 = .ok (.iconst 1, 1) := by decide +kernel
theorem dX12_enter_138 : decode cX12_enter 138 = .ok (.iadd, 1) := by decide +kernel
theorem dX12_enter_139 : decode cX12_enter 139 = .ok (.aload_n 0, 1) := by decide +kernel
theorem dX12_enter_140 : decode cX12_enter 140 = .ok (.getfield 56, 3) := by decide +kernel
theorem dX12_enter_143 : decode cX12_enter 143 = .ok (.iload 5, 2) := by decide +kernel
theorem dX12_enter_145 : decode cX12_enter 145 = .ok (.iaload, 1) := by decide +kernel
theorem dX12_enter_146 : decode cX12_enter 146 = .ok (.aload_n 0, 1) := by decide +kernel
theorem dX12_enter_147 : decode cX12_enter 147 = .ok (.getfield 187, 3) := by decide +kernel
theorem dX12_enter_150 : decode cX12_enter 150 = .ok (.iadd, 1) := by decide +kernel
theorem dX12_enter_151 : decode cX12_enter 151 = .ok (.iastore, 1) := by decide +kernel
theorem dX12_enter_152 : decode cX12_enter 152 = .ok (.aload_n 0, 1) := by decide +kernel
theorem dX12_enter_153 : decode cX12_enter 153 = .ok (.dup, 1) := by decide +kernel
theorem dX12_enter_154 : decode cX12_enter 154 = .ok (.getfield 203, 3) := by decide +kernel
theorem dX12_enter_157 : decode cX12_enter 157 = .ok (.iconst 1, 1) := by decide +kernel
theorem dX12_enter_158 : decode cX12_enter 158 = .ok (.iadd, 1) := by decide +kernel
theorem dX12_enter_159 : decode cX12_enter 159 = .ok (.putfield 203, 3) := by decide +kernel
theorem dX12_enter_162 : decode cX12_enter 162 = .ok (.iload 5, 2) := by decide +kernel
theorem dX12_enter_164 : decode cX12_enter 164 = .ok (.ireturn, 1) := by decide +kernel
theorem dX12_sayPost_0 : decode cX12_sayPost 0 = .ok (.aload_n 0, 1) := by decide +kernel
theorem dX12_sayPost_1 : decode cX12_sayPost 1 = .ok (.invokevirtual 159, 3) := by decide +kernel
theorem dX12_sayPost_4 : decode cX12_sayPost 4 = .ok (.aload_n 0, 1) := by decide +kernel
theorem dX12_sayPost_5 : decode cX12_sayPost 5 = .ok (.iload_n 1, 1) := by decide +kernel
theorem dX12_sayPost_6 : decode cX12_sayPost 6 = .ok (.i2l, 1) := by decide +kernel
theorem dX12_sayPost_7 : decode cX12_sayPost 7 = .ok (.invokevirtual 162, 3) := by decide +kernel
theorem dX12_sayPost_10 : decode cX12_sayPost 10 = .ok (.aload_n 0, 1) := by decide +kernel
theorem dX12_sayPost_11 : decode cX12_sayPost 11 = .ok (.iload_n 2, 1) := by decide +kernel
theorem dX12_sayPost_12 : decode cX12_sayPost 12 = .ok (.i2l, 1) := by decide +kernel
theorem dX12_sayPost_13 : decode cX12_sayPost 13 = .ok (.invokevirtual 162, 3) := by decide +kernel
theorem dX12_sayPost_16 : decode cX12_sayPost 16 = .ok (.aload_n 0, 1) := by decide +kernel
theorem dX12_sayPost_17 : decode cX12_sayPost 17 = .ok (.aload_n 0, 1) := by decide +kernel
theorem dX12_sayPost_18 : decode cX12_sayPost 18 = .ok (.getfield 187, 3) := by decide +kernel
theorem dX12_sayPost_21 : decode cX12_sayPost 21 = .ok (.i2l, 1) := by decide +kernel
theorem dX12_sayPost_22 : decode cX12_sayPost 22 = .ok (.invokevirtual 162, 3) := by decide +kernel
theorem dX12_sayPost_25 : decode cX12_sayPost 25 = .ok (.iconst 0, 1) := by decide +kernel
theorem dX12_sayPost_26 : decode cX12_sayPost 26 = .ok (.istore_n 3, 1) := by decide +kernel
theorem dX12_sayPost_27 : decode cX12_sayPost 27 = .ok (.iload_n 3, 1) := by decide +kernel
theorem dX12_sayPost_28 : decode cX12_sayPost 28 = .ok (.aload_n 0, 1) := by decide +kernel
theorem dX12_sayPost_29 : decode cX12_sayPost 29 = .ok (.getfield 187, 3) := by decide +kernel
theorem dX12_sayPost_32 : decode cX12_sayPost 32 = .ok (.if_icmp .ge 30, 3) := by decide +kernel
theorem dX12_sayPost_35 : decode cX12_sayPost 35 = .ok (.aload_n 0, 1) := by decide +kernel
theorem dX12_sayPost_36 : decode cX12_sayPost 36 = .ok (.aload_n 0, 1) := by decide +kernel
theorem dX12_sayPost_37 : decode cX12_sayPost 37 = .ok (.getfield 77, 3) := by decide +kernel
theorem dX12_sayPost_40 : decode cX12_sayPost 40 = .ok (.iload_n 3, 1) := by decide +kernel
theorem dX12_sayPost_41 : decode cX12_sayPost 41 = .ok (.iaload, 1) := by decide +kernel
theorem dX12_sayPost_42 : decode cX12_sayPost 42 = .ok (.i2l, 1) := by decide +kernel
theorem dX12_sayPost_43 : decode cX12_sayPost 43 = .ok (.invokevirtual 162, 3) := by decide +kernel
theorem dX12_sayPost_46 : decode cX12_sayPost 46 = .ok (.aload_n 0, 1) := by decide +kernel
theorem dX12_sayPost_47 : decode cX12_sayPost 47 = .ok (.aload_n 0, 1) := by decide +kernel
theorem dX12_sayPost_48 : decode cX12_sayPost 48 = .ok (.getfield 80, 3) := by decide +kernel
theorem dX12_sayPost_51 : decode cX12_sayPost 51 = .ok (.iload_n 3, 1) := by decide +kernel
theorem dX12_sayPost_52 : decode cX12_sayPost 52 = .ok (.laload, 1) := by decide +kernel
theorem dX12_sayPost_53 : decode cX12_sayPost 53 = .ok (.invokevirtual 162, 3) := by decide +kernel
theorem dX12_sayPost_56 : decode cX12_sayPost 56 = .ok (.iinc 3 1, 3) := by decide +kernel
theorem dX12_sayPost_59 : decode cX12_sayPost 59 = .ok (.goto (-32), 3) := by decide +kernel
theorem dX12_sayPost_62 : decode cX12_sayPost 62 = .ok (.return_, 1) := by decide +kernel
theorem dX12_posted_0 : decode cX12_posted 0 = .ok (.aload_n 0, 1) := by decide +kernel
theorem dX12_posted_1 : decode cX12_posted 1 = .ok (.iload_n 1, 1) := by decide +kernel
theorem dX12_posted_2 : decode cX12_posted 2 = .ok (.iload_n 2, 1) := by decide +kernel
theorem dX12_posted_3 : decode cX12_posted 3 = .ok (.invokevirtual 206, 3) := by decide +kernel
theorem dX12_posted_6 : decode cX12_posted 6 = .ok (.aload_n 0, 1) := by decide +kernel
theorem dX12_posted_7 : decode cX12_posted 7 = .ok (.iload_n 1, 1) := by decide +kernel
theorem dX12_posted_8 : decode cX12_posted 8 = .ok (.invokevirtual 210, 3) := by decide +kernel
theorem dX12_posted_11 : decode cX12_posted 11 = .ok (.istore_n 3, 1) := by decide +kernel
theorem dX12_posted_12 : decode cX12_posted 12 = .ok (.iload_n 3, 1) := by decide +kernel
theorem dX12_posted_13 : decode cX12_posted 13 = .ok (.ifCond .ge 5, 3) := by decide +kernel
theorem dX12_posted_16 : decode cX12_posted 16 = .ok (.iload_n 3, 1) := by decide +kernel
theorem dX12_posted_17 : decode cX12_posted 17 = .ok (.ireturn, 1) := by decide +kernel
theorem dX12_posted_18 : decode cX12_posted 18 = .ok (.aload_n 0, 1) := by decide +kernel
theorem dX12_posted_19 : decode cX12_posted 19 = .ok (.iload_n 1, 1) := by decide +kernel
theorem dX12_posted_20 : decode cX12_posted 20 = .ok (.iload_n 2, 1) := by decide +kernel
theorem dX12_posted_21 : decode cX12_posted 21 = .ok (.iconst 0, 1) := by decide +kernel
theorem dX12_posted_22 : decode cX12_posted 22 = .ok (.iconst (-1), 1) := by decide +kernel
theorem dX12_posted_23 : decode cX12_posted 23 = .ok (.invokevirtual 213, 3) := by decide +kernel
theorem dX12_posted_26 : decode cX12_posted 26 = .ok (.istore 4, 2) := by decide +kernel
theorem dX12_posted_28 : decode cX12_posted 28 = .ok (.aload_n 0, 1) := by decide +kernel
theorem dX12_posted_29 : decode cX12_posted 29 = .ok (.iconst 5, 1) := by decide +kernel
theorem dX12_posted_30 : decode cX12_posted 30 = .ok (.invokevirtual 170, 3) := by decide +kernel
theorem dX12_posted_33 : decode cX12_posted 33 = .ok (.iload 4, 2) := by decide +kernel
theorem dX12_posted_35 : decode cX12_posted 35 = .ok (.ireturn, 1) := by decide +kernel
theorem dX12_post_0 : decode cX12_post 0 = .ok (.aload_n 0, 1) := by decide +kernel
theorem dX12_post_1 : decode cX12_post 1 = .ok (.getfield 7, 3) := by decide +kernel
theorem dX12_post_4 : decode cX12_post 4 = .ok (.ifCond .ne 6, 3) := by decide +kernel
theorem dX12_post_7 : decode cX12_post 7 = .ok (.bipush (-6), 2) := by decide +kernel
theorem dX12_post_9 : decode cX12_post 9 = .ok (.ireturn, 1) := by decide +kernel
theorem dX12_post_10 : decode cX12_post 10 = .ok (.aload_n 0, 1) := by decide +kernel
theorem dX12_post_11 : decode cX12_post 11 = .ok (.iconst 0, 1) := by decide +kernel
theorem dX12_post_12 : decode cX12_post 12 = .ok (.putfield 187, 3) := by decide +kernel
theorem dX12_post_15 : decode cX12_post 15 = .ok (.iconst 0, 1) := by decide +kernel
theorem dX12_post_16 : decode cX12_post 16 = .ok (.istore_n 3, 1) := by decide +kernel
theorem dX12_post_17 : decode cX12_post 17 = .ok (.iload_n 3, 1) := by decide +kernel
theorem dX12_post_18 : decode cX12_post 18 = .ok (.aload_n 0, 1) := by decide +kernel
theorem dX12_post_19 : decode cX12_post 19 = .ok (.getfield 184, 3) := by decide +kernel
theorem dX12_post_22 : decode cX12_post 22 = .ok (.if_icmp .ge 25, 3) := by decide +kernel
theorem dX12_post_25 : decode cX12_post 25 = .ok (.aload_n 0, 1) := by decide +kernel
theorem dX12_post_26 : decode cX12_post 26 = .ok (.aload_n 0, 1) := by decide +kernel
theorem dX12_post_27 : decode cX12_post 27 = .ok (.getfield 71, 3) := by decide +kernel
theorem dX12_post_30 : decode cX12_post 30 = .ok (.iload_n 3, 1) := by decide +kernel
theorem dX12_post_31 : decode cX12_post 31 = .ok (.iaload, 1) := by decide +kernel
theorem dX12_post_32 : decode cX12_post 32 = .ok (.aload_n 0, 1) := by decide +kernel
theorem dX12_post_33 : decode cX12_post 33 = .ok (.getfield 74, 3) := by decide +kernel
theorem dX12_post_36 : decode cX12_post 36 = .ok (.iload_n 3, 1) := by decide +kernel
theorem dX12_post_37 : decode cX12_post 37 = .ok (.laload, 1) := by decide +kernel
theorem dX12_post_38 : decode cX12_post 38 = .ok (.invokevirtual 217, 3) := by decide +kernel
theorem dX12_post_41 : decode cX12_post 41 = .ok (.iinc 3 1, 3) := by decide +kernel
theorem dX12_post_44 : decode cX12_post 44 = .ok (.goto (-27), 3) := by decide +kernel
theorem dX12_post_47 : decode cX12_post 47 = .ok (.aload_n 0, 1) := by decide +kernel
theorem dX12_post_48 : decode cX12_post 48 = .ok (.iload_n 1, 1) := by decide +kernel
theorem dX12_post_49 : decode cX12_post 49 = .ok (.iload_n 2, 1) := by decide +kernel
theorem dX12_post_50 : decode cX12_post 50 = .ok (.invokevirtual 221, 3) := by decide +kernel
theorem dX12_post_53 : decode cX12_post 53 = .ok (.istore_n 3, 1) := by decide +kernel
theorem dX12_post_54 : decode cX12_post 54 = .ok (.aload_n 0, 1) := by decide +kernel
theorem dX12_post_55 : decode cX12_post 55 = .ok (.iload_n 3, 1) := by decide +kernel
theorem dX12_post_56 : decode cX12_post 56 = .ok (.ifCond .ge 10, 3) := by decide +kernel
theorem dX12_post_59 : decode cX12_post 59 = .ok (.aload_n 0, 1) := by decide +kernel
theorem dX12_post_60 : decode cX12_post 60 = .ok (.getfield 184, 3) := by decide +kernel
theorem dX12_post_63 : decode cX12_post 63 = .ok (.goto 4, 3) := by decide +kernel
theorem dX12_post_66 : decode cX12_post 66 = .ok (.iconst 0, 1) := by decide +kernel
theorem dX12_post_67 : decode cX12_post 67 = .ok (.putfield 184, 3) := by decide +kernel
theorem dX12_post_70 : decode cX12_post 70 = .ok (.iload_n 3, 1) := by decide +kernel
theorem dX12_post_71 : decode cX12_post 71 = .ok (.ireturn, 1) := by decide +kernel
theorem dX12_back_0 : decode cX12_back 0 = .ok (.aload_n 0, 1) := by decide +kernel
theorem dX12_back_1 : decode cX12_back 1 = .ok (.getfield 7, 3) := by decide +kernel
theorem dX12_back_4 : decode cX12_back 4 = .ok (.ifCond .ne 6, 3) := by decide +kernel
theorem dX12_back_7 : decode cX12_back 7 = .ok (.bipush (-6), 2) := by decide +kernel
theorem dX12_back_9 : decode cX12_back 9 = .ok (.ireturn, 1) := by decide +kernel
theorem dX12_back_10 : decode cX12_back 10 = .ok (.iload_n 1, 1) := by decide +kernel
theorem dX12_back_11 : decode cX12_back 11 = .ok (.i2l, 1) := by decide +kernel
theorem dX12_back_12 : decode cX12_back 12 = .ok (.lconst 0, 1) := by decide +kernel
theorem dX12_back_13 : decode cX12_back 13 = .ok (.aload_n 0, 1) := by decide +kernel
theorem dX12_back_14 : decode cX12_back 14 = .ok (.getfield 203, 3) := by decide +kernel
theorem dX12_back_17 : decode cX12_back 17 = .ok (.iconst 1, 1) := by decide +kernel
theorem dX12_back_18 : decode cX12_back 18 = .ok (.isub, 1) := by decide +kernel
theorem dX12_back_19 : decode cX12_back 19 = .ok (.i2l, 1) := by decide +kernel
theorem dX12_back_20 : decode cX12_back 20 = .ok (.invokestatic 116, 3) := by decide +kernel
theorem dX12_back_23 : decode cX12_back 23 = .ok (.ifCond .ne 6, 3) := by decide +kernel
theorem dX12_back_26 : decode cX12_back 26 = .ok (.bipush (-2), 2) := by decide +kernel
theorem dX12_back_28 : decode cX12_back 28 = .ok (.ireturn, 1) := by decide +kernel
theorem dX12_back_29 : decode cX12_back 29 = .ok (.aload_n 0, 1) := by decide +kernel
theorem dX12_back_30 : decode cX12_back 30 = .ok (.getfield 53, 3) := by decide +kernel
theorem dX12_back_33 : decode cX12_back 33 = .ok (.iload_n 1, 1) := by decide +kernel
theorem dX12_back_34 : decode cX12_back 34 = .ok (.iaload, 1) := by decide +kernel
theorem dX12_back_35 : decode cX12_back 35 = .ok (.ifCond .eq 6, 3) := by decide +kernel
theorem dX12_back_38 : decode cX12_back 38 = .ok (.bipush (-4), 2) := by decide +kernel
theorem dX12_back_40 : decode cX12_back 40 = .ok (.ireturn, 1) := by decide +kernel
theorem dX12_back_41 : decode cX12_back 41 = .ok (.aload_n 0, 1) := by decide +kernel
theorem dX12_back_42 : decode cX12_back 42 = .ok (.getfield 59, 3) := by decide +kernel
theorem dX12_back_45 : decode cX12_back 45 = .ok (.iload_n 1, 1) := by decide +kernel
theorem dX12_back_46 : decode cX12_back 46 = .ok (.iaload, 1) := by decide +kernel
theorem dX12_back_47 : decode cX12_back 47 = .ok (.iconst (-1), 1) := by decide +kernel
theorem dX12_back_48 : decode cX12_back 48 = .ok (.if_icmp .eq 6, 3) := by decide +kernel
theorem dX12_back_51 : decode cX12_back 51 = .ok (.bipush (-5), 2) := by decide +kernel
theorem dX12_back_53 : decode cX12_back 53 = .ok (.ireturn, 1) := by decide +kernel
theorem dX12_back_54 : decode cX12_back 54 = .ok (.aload_n 0, 1) := by decide +kernel
theorem dX12_back_55 : decode cX12_back 55 = .ok (.iload_n 1, 1) := by decide +kernel
theorem dX12_back_56 : decode cX12_back 56 = .ok (.invokevirtual 224, 3) := by decide +kernel
theorem dX12_back_59 : decode cX12_back 59 = .ok (.aload_n 0, 1) := by decide +kernel
theorem dX12_back_60 : decode cX12_back 60 = .ok (.invokevirtual 159, 3) := by decide +kernel
theorem dX12_back_63 : decode cX12_back 63 = .ok (.aload_n 0, 1) := by decide +kernel
theorem dX12_back_64 : decode cX12_back 64 = .ok (.iload_n 1, 1) := by decide +kernel
theorem dX12_back_65 : decode cX12_back 65 = .ok (.i2l, 1) := by decide +kernel
theorem dX12_back_66 : decode cX12_back 66 = .ok (.invokevirtual 162, 3) := by decide +kernel
theorem dX12_back_69 : decode cX12_back 69 = .ok (.aload_n 0, 1) := by decide +kernel
theorem dX12_back_70 : decode cX12_back 70 = .ok (.iload_n 2, 1) := by decide +kernel
theorem dX12_back_71 : decode cX12_back 71 = .ok (.i2l, 1) := by decide +kernel
theorem dX12_back_72 : decode cX12_back 72 = .ok (.invokevirtual 162, 3) := by decide +kernel
theorem dX12_back_75 : decode cX12_back 75 = .ok (.aload_n 0, 1) := by decide +kernel
theorem dX12_back_76 : decode cX12_back 76 = .ok (.iload_n 2, 1) := by decide +kernel
theorem dX12_back_77 : decode cX12_back 77 = .ok (.invokevirtual 210, 3) := by decide +kernel
theorem dX12_back_80 : decode cX12_back 80 = .ok (.istore_n 3, 1) := by decide +kernel
theorem dX12_back_81 : decode cX12_back 81 = .ok (.iload_n 3, 1) := by decide +kernel
theorem dX12_back_82 : decode cX12_back 82 = .ok (.ifCond .ge 5, 3) := by decide +kernel
theorem dX12_back_85 : decode cX12_back 85 = .ok (.iload_n 3, 1) := by decide +kernel
theorem dX12_back_86 : decode cX12_back 86 = .ok (.ireturn, 1) := by decide +kernel
theorem dX12_back_87 : decode cX12_back 87 = .ok (.aload_n 0, 1) := by decide +kernel
theorem dX12_back_88 : decode cX12_back 88 = .ok (.iload_n 2, 1) := by decide +kernel
theorem dX12_back_89 : decode cX12_back 89 = .ok (.aload_n 0, 1) := by decide +kernel
theorem dX12_back_90 : decode cX12_back 90 = .ok (.getfield 50, 3) := by decide +kernel
theorem dX12_back_93 : decode cX12_back 93 = .ok (.iload_n 1, 1) := by decide +kernel
theorem dX12_back_94 : decode cX12_back 94 = .ok (.iaload, 1) := by decide +kernel
theorem dX12_back_95 : decode cX12_back 95 = .ok (.iconst 1, 1) := by decide +kernel
theorem dX12_back_96 : decode cX12_back 96 = .ok (.iload_n 1, 1) := by decide +kernel
theorem dX12_back_97 : decode cX12_back 97 = .ok (.invokevirtual 213, 3) := by decide +kernel
theorem dX12_back_100 : decode cX12_back 100 = .ok (.istore 4, 2) := by decide +kernel
theorem dX12_back_102 : decode cX12_back 102 = .ok (.aload_n 0, 1) := by decide +kernel
theorem dX12_back_103 : decode cX12_back 103 = .ok (.getfield 59, 3) := by decide +kernel
theorem dX12_back_106 : decode cX12_back 106 = .ok (.iload_n 1, 1) := by decide +kernel
theorem dX12_back_107 : decode cX12_back 107 = .ok (.iload 4, 2) := by decide +kernel
theorem dX12_back_109 : decode cX12_back 109 = .ok (.iastore, 1) := by decide +kernel
theorem dX12_back_110 : decode cX12_back 110 = .ok (.aload_n 0, 1) := by decide +kernel
theorem dX12_back_111 : decode cX12_back 111 = .ok (.bipush 6, 2) := by decide +kernel
theorem dX12_back_113 : decode cX12_back 113 = .ok (.invokevirtual 170, 3) := by decide +kernel
theorem dX12_back_116 : decode cX12_back 116 = .ok (.iload 4, 2) := by decide +kernel
theorem dX12_back_118 : decode cX12_back 118 = .ok (.ireturn, 1) := by decide +kernel
theorem dX12_turned_0 : decode cX12_turned 0 = .ok (.aload_n 0, 1) := by decide +kernel
theorem dX12_turned_1 : decode cX12_turned 1 = .ok (.iconst 0, 1) := by decide +kernel
theorem dX12_turned_2 : decode cX12_turned 2 = .ok (.putfield 187, 3) := by decide +kernel
theorem dX12_turned_5 : decode cX12_turned 5 = .ok (.aload_n 0, 1) := by decide +kernel
theorem dX12_turned_6 : decode cX12_turned 6 = .ok (.getfield 56, 3) := by decide +kernel
theorem dX12_turned_9 : decode cX12_turned 9 = .ok (.iload_n 1, 1) := by decide +kernel
theorem dX12_turned_10 : decode cX12_turned 10 = .ok (.iaload, 1) := by decide +kernel
theorem dX12_turned_11 : decode cX12_turned 11 = .ok (.istore_n 2, 1) := by decide +kernel
theorem dX12_turned_12 : decode cX12_turned 12 = .ok (.iload_n 2, 1) := by decide +kernel
theorem dX12_turned_13 : decode cX12_turned 13 = .ok (.aload_n 0, 1) := by decide +kernel
theorem dX12_turned_14 : decode cX12_turned 14 = .ok (.getfield 56, 3) := by decide +kernel
theorem dX12_turned_17 : decode cX12_turned 17 = .ok (.iload_n 1, 1) := by decide +kernel
theorem dX12_turned_18 : decode cX12_turned 18 = .ok (.iconst 1, 1) := by decide +kernel
theorem dX12_turned_19 : decode cX12_turned 19 = .ok (.iadd, 1) := by decide +kernel
theorem dX12_turned_20 : decode cX12_turned 20 = .ok (.iaload, 1) := by decide +kernel
theorem dX12_turned_21 : decode cX12_turned 21 = .ok (.if_icmp .ge 26, 3) := by decide +kernel
theorem dX12_turned_24 : decode cX12_turned 24 = .ok (.aload_n 0, 1) := by decide +kernel
theorem dX12_turned_25 : decode cX12_turned 25 = .ok (.aload_n 0, 1) := by decide +kernel
theorem dX12_turned_26 : decode cX12_turned 26 = .ok (.getfield 65, 3) := by decide +kernel
theorem dX12_turned_29 : decode cX12_turned 29 = .ok (.iload_n 2, 1) := by decide +kernel
theorem dX12_turned_30 : decode cX12_turned 30 = .ok (.iaload, 1) := by decide +kernel
theorem dX12_turned_31 : decode cX12_turned 31 = .ok (.aload_n 0, 1) := by decide +kernel
theorem dX12_turned_32 : decode cX12_turned 32 = .ok (.getfield 68, 3) := by decide +kernel
theorem dX12_turned_35 : decode cX12_turned 35 = .ok (.iload_n 2, 1) := by decide +kernel
theorem dX12_turned_36 : decode cX12_turned 36 = .ok (.laload, 1) := by decide +kernel
theorem dX12_turned_37 : decode cX12_turned 37 = .ok (.lneg, 1) := by decide +kernel
theorem dX12_turned_38 : decode cX12_turned 38 = .ok (.invokevirtual 217, 3) := by decide +kernel
theorem dX12_turned_41 : decode cX12_turned 41 = .ok (.iinc 2 1, 3) := by decide +kernel
theorem dX12_turned_44 : decode cX12_turned 44 = .ok (.goto (-32), 3) := by decide +kernel
theorem dX12_turned_47 : decode cX12_turned 47 = .ok (.return_, 1) := by decide +kernel
theorem dX12_sumOf_0 : decode cX12_sumOf 0 = .ok (.lconst 0, 1) := by decide +kernel
theorem dX12_sumOf_1 : decode cX12_sumOf 1 = .ok (.lstore 4, 2) := by decide +kernel
theorem dX12_sumOf_3 : decode cX12_sumOf 3 = .ok (.iconst 0, 1) := by decide +kernel
theorem dX12_sumOf_4 : decode cX12_sumOf 4 = .ok (.istore 6, 2) := by decide +kernel
theorem dX12_sumOf_6 : decode cX12_sumOf 6 = .ok (.iload 6, 2) := by decide +kernel
theorem dX12_sumOf_8 : decode cX12_sumOf 8 = .ok (.aload_n 0, 1) := by decide +kernel
theorem dX12_sumOf_9 : decode cX12_sumOf 9 = .ok (.getfield 203, 3) := by decide +kernel
theorem dX12_sumOf_12 : decode cX12_sumOf 12 = .ok (.if_icmp .ge 83, 3) := by decide +kernel
theorem dX12_sumOf_15 : decode cX12_sumOf 15 = .ok (.aload_n 0, 1) := by decide +kernel
theorem dX12_sumOf_16 : decode cX12_sumOf 16 = .ok (.getfield 56, 3) := by decide +kernel
theorem dX12_sumOf_19 : decode cX12_sumOf 19 = .ok (.iload 6, 2) := by decide +kernel
theorem dX12_sumOf_21 : decode cX12_sumOf 21 = .ok (.iaload, 1) := by decide +kernel
theorem dX12_sumOf_22 : decode cX12_sumOf 22 = .ok (.istore 7, 2) := by decide +kernel
theorem dX12_sumOf_24 : decode cX12_sumOf 24 = .ok (.iload 7, 2) := by decide +kernel
theorem dX12_sumOf_26 : decode cX12_sumOf 26 = .ok (.aload_n 0, 1) := by decide +kernel
theorem dX12_sumOf_27 : decode cX12_sumOf 27 = .ok (.getfield 56, 3) := by decide +kernel
theorem dX12_sumOf_30 : decode cX12_sumOf 30 = .ok (.iload 6, 2) := by decide +kernel
theorem dX12_sumOf_32 : decode cX12_sumOf 32 = .ok (.iconst 1, 1) := by decide +kernel
theorem dX12_sumOf_33 : decode cX12_sumOf 33 = .ok (.iadd, 1) := by decide +kernel
theorem dX12_sumOf_34 : decode cX12_sumOf 34 = .ok (.iaload, 1) := by decide +kernel
theorem dX12_sumOf_35 : decode cX12_sumOf 35 = .ok (.if_icmp .ge 54, 3) := by decide +kernel
theorem dX12_sumOf_38 : decode cX12_sumOf 38 = .ok (.aload_n 0, 1) := by decide +kernel
theorem dX12_sumOf_39 : decode cX12_sumOf 39 = .ok (.getfield 47, 3) := by decide +kernel
theorem dX12_sumOf_42 : decode cX12_sumOf 42 = .ok (.iload 6, 2) := by decide +kernel
theorem dX12_sumOf_44 : decode cX12_sumOf 44 = .ok (.iaload, 1) := by decide +kernel
theorem dX12_sumOf_45 : decode cX12_sumOf 45 = .ok (.i2l, 1) := by decide +kernel
theorem dX12_sumOf_46 : decode cX12_sumOf 46 = .ok (.iload_n 2, 1) := by decide +kernel
theorem dX12_sumOf_47 : decode cX12_sumOf 47 = .ok (.i2l, 1) := by decide +kernel
theorem dX12_sumOf_48 : decode cX12_sumOf 48 = .ok (.iload_n 3, 1) := by decide +kernel
theorem dX12_sumOf_49 : decode cX12_sumOf 49 = .ok (.i2l, 1) := by decide +kernel
theorem dX12_sumOf_50 : decode cX12_sumOf 50 = .ok (.invokestatic 116, 3) := by decide +kernel
theorem dX12_sumOf_53 : decode cX12_sumOf 53 = .ok (.ifCond .eq 36, 3) := by decide +kernel
theorem dX12_sumOf_56 : decode cX12_sumOf 56 = .ok (.lload 4, 2) := by decide +kernel
theorem dX12_sumOf_58 : decode cX12_sumOf 58 = .ok (.aload_n 0, 1) := by decide +kernel
theorem dX12_sumOf_59 : decode cX12_sumOf 59 = .ok (.getfield 65, 3) := by decide +kernel
theorem dX12_sumOf_62 : decode cX12_sumOf 62 = .ok (.iload 7, 2) := by decide +kernel
theorem dX12_sumOf_64 : decode cX12_sumOf 64 = .ok (.iaload, 1) := by decide +kernel
theorem dX12_sumOf_65 : decode cX12_sumOf 65 = .ok (.iload_n 1, 1) := by decide +kernel
theorem dX12_sumOf_66 : decode cX12_sumOf 66 = .ok (.if_icmp .ne 13, 3) := by decide +kernel
theorem dX12_sumOf_69 : decode cX12_sumOf 69 = .ok (.aload_n 0, 1) := by decide +kernel
theorem dX12_sumOf_70 : decode cX12_sumOf 70 = .ok (.getfield 68, 3) := by decide +kernel
theorem dX12_sumOf_73 : decode cX12_sumOf 73 = .ok (.iload 7, 2) := by decide +kernel
theorem dX12_sumOf_75 : decode cX12_sumOf 75 = .ok (.laload, 1) := by decide +kernel
theorem dX12_sumOf_76 : decode cX12_sumOf 76 = .ok (.goto 4, 3) := by decide +kernel
theorem dX12_sumOf_79 : decode cX12_sumOf 79 = .ok (.lconst 0, 1) := by decide +kernel
theorem dX12_sumOf_80 : decode cX12_sumOf 80 = .ok (.ladd, 1) := by decide +kernel
theorem dX12_sumOf_81 : decode cX12_sumOf 81 = .ok (.lstore 4, 2) := by decide +kernel
theorem dX12_sumOf_83 : decode cX12_sumOf 83 = .ok (.iinc 7 1, 3) := by decide +kernel
theorem dX12_sumOf_86 : decode cX12_sumOf 86 = .ok (.goto (-62), 3) := by decide +kernel
theorem dX12_sumOf_89 : decode cX12_sumOf 89 = .ok (.iinc 6 1, 3) := by decide +kernel
theorem dX12_sumOf_92 : decode cX12_sumOf 92 = .ok (.goto (-86), 3) := by decide +kernel
theorem dX12_sumOf_95 : decode cX12_sumOf 95 = .ok (.lload 4, 2) := by decide +kernel
theorem dX12_sumOf_97 : decode cX12_sumOf 97 = .ok (.lreturn, 1) := by decide +kernel
theorem dX12_nextCode_0 : decode cX12_nextCode 0 = .ok (.iconst (-1), 1) := by decide +kernel
theorem dX12_nextCode_1 : decode cX12_nextCode 1 = .ok (.istore_n 2, 1) := by decide +kernel
theorem dX12_nextCode_2 : decode cX12_nextCode 2 = .ok (.iconst 0, 1) := by decide +kernel
theorem dX12_nextCode_3 : decode cX12_nextCode 3 = .ok (.istore_n 3, 1) := by decide +kernel
theorem dX12_nextCode_4 : decode cX12_nextCode 4 = .ok (.iload_n 3, 1) := by decide +kernel
theorem dX12_nextCode_5 : decode cX12_nextCode 5 = .ok (.aload_n 0, 1) := by decide +kernel
theorem dX12_nextCode_6 : decode cX12_nextCode 6 = .ok (.getfield 113, 3) := by decide +kernel
theorem dX12_nextCode_9 : decode cX12_nextCode 9 = .ok (.if_icmp .ge 44, 3) := by decide +kernel
theorem dX12_nextCode_12 : decode cX12_nextCode 12 = .ok (.aload_n 0, 1) := by decide +kernel
theorem dX12_nextCode_13 : decode cX12_nextCode 13 = .ok (.getfield 13, 3) := by decide +kernel
theorem dX12_nextCode_16 : decode cX12_nextCode 16 = .ok (.iload_n 3, 1) := by decide +kernel
theorem dX12_nextCode_17 : decode cX12_nextCode 17 = .ok (.iaload, 1) := by decide +kernel
theorem dX12_nextCode_18 : decode cX12_nextCode 18 = .ok (.iload_n 1, 1) := by decide +kernel
theorem dX12_nextCode_19 : decode cX12_nextCode 19 = .ok (.if_icmp .le 26, 3) := by decide +kernel
theorem dX12_nextCode_22 : decode cX12_nextCode 22 = .ok (.iload_n 2, 1) := by decide +kernel
theorem dX12_nextCode_23 : decode cX12_nextCode 23 = .ok (.ifCond .lt 18, 3) := by decide +kernel
theorem dX12_nextCode_26 : decode cX12_nextCode 26 = .ok (.aload_n 0, 1) := by decide +kernel
theorem dX12_nextCode_27 : decode cX12_nextCode 27 = .ok (.getfield 13, 3) := by decide +kernel
theorem dX12_nextCode_30 : decode cX12_nextCode 30 = .ok (.iload_n 3, 1) := by decide +kernel
theorem dX12_nextCode_31 : decode cX12_nextCode 31 = .ok (.iaload, 1) := by decide +kernel
theorem dX12_nextCode_32 : decode cX12_nextCode 32 = .ok (.aload_n 0, 1) := by decide +kernel
theorem dX12_nextCode_33 : decode cX12_nextCode 33 = .ok (.getfield 13, 3) := by decide +kernel
theorem dX12_nextCode_36 : decode cX12_nextCode 36 = .ok (.iload_n 2, 1) := by decide +kernel
theorem dX12_nextCode_37 : decode cX12_nextCode 37 = .ok (.iaload, 1) := by decide +kernel
theorem dX12_nextCode_38 : decode cX12_nextCode 38 = .ok (.if_icmp .ge 7, 3) := by decide +kernel
theorem dX12_nextCode_41 : decode cX12_nextCode 41 = .ok (.iload_n 3, 1) := by decide +kernel
theorem dX12_nextCode_42 : decode cX12_nextCode 42 = .ok (.goto 4, 3) := by decide +kernel
theorem dX12_nextCode_45 : decode cX12_nextCode 45 = .ok (.iload_n 2, 1) := by decide +kernel
theorem dX12_nextCode_46 : decode cX12_nextCode 46 = .ok (.istore_n 2, 1) := by decide +kernel
theorem dX12_nextCode_47 : decode cX12_nextCode 47 = .ok (.iinc 3 1, 3) := by decide +kernel
theorem dX12_nextCode_50 : decode cX12_nextCode 50 = .ok (.goto (-46), 3) := by decide +kernel
theorem dX12_nextCode_53 : decode cX12_nextCode 53 = .ok (.iload_n 2, 1) := by decide +kernel
theorem dX12_nextCode_54 : decode cX12_nextCode 54 = .ok (.ireturn, 1) := by decide +kernel
theorem dX12_close_0 : decode cX12_close 0 = .ok (.aload_n 0, 1) := by decide +kernel
theorem dX12_close_1 : decode cX12_close 1 = .ok (.getfield 7, 3) := by decide +kernel
theorem dX12_close_4 : decode cX12_close 4 = .ok (.ifCond .ne 6, 3) := by decide +kernel
theorem dX12_close_7 : decode cX12_close 7 = .ok (.bipush (-6), 2) := by decide +kernel
theorem dX12_close_9 : decode cX12_close 9 = .ok (.ireturn, 1) := by decide +kernel
theorem dX12_close_10 : decode cX12_close 10 = .ok (.aload_n 0, 1) := by decide +kernel
theorem dX12_close_11 : decode cX12_close 11 = .ok (.getfield 197, 3) := by decide +kernel
theorem dX12_close_14 : decode cX12_close 14 = .ok (.aload_n 0, 1) := by decide +kernel
theorem dX12_close_15 : decode cX12_close 15 = .ok (.getfield 173, 3) := by decide +kernel
theorem dX12_close_18 : decode cX12_close 18 = .ok (.if_icmp .eq 11, 3) := by decide +kernel
theorem dX12_close_21 : decode cX12_close 21 = .ok (.aload_n 0, 1) := by decide +kernel
theorem dX12_close_22 : decode cX12_close 22 = .ok (.getfield 37, 3) := by decide +kernel
theorem dX12_close_25 : decode cX12_close 25 = .ok (.iconst (-1), 1) := by decide +kernel
theorem dX12_close_26 : decode cX12_close 26 = .ok (.if_icmp .ne 6, 3) := by decide +kernel
theorem dX12_close_29 : decode cX12_close 29 = .ok (.bipush (-6), 2) := by decide +kernel
theorem dX12_close_31 : decode cX12_close 31 = .ok (.ireturn, 1) := by decide +kernel
theorem dX12_close_32 : decode cX12_close 32 = .ok (.aload_n 0, 1) := by decide +kernel
theorem dX12_close_33 : decode cX12_close 33 = .ok (.getfield 197, 3) := by decide +kernel
theorem dX12_close_36 : decode cX12_close 36 = .ok (.istore_n 1, 1) := by decide +kernel
theorem dX12_close_37 : decode cX12_close 37 = .ok (.aload_n 0, 1) := by decide +kernel
theorem dX12_close_38 : decode cX12_close 38 = .ok (.iconst 0, 1) := by decide +kernel
theorem dX12_close_39 : decode cX12_close 39 = .ok (.putfield 187, 3) := by decide +kernel
theorem dX12_close_42 : decode cX12_close 42 = .ok (.lconst 0, 1) := by decide +kernel
theorem dX12_close_43 : decode cX12_close 43 = .ok (.lstore_n 2, 1) := by decide +kernel
theorem dX12_close_44 : decode cX12_close 44 = .ok (.aload_n 0, 1) := by decide +kernel
theorem dX12_close_45 : decode cX12_close 45 = .ok (.iconst 0, 1) := by decide +kernel
theorem dX12_close_46 : decode cX12_close 46 = .ok (.invokevirtual 227, 3) := by decide +kernel
theorem dX12_close_49 : decode cX12_close 49 = .ok (.istore 4, 2) := by decide +kernel
theorem dX12_close_51 : decode cX12_close 51 = .ok (.iload 4, 2) := by decide +kernel
theorem dX12_close_53 : decode cX12_close 53 = .ok (.iconst (-1), 1) := by decide +kernel
theorem dX12_close_54 : decode cX12_close 54 = .ok (.if_icmp .eq 80, 3) := by decide +kernel
theorem dX12_close_57 : decode cX12_close 57 = .ok (.aload_n 0, 1) := by decide +kernel
theorem dX12_close_58 : decode cX12_close 58 = .ok (.getfield 23, 3) := by decide +kernel
theorem dX12_close_61 : decode cX12_close 61 = .ok (.iload 4, 2) := by decide +kernel
theorem dX12_close_63 : decode cX12_close 63 = .ok (.baload, 1) := by decide +kernel
theorem dX12_close_64 : decode cX12_close 64 = .ok (.ifCond .ne 54, 3) := by decide +kernel
theorem dX12_close_67 : decode cX12_close 67 = .ok (.aload_n 0, 1) := by decide +kernel
theorem dX12_close_68 : decode cX12_close 68 = .ok (.getfield 17, 3) := by decide +kernel
theorem dX12_close_71 : decode cX12_close 71 = .ok (.iload 4, 2) := by decide +kernel
theorem dX12_close_73 : decode cX12_close 73 = .ok (.iaload, 1) := by decide +kernel
theorem dX12_close_74 : decode cX12_close 74 = .ok (.iconst 2, 1) := by decide +kernel
theorem dX12_close_75 : decode cX12_close 75 = .ok (.if_icmp .le 43, 3) := by decide +kernel
theorem dX12_close_78 : decode cX12_close 78 = .ok (.aload_n 0, 1) := by decide +kernel
theorem dX12_close_79 : decode cX12_close 79 = .ok (.iload 4, 2) := by decide +kernel
theorem dX12_close_81 : decode cX12_close 81 = .ok (.aload_n 0, 1) := by decide +kernel
theorem dX12_close_82 : decode cX12_close 82 = .ok (.iload_n 1, 1) := by decide +kernel
theorem dX12_close_83 : decode cX12_close 83 = .ok (.invokevirtual 176, 3) := by decide +kernel
theorem dX12_close_86 : decode cX12_close 86 = .ok (.aload_n 0, 1) := by decide +kernel
theorem dX12_close_87 : decode cX12_close 87 = .ok (.getfield 41, 3) := by decide +kernel
theorem dX12_close_90 : decode cX12_close 90 = .ok (.iload_n 1, 1) := by decide +kernel
theorem dX12_close_91 : decode cX12_close 91 = .ok (.iaload, 1) := by decide +kernel
theorem dX12_close_92 : decode cX12_close 92 = .ok (.invokevirtual 230, 3) := by decide +kernel
theorem dX12_close_95 : decode cX12_close 95 = .ok (.lstore 5, 2) := by decide +kernel
theorem dX12_close_97 : decode cX12_close 97 = .ok (.lload 5, 2) := by decide +kernel
theorem dX12_close_99 : decode cX12_close 99 = .ok (.lconst 0, 1) := by decide +kernel
theorem dX12_close_100 : decode cX12_close 100 = .ok (.lcmp, 1) := by decide +kernel
theorem dX12_close_101 : decode cX12_close 101 = .ok (.ifCond .eq 17, 3) := by decide +kernel
theorem dX12_close_104 : decode cX12_close 104 = .ok (.aload_n 0, 1) := by decide +kernel
theorem dX12_close_105 : decode cX12_close 105 = .ok (.iload 4, 2) := by decide +kernel
theorem dX12_close_107 : decode cX12_close 107 = .ok (.lload 5, 2) := by decide +kernel
theorem dX12_close_109 : decode cX12_close 109 = .ok (.lneg, 1) := by decide +kernel
theorem dX12_close_110 : decode cX12_close 110 = .ok (.invokevirtual 217, 3) := by decide +kernel
theorem dX12_close_113 : decode cX12_close 113 = .ok (.lload_n 2, 1) := by decide +kernel
theorem dX12_close_114 : decode cX12_close 114 = .ok (.lload 5, 2) := by decide +kernel
theorem dX12_close_116 : decode cX12_close 116 = .ok (.lsub, 1) := by decide +kernel
theorem dX12_close_117 : decode cX12_close 117 = .ok (.lstore_n 2, 1) := by decide +kernel
theorem dX12_close_118 : decode cX12_close 118 = .ok (.aload_n 0, 1) := by decide +kernel
theorem dX12_close_119 : decode cX12_close 119 = .ok (.aload_n 0, 1) := by decide +kernel
theorem dX12_close_120 : decode cX12_close 120 = .ok (.getfield 13, 3) := by decide +kernel
theorem dX12_close_123 : decode cX12_close 123 = .ok (.iload 4, 2) := by decide +kernel
theorem dX12_close_125 : decode cX12_close 125 = .ok (.iaload, 1) := by decide +kernel
theorem dX12_close_126 : decode cX12_close 126 = .ok (.invokevirtual 227, 3) := by decide +kernel
theorem dX12_close_129 : decode cX12_close 129 = .ok (.istore 4, 2) := by decide +kernel
theorem dX12_close_131 : decode cX12_close 131 = .ok (.goto (-80), 3) := by decide +kernel
theorem dX12_close_134 : decode cX12_close 134 = .ok (.lload_n 2, 1) := by decide +kernel
theorem dX12_close_135 : decode cX12_close 135 = .ok (.lconst 0, 1) := by decide +kernel
theorem dX12_close_136 : decode cX12_close 136 = .ok (.lcmp, 1) := by decide +kernel
theorem dX12_close_137 : decode cX12_close 137 = .ok (.ifCond .eq 13, 3) := by decide +kernel
theorem dX12_close_140 : decode cX12_close 140 = .ok (.aload_n 0, 1) := by decide +kernel
theorem dX12_close_141 : decode cX12_close 141 = .ok (.aload_n 0, 1) := by decide +kernel
theorem dX12_close_142 : decode cX12_close 142 = .ok (.getfield 37, 3) := by decide +kernel
theorem dX12_close_145 : decode cX12_close 145 = .ok (.lload_n 2, 1) := by decide +kernel
theorem dX12_close_146 : decode cX12_close 146 = .ok (.lneg, 1) := by decide +kernel
theorem dX12_close_147 : decode cX12_close 147 = .ok (.invokevirtual 217, 3) := by decide +kernel
theorem dX12_close_150 : decode cX12_close 150 = .ok (.aload_n 0, 1) := by decide +kernel
theorem dX12_close_151 : decode cX12_close 151 = .ok (.invokevirtual 200, 3) := by decide +kernel
theorem dX12_close_154 : decode cX12_close 154 = .ok (.ifCond .eq 6, 3) := by decide +kernel
theorem dX12_close_157 : decode cX12_close 157 = .ok (.bipush (-12), 2) := by decide +kernel
theorem dX12_close_159 : decode cX12_close 159 = .ok (.ireturn, 1) := by decide +kernel
theorem dX12_close_160 : decode cX12_close 160 = .ok (.aload_n 0, 1) := by decide +kernel
theorem dX12_close_161 : decode cX12_close 161 = .ok (.invokevirtual 159, 3) := by decide +kernel
theorem dX12_close_164 : decode cX12_close 164 = .ok (.aload_n 0, 1) := by decide +kernel
theorem dX12_close_165 : decode cX12_close 165 = .ok (.getfield 187, 3) := by decide +kernel
theorem dX12_close_168 : decode cX12_close 168 = .ok (.ifCond .le 13, 3) := by decide +kernel
theorem dX12_close_171 : decode cX12_close 171 = .ok (.aload_n 0, 1) := by decide +kernel
theorem dX12_close_172 : decode cX12_close 172 = .ok (.getfield 203, 3) := by decide +kernel
theorem dX12_close_175 : decode cX12_close 175 = .ok (.sipush 400, 3) := by decide +kernel
theorem dX12_close_178 : decode cX12_close 178 = .ok (.if_icmp .eq 10, 3) := by decide +kernel
theorem dX12_close_181 : decode cX12_close 181 = .ok (.aload_n 0, 1) := by decide +kernel
theorem dX12_close_182 : decode cX12_close 182 = .ok (.invokevirtual 166, 3) := by decide +kernel
theorem dX12_close_185 : decode cX12_close 185 = .ok (.ifCond .ne 6, 3) := by decide +kernel
theorem dX12_close_188 : decode cX12_close 188 = .ok (.bipush (-13), 2) := by decide +kernel
theorem dX12_close_190 : decode cX12_close 190 = .ok (.ireturn, 1) := by decide +kernel
theorem dX12_close_191 : decode cX12_close 191 = .ok (.aload_n 0, 1) := by decide +kernel
theorem dX12_close_192 : decode cX12_close 192 = .ok (.getfield 187, 3) := by decide +kernel
theorem dX12_close_195 : decode cX12_close 195 = .ok (.ifCond .le 22, 3) := by decide +kernel
theorem dX12_close_198 : decode cX12_close 198 = .ok (.aload_n 0, 1) := by decide +kernel
theorem dX12_close_199 : decode cX12_close 199 = .ok (.getfield 44, 3) := by decide +kernel
theorem dX12_close_202 : decode cX12_close 202 = .ok (.iload_n 1, 1) := by decide +kernel
theorem dX12_close_203 : decode cX12_close 203 = .ok (.aload_n 0, 1) := by decide +kernel
theorem dX12_close_204 : decode cX12_close 204 = .ok (.aload_n 0, 1) := by decide +kernel
theorem dX12_close_205 : decode cX12_close 205 = .ok (.getfield 41, 3) := by decide +kernel
theorem dX12_close_208 : decode cX12_close 208 = .ok (.iload_n 1, 1) := by decide +kernel
theorem dX12_close_209 : decode cX12_close 209 = .ok (.iaload, 1) := by decide +kernel
theorem dX12_close_210 : decode cX12_close 210 = .ok (.iconst 0, 1) := by decide +kernel
theorem dX12_close_211 : decode cX12_close 211 = .ok (.iconst 2, 1) := by decide +kernel
theorem dX12_close_212 : decode cX12_close 212 = .ok (.iload_n 1, 1) := by decide +kernel
theorem dX12_close_213 : decode cX12_close 213 = .ok (.invokevirtual 213, 3) := by decide +kernel
theorem dX12_close_216 : decode cX12_close 216 = .ok (.iastore, 1) := by decide +kernel
theorem dX12_close_217 : decode cX12_close 217 = .ok (.aload_n 0, 1) := by decide +kernel
theorem dX12_close_218 : decode cX12_close 218 = .ok (.dup, 1) := by decide +kernel
theorem dX12_close_219 : decode cX12_close 219 = .ok (.getfield 197, 3) := by decide +kernel
theorem dX12_close_222 : decode cX12_close 222 = .ok (.iconst 1, 1) := by decide +kernel
theorem dX12_close_223 : decode cX12_close 223 = .ok (.iadd, 1) := by decide +kernel
theorem dX12_close_224 : decode cX12_close 224 = .ok (.putfield 197, 3) := by decide +kernel
theorem dX12_close_227 : decode cX12_close 227 = .ok (.aload_n 0, 1) := by decide +kernel
theorem dX12_close_228 : decode cX12_close 228 = .ok (.bipush 7, 2) := by decide +kernel
theorem dX12_close_230 : decode cX12_close 230 = .ok (.invokevirtual 170, 3) := by decide +kernel
theorem dX12_close_233 : decode cX12_close 233 = .ok (.iload_n 1, 1) := by decide +kernel
theorem dX12_close_234 : decode cX12_close 234 = .ok (.ireturn, 1) := by decide +kernel
theorem dX12_reopen_0 : decode cX12_reopen 0 = .ok (.aload_n 0, 1) := by decide +kernel
theorem dX12_reopen_1 : decode cX12_reopen 1 = .ok (.getfield 7, 3) := by decide +kernel
theorem dX12_reopen_4 : decode cX12_reopen 4 = .ok (.ifCond .ne 6, 3) := by decide +kernel
theorem dX12_reopen_7 : decode cX12_reopen 7 = .ok (.bipush (-6), 2) := by decide +kernel
theorem dX12_reopen_9 : decode cX12_reopen 9 = .ok (.ireturn, 1) := by decide +kernel
theorem dX12_reopen_10 : decode cX12_reopen 10 = .ok (.aload_n 0, 1) := by decide +kernel
theorem dX12_reopen_11 : decode cX12_reopen 11 = .ok (.getfield 197, 3) := by decide +kernel
theorem dX12_reopen_14 : decode cX12_reopen 14 = .ok (.ifCond .ne 6, 3) := by decide +kernel
theorem dX12_reopen_17 : decode cX12_reopen 17 = .ok (.bipush (-6), 2) := by decide +kernel
theorem dX12_reopen_19 : decode cX12_reopen 19 = .ok (.ireturn, 1) := by decide +kernel
theorem dX12_reopen_20 : decode cX12_reopen 20 = .ok (.aload_n 0, 1) := by decide +kernel
theorem dX12_reopen_21 : decode cX12_reopen 21 = .ok (.getfield 197, 3) := by decide +kernel
theorem dX12_reopen_24 : decode cX12_reopen 24 = .ok (.iconst 1, 1) := by decide +kernel
theorem dX12_reopen_25 : decode cX12_reopen 25 = .ok (.isub, 1) := by decide +kernel
theorem dX12_reopen_26 : decode cX12_reopen 26 = .ok (.istore_n 1, 1) := by decide +kernel
theorem dX12_reopen_27 : decode cX12_reopen 27 = .ok (.aload_n 0, 1) := by decide +kernel
theorem dX12_reopen_28 : decode cX12_reopen 28 = .ok (.iconst 0, 1) := by decide +kernel
theorem dX12_reopen_29 : decode cX12_reopen 29 = .ok (.putfield 187, 3) := by decide +kernel
theorem dX12_reopen_32 : decode cX12_reopen 32 = .ok (.aload_n 0, 1) := by decide +kernel
theorem dX12_reopen_33 : decode cX12_reopen 33 = .ok (.getfield 44, 3) := by decide +kernel
theorem dX12_reopen_36 : decode cX12_reopen 36 = .ok (.iload_n 1, 1) := by decide +kernel
theorem dX12_reopen_37 : decode cX12_reopen 37 = .ok (.iaload, 1) := by decide +kernel
theorem dX12_reopen_38 : decode cX12_reopen 38 = .ok (.iconst (-1), 1) := by decide +kernel
theorem dX12_reopen_39 : decode cX12_reopen 39 = .ok (.if_icmp .eq 13, 3) := by decide +kernel
theorem dX12_reopen_42 : decode cX12_reopen 42 = .ok (.aload_n 0, 1) := by decide +kernel
theorem dX12_reopen_43 : decode cX12_reopen 43 = .ok (.aload_n 0, 1) := by decide +kernel
theorem dX12_reopen_44 : decode cX12_reopen 44 = .ok (.getfield 44, 3) := by decide +kernel
theorem dX12_reopen_47 : decode cX12_reopen 47 = .ok (.iload_n 1, 1) := by decide +kernel
theorem dX12_reopen_48 : decode cX12_reopen 48 = .ok (.iaload, 1) := by decide +kernel
theorem dX12_reopen_49 : decode cX12_reopen 49 = .ok (.invokevirtual 224, 3) := by decide +kernel
theorem dX12_reopen_52 : decode cX12_reopen 52 = .ok (.aload_n 0, 1) := by decide +kernel
theorem dX12_reopen_53 : decode cX12_reopen 53 = .ok (.invokevirtual 200, 3) := by decide +kernel
theorem dX12_reopen_56 : decode cX12_reopen 56 = .ok (.ifCond .eq 6, 3) := by decide +kernel
theorem dX12_reopen_59 : decode cX12_reopen 59 = .ok (.bipush (-12), 2) := by decide +kernel
theorem dX12_reopen_61 : decode cX12_reopen 61 = .ok (.ireturn, 1) := by decide +kernel
theorem dX12_reopen_62 : decode cX12_reopen 62 = .ok (.aload_n 0, 1) := by decide +kernel
theorem dX12_reopen_63 : decode cX12_reopen 63 = .ok (.invokevirtual 159, 3) := by decide +kernel
theorem dX12_reopen_66 : decode cX12_reopen 66 = .ok (.aload_n 0, 1) := by decide +kernel
theorem dX12_reopen_67 : decode cX12_reopen 67 = .ok (.getfield 187, 3) := by decide +kernel
theorem dX12_reopen_70 : decode cX12_reopen 70 = .ok (.ifCond .le 13, 3) := by decide +kernel
theorem dX12_reopen_73 : decode cX12_reopen 73 = .ok (.aload_n 0, 1) := by decide +kernel
theorem dX12_reopen_74 : decode cX12_reopen 74 = .ok (.getfield 203, 3) := by decide +kernel
theorem dX12_reopen_77 : decode cX12_reopen 77 = .ok (.sipush 400, 3) := by decide +kernel
theorem dX12_reopen_80 : decode cX12_reopen 80 = .ok (.if_icmp .eq 10, 3) := by decide +kernel
theorem dX12_reopen_83 : decode cX12_reopen 83 = .ok (.aload_n 0, 1) := by decide +kernel
theorem dX12_reopen_84 : decode cX12_reopen 84 = .ok (.invokevirtual 166, 3) := by decide +kernel
theorem dX12_reopen_87 : decode cX12_reopen 87 = .ok (.ifCond .ne 6, 3) := by decide +kernel
theorem dX12_reopen_90 : decode cX12_reopen 90 = .ok (.bipush (-13), 2) := by decide +kernel
theorem dX12_reopen_92 : decode cX12_reopen 92 = .ok (.ireturn, 1) := by decide +kernel
theorem dX12_reopen_93 : decode cX12_reopen 93 = .ok (.aload_n 0, 1) := by decide +kernel
theorem dX12_reopen_94 : decode cX12_reopen 94 = .ok (.getfield 187, 3) := by decide +kernel
theorem dX12_reopen_97 : decode cX12_reopen 97 = .ok (.ifCond .le 39, 3) := by decide +kernel
theorem dX12_reopen_100 : decode cX12_reopen 100 = .ok (.aload_n 0, 1) := by decide +kernel
theorem dX12_reopen_101 : decode cX12_reopen 101 = .ok (.aload_n 0, 1) := by decide +kernel
theorem dX12_reopen_102 : decode cX12_reopen 102 = .ok (.getfield 47, 3) := by decide +kernel
theorem dX12_reopen_105 : decode cX12_reopen 105 = .ok (.aload_n 0, 1) := by decide +kernel
theorem dX12_reopen_106 : decode cX12_reopen 106 = .ok (.getfield 44, 3) := by decide +kernel
theorem dX12_reopen_109 : decode cX12_reopen 109 = .ok (.iload_n 1, 1) := by decide +kernel
theorem dX12_reopen_110 : decode cX12_reopen 110 = .ok (.iaload, 1) := by decide +kernel
theorem dX12_reopen_111 : decode cX12_reopen 111 = .ok (.iaload, 1) := by decide +kernel
theorem dX12_reopen_112 : decode cX12_reopen 112 = .ok (.aload_n 0, 1) := by decide +kernel
theorem dX12_reopen_113 : decode cX12_reopen 113 = .ok (.getfield 50, 3) := by decide +kernel
theorem dX12_reopen_116 : decode cX12_reopen 116 = .ok (.aload_n 0, 1) := by decide +kernel
theorem dX12_reopen_117 : decode cX12_reopen 117 = .ok (.getfield 44, 3) := by decide +kernel
theorem dX12_reopen_120 : decode cX12_reopen 120 = .ok (.iload_n 1, 1) := by decide +kernel
theorem dX12_reopen_121 : decode cX12_reopen 121 = .ok (.iaload, 1) := by decide +kernel
theorem dX12_reopen_122 : decode cX12_reopen 122 = .ok (.iaload, 1) := by decide +kernel
theorem dX12_reopen_123 : decode cX12_reopen 123 = .ok (.iconst 3, 1) := by decide +kernel
theorem dX12_reopen_124 : decode cX12_reopen 124 = .ok (.iload_n 1, 1) := by decide +kernel
theorem dX12_reopen_125 : decode cX12_reopen 125 = .ok (.invokevirtual 213, 3) := by decide +kernel
theorem dX12_reopen_128 : decode cX12_reopen 128 = .ok (.istore_n 2, 1) := by decide +kernel
theorem dX12_reopen_129 : decode cX12_reopen 129 = .ok (.aload_n 0, 1) := by decide +kernel
theorem dX12_reopen_130 : decode cX12_reopen 130 = .ok (.getfield 44, 3) := by decide +kernel
theorem dX12_reopen_133 : decode cX12_reopen 133 = .ok (.iload_n 1, 1) := by decide +kernel
theorem dX12_reopen_134 : decode cX12_reopen 134 = .ok (.iconst (-1), 1) := by decide +kernel
theorem dX12_reopen_135 : decode cX12_reopen 135 = .ok (.iastore, 1) := by decide +kernel
theorem dX12_reopen_136 : decode cX12_reopen 136 = .ok (.aload_n 0, 1) := by decide +kernel
theorem dX12_reopen_137 : decode cX12_reopen 137 = .ok (.dup, 1) := by decide +kernel
theorem dX12_reopen_138 : decode cX12_reopen 138 = .ok (.getfield 197, 3) := by decide +kernel
theorem dX12_reopen_141 : decode cX12_reopen 141 = .ok (.iconst 1, 1) := by decide +kernel
theorem dX12_reopen_142 : decode cX12_reopen 142 = .ok (.isub, 1) := by decide +kernel
theorem dX12_reopen_143 : decode cX12_reopen 143 = .ok (.putfield 197, 3) := by decide +kernel
theorem dX12_reopen_146 : decode cX12_reopen 146 = .ok (.aload_n 0, 1) := by decide +kernel
theorem dX12_reopen_147 : decode cX12_reopen 147 = .ok (.bipush 8, 2) := by decide +kernel
theorem dX12_reopen_149 : decode cX12_reopen 149 = .ok (.invokevirtual 170, 3) := by decide +kernel
theorem dX12_reopen_152 : decode cX12_reopen 152 = .ok (.iload_n 1, 1) := by decide +kernel
theorem dX12_reopen_153 : decode cX12_reopen 153 = .ok (.ireturn, 1) := by decide +kernel
theorem dX12_shares_0 : decode cX12_shares 0 = .ok (.lconst 0, 1) := by decide +kernel
theorem dX12_shares_1 : decode cX12_shares 1 = .ok (.lstore_n 3, 1) := by decide +kernel
theorem dX12_shares_2 : decode cX12_shares 2 = .ok (.iconst 0, 1) := by decide +kernel
theorem dX12_shares_3 : decode cX12_shares 3 = .ok (.istore 5, 2) := by decide +kernel
theorem dX12_shares_5 : decode cX12_shares 5 = .ok (.iload 5, 2) := by decide +kernel
theorem dX12_shares_7 : decode cX12_shares 7 = .ok (.aload_n 0, 1) := by decide +kernel
theorem dX12_shares_8 : decode cX12_shares 8 = .ok (.getfield 234, 3) := by decide +kernel
theorem dX12_shares_11 : decode cX12_shares 11 = .ok (.if_icmp .ge 19, 3) := by decide +kernel
theorem dX12_shares_14 : decode cX12_shares 14 = .ok (.lload_n 3, 1) := by decide +kernel
theorem dX12_shares_15 : decode cX12_shares 15 = .ok (.aload_n 0, 1) := by decide +kernel
theorem dX12_shares_16 : decode cX12_shares 16 = .ok (.getfield 101, 3) := by decide +kernel
theorem dX12_shares_19 : decode cX12_shares 19 = .ok (.iload 5, 2) := by decide +kernel
theorem dX12_shares_21 : decode cX12_shares 21 = .ok (.laload, 1) := by decide +kernel
theorem dX12_shares_22 : decode cX12_shares 22 = .ok (.ladd, 1) := by decide +kernel
theorem dX12_shares_23 : decode cX12_shares 23 = .ok (.lstore_n 3, 1) := by decide +kernel
theorem dX12_shares_24 : decode cX12_shares 24 = .ok (.iinc 5 1, 3) := by decide +kernel
theorem dX12_shares_27 : decode cX12_shares 27 = .ok (.goto (-22), 3) := by decide +kernel
theorem dX12_shares_30 : decode cX12_shares 30 = .ok (.lload_n 1, 1) := by decide +kernel
theorem dX12_shares_31 : decode cX12_shares 31 = .ok (.lstore 5, 2) := by decide +kernel
theorem dX12_shares_33 : decode cX12_shares 33 = .ok (.iconst 0, 1) := by decide +kernel
theorem dX12_shares_34 : decode cX12_shares 34 = .ok (.istore 7, 2) := by decide +kernel
theorem dX12_shares_36 : decode cX12_shares 36 = .ok (.iload 7, 2) := by decide +kernel
theorem dX12_shares_38 : decode cX12_shares 38 = .ok (.aload_n 0, 1) := by decide +kernel
theorem dX12_shares_39 : decode cX12_shares 39 = .ok (.getfield 234, 3) := by decide +kernel
theorem dX12_shares_42 : decode cX12_shares 42 = .ok (.if_icmp .ge 82, 3) := by decide +kernel
theorem dX12_shares_45 : decode cX12_shares 45 = .ok (.aload_n 0, 1) := by decide +kernel
theorem dX12_shares_46 : decode cX12_shares 46 = .ok (.getfield 104, 3) := by decide +kernel
theorem dX12_shares_49 : decode cX12_shares 49 = .ok (.iload 7, 2) := by decide +kernel
theorem dX12_shares_51 : decode cX12_shares 51 = .ok (.lload_n 1, 1) := by decide +kernel
theorem dX12_shares_52 : decode cX12_shares 52 = .ok (.aload_n 0, 1) := by decide +kernel
theorem dX12_shares_53 : decode cX12_shares 53 = .ok (.getfield 101, 3) := by decide +kernel
theorem dX12_shares_56 : decode cX12_shares 56 = .ok (.iload 7, 2) := by decide +kernel
theorem dX12_shares_58 : decode cX12_shares 58 = .ok (.laload, 1) := by decide +kernel
theorem dX12_shares_59 : decode cX12_shares 59 = .ok (.lmul, 1) := by decide +kernel
theorem dX12_shares_60 : decode cX12_shares 60 = .ok (.lload_n 3, 1) := by decide +kernel
theorem dX12_shares_61 : decode cX12_shares 61 = .ok (.ldiv, 1) := by decide +kernel
theorem dX12_shares_62 : decode cX12_shares 62 = .ok (.lastore, 1) := by decide +kernel
theorem dX12_shares_63 : decode cX12_shares 63 = .ok (.lload_n 1, 1) := by decide +kernel
theorem dX12_shares_64 : decode cX12_shares 64 = .ok (.aload_n 0, 1) := by decide +kernel
theorem dX12_shares_65 : decode cX12_shares 65 = .ok (.getfield 101, 3) := by decide +kernel
theorem dX12_shares_68 : decode cX12_shares 68 = .ok (.iload 7, 2) := by decide +kernel
theorem dX12_shares_70 : decode cX12_shares 70 = .ok (.laload, 1) := by decide +kernel
theorem dX12_shares_71 : decode cX12_shares 71 = .ok (.lmul, 1) := by decide +kernel
theorem dX12_shares_72 : decode cX12_shares 72 = .ok (.lload_n 3, 1) := by decide +kernel
theorem dX12_shares_73 : decode cX12_shares 73 = .ok (.lrem, 1) := by decide +kernel
theorem dX12_shares_74 : decode cX12_shares 74 = .ok (.lstore 8, 2) := by decide +kernel
theorem dX12_shares_76 : decode cX12_shares 76 = .ok (.aload_n 0, 1) := by decide +kernel
theorem dX12_shares_77 : decode cX12_shares 77 = .ok (.getfield 107, 3) := by decide +kernel
theorem dX12_shares_80 : decode cX12_shares 80 = .ok (.iload 7, 2) := by decide +kernel
theorem dX12_shares_82 : decode cX12_shares 82 = .ok (.lload 8, 2) := by decide +kernel
theorem dX12_shares_84 : decode cX12_shares 84 = .ok (.lconst 0, 1) := by decide +kernel
theorem dX12_shares_85 : decode cX12_shares 85 = .ok (.lcmp, 1) := by decide +kernel
theorem dX12_shares_86 : decode cX12_shares 86 = .ok (.ifCond .ge 9, 3) := by decide +kernel
theorem dX12_shares_89 : decode cX12_shares 89 = .ok (.lload 8, 2) := by decide +kernel
theorem dX12_shares_91 : decode cX12_shares 91 = .ok (.lneg, 1) := by decide +kernel
theorem dX12_shares_92 : decode cX12_shares 92 = .ok (.goto 5, 3) := by decide +kernel
theorem dX12_shares_95 : decode cX12_shares 95 = .ok (.lload 8, 2) := by decide +kernel
theorem dX12_shares_97 : decode cX12_shares 97 = .ok (.lastore, 1) := by decide +kernel
theorem dX12_shares_98 : decode cX12_shares 98 = .ok (.aload_n 0, 1) := by decide +kernel
theorem dX12_shares_99 : decode cX12_shares 99 = .ok (.getfield 110, 3) := by decide +kernel
theorem dX12_shares_102 : decode cX12_shares 102 = .ok (.iload 7, 2) := by decide +kernel
theorem dX12_shares_104 : decode cX12_shares 104 = .ok (.iconst 0, 1) := by decide +kernel
theorem dX12_shares_105 : decode cX12_shares 105 = .ok (.bastore, 1) := by decide +kernel
theorem dX12_shares_106 : decode cX12_shares 106 = .ok (.lload 5, 2) := by decide +kernel
theorem dX12_shares_108 : decode cX12_shares 108 = .ok (.aload_n 0, 1) := by decide +kernel
theorem dX12_shares_109 : decode cX12_shares 109 = .ok (.getfield 104, 3) := by decide +kernel
theorem dX12_shares_112 : decode cX12_shares 112 = .ok (.iload 7, 2) := by decide +kernel
theorem dX12_shares_114 : decode cX12_shares 114 = .ok (.laload, 1) := by decide +kernel
theorem dX12_shares_115 : decode cX12_shares 115 = .ok (.lsub, 1) := by decide +kernel
theorem dX12_shares_116 : decode cX12_shares 116 = .ok (.lstore 5, 2) := by decide +kernel
theorem dX12_shares_118 : decode cX12_shares 118 = .ok (.iinc 7 1, 3) := by decide +kernel
theorem dX12_shares_121 : decode cX12_shares 121 = .ok (.goto (-85), 3) := by decide +kernel
theorem dX12_shares_124 : decode cX12_shares 124 = .ok (.lload 5, 2) := by decide +kernel
theorem dX12_shares_126 : decode cX12_shares 126 = .ok (.lconst 0, 1) := by decide +kernel
theorem dX12_shares_127 : decode cX12_shares 127 = .ok (.lcmp, 1) := by decide +kernel
theorem dX12_shares_128 : decode cX12_shares 128 = .ok (.ifCond .eq 120, 3) := by decide +kernel
theorem dX12_shares_131 : decode cX12_shares 131 = .ok (.iconst (-1), 1) := by decide +kernel
theorem dX12_shares_132 : decode cX12_shares 132 = .ok (.istore 7, 2) := by decide +kernel
theorem dX12_shares_134 : decode cX12_shares 134 = .ok (.iconst 0, 1) := by decide +kernel
theorem dX12_shares_135 : decode cX12_shares 135 = .ok (.istore 8, 2) := by decide +kernel
theorem dX12_shares_137 : decode cX12_shares 137 = .ok (.iload 8, 2) := by decide +kernel
theorem dX12_shares_139 : decode cX12_shares 139 = .ok (.aload_n 0, 1) := by decide +kernel
theorem dX12_shares_140 : decode cX12_shares 140 = .ok (.getfield 234, 3) := by decide +kernel
theorem dX12_shares_143 : decode cX12_shares 143 = .ok (.if_icmp .ge 51, 3) := by decide +kernel
theorem dX12_shares_146 : decode cX12_shares 146 = .ok (.aload_n 0, 1) := by decide +kernel
theorem dX12_shares_147 : decode cX12_shares 147 = .ok (.getfield 110, 3) := by decide +kernel
theorem dX12_shares_150 : decode cX12_shares 150 = .ok (.iload 8, 2) := by decide +kernel
theorem dX12_shares_152 : decode cX12_shares 152 = .ok (.baload, 1) := by decide +kernel
theorem dX12_shares_153 : decode cX12_shares 153 = .ok (.ifCond .ne 31, 3) := by decide +kernel
theorem dX12_shares_156 : decode cX12_shares 156 = .ok (.iload 7, 2) := by decide +kernel
theorem dX12_shares_158 : decode cX12_shares 158 = .ok (.ifCond .lt 21, 3) := by decide +kernel
theorem dX12_shares_161 : decode cX12_shares 161 = .ok (.aload_n 0, 1) := by decide +kernel
theorem dX12_shares_162 : decode cX12_shares 162 = .ok (.getfield 107, 3) := by decide +kernel
theorem dX12_shares_165 : decode cX12_shares 165 = .ok (.iload 8, 2) := by decide +kernel
theorem dX12_shares_167 : decode cX12_shares 167 = .ok (.laload, 1) := by decide +kernel
theorem dX12_shares_168 : decode cX12_shares 168 = .ok (.aload_n 0, 1) := by decide +kernel
theorem dX12_shares_169 : decode cX12_shares 169 = .ok (.getfield 107, 3) := by decide +kernel
theorem dX12_shares_172 : decode cX12_shares 172 = .ok (.iload 7, 2) := by decide +kernel
theorem dX12_shares_174 : decode cX12_shares 174 = .ok (.laload, 1) := by decide +kernel
theorem dX12_shares_175 : decode cX12_shares 175 = .ok (.lcmp, 1) := by decide +kernel
theorem dX12_shares_176 : decode cX12_shares 176 = .ok (.ifCond .le 8, 3) := by decide +kernel
theorem dX12_shares_179 : decode cX12_shares 179 = .ok (.iload 8, 2) := by decide +kernel
theorem dX12_shares_181 : decode cX12_shares 181 = .ok (.goto 5, 3) := by decide +kernel
theorem dX12_shares_184 : decode cX12_shares 184 = .ok (.iload 7, 2) := by decide +kernel
theorem dX12_shares_186 : decode cX12_shares 186 = .ok (.istore 7, 2) := by decide +kernel
theorem dX12_shares_188 : decode cX12_shares 188 = .ok (.iinc 8 1, 3) := by decide +kernel
theorem dX12_shares_191 : decode cX12_shares 191 = .ok (.goto (-54), 3) := by decide +kernel
theorem dX12_shares_194 : decode cX12_shares 194 = .ok (.aload_n 0, 1) := by decide +kernel
theorem dX12_shares_195 : decode cX12_shares 195 = .ok (.getfield 110, 3) := by decide +kernel
theorem dX12_shares_198 : decode cX12_shares 198 = .ok (.iload 7, 2) := by decide +kernel
theorem dX12_shares_200 : decode cX12_shares 200 = .ok (.iconst 1, 1) := by decide +kernel
theorem dX12_shares_201 : decode cX12_shares 201 = .ok (.bastore, 1) := by decide +kernel
theorem dX12_shares_202 : decode cX12_shares 202 = .ok (.aload_n 0, 1) := by decide +kernel
theorem dX12_shares_203 : decode cX12_shares 203 = .ok (.getfield 104, 3) := by decide +kernel
theorem dX12_shares_206 : decode cX12_shares 206 = .ok (.iload 7, 2) := by decide +kernel
theorem dX12_shares_208 : decode cX12_shares 208 = .ok (.dup2, 1) := by decide +kernel
theorem dX12_shares_209 : decode cX12_shares 209 = .ok (.laload, 1) := by decide +kernel
theorem dX12_shares_210 : decode cX12_shares 210 = .ok (.lload 5, 2) := by decide +kernel
theorem dX12_shares_212 : decode cX12_shares 212 = .ok (.lconst 0, 1) := by decide +kernel
theorem dX12_shares_213 : decode cX12_shares 213 = .ok (.lcmp, 1) := by decide +kernel
theorem dX12_shares_214 : decode cX12_shares 214 = .ok (.ifCond .ge 9, 3) := by decide +kernel
theorem dX12_shares_217 : decode cX12_shares 217 = .ok (.ldc2_w 237, 3) := by decide +kernel
theorem dX12_shares_220 : decode cX12_shares 220 = .ok (.goto 4, 3) := by decide +kernel
theorem dX12_shares_223 : decode cX12_shares 223 = .ok (.lconst 1, 1) := by decide +kernel
theorem dX12_shares_224 : decode cX12_shares 224 = .ok (.ladd, 1) := by decide +kernel
theorem dX12_shares_225 : decode cX12_shares 225 = .ok (.lastore, 1) := by decide +kernel
theorem dX12_shares_226 : decode cX12_shares 226 = .ok (.lload 5, 2) := by decide +kernel
theorem dX12_shares_228 : decode cX12_shares 228 = .ok (.lload 5, 2) := by decide +kernel
theorem dX12_shares_230 : decode cX12_shares 230 = .ok (.lconst 0, 1) := by decide +kernel
theorem dX12_shares_231 : decode cX12_shares 231 = .ok (.lcmp, 1) := by decide +kernel
theorem dX12_shares_232 : decode cX12_shares 232 = .ok (.ifCond .ge 9, 3) := by decide +kernel
theorem dX12_shares_235 : decode cX12_shares 235 = .ok (.ldc2_w 237, 3) := by decide +kernel
theorem dX12_shares_238 : decode cX12_shares 238 = .ok (.goto 4, 3) := by decide +kernel
theorem dX12_shares_241 : decode cX12_shares 241 = .ok (.lconst 1, 1) := by decide +kernel
theorem dX12_shares_242 : decode cX12_shares 242 = .ok (.lsub, 1) := by decide +kernel
theorem dX12_shares_243 : decode cX12_shares 243 = .ok (.lstore 5, 2) := by decide +kernel
theorem dX12_shares_245 : decode cX12_shares 245 = .ok (.goto (-121), 3) := by decide +kernel
theorem dX12_shares_248 : decode cX12_shares 248 = .ok (.return_, 1) := by decide +kernel
theorem dX12_share_0 : decode cX12_share 0 = .ok (.aload_n 0, 1) := by decide +kernel
theorem dX12_share_1 : decode cX12_share 1 = .ok (.getfield 7, 3) := by decide +kernel
theorem dX12_share_4 : decode cX12_share 4 = .ok (.ifCond .ne 6, 3) := by decide +kernel
theorem dX12_share_7 : decode cX12_share 7 = .ok (.bipush (-6), 2) := by decide +kernel
theorem dX12_share_9 : decode cX12_share 9 = .ok (.ireturn, 1) := by decide +kernel
theorem dX12_share_10 : decode cX12_share 10 = .ok (.aload_n 0, 1) := by decide +kernel
theorem dX12_share_11 : decode cX12_share 11 = .ok (.iload_n 1, 1) := by decide +kernel
theorem dX12_share_12 : decode cX12_share 12 = .ok (.invokevirtual 148, 3) := by decide +kernel
theorem dX12_share_15 : decode cX12_share 15 = .ok (.ifCond .ne 6, 3) := by decide +kernel
theorem dX12_share_18 : decode cX12_share 18 = .ok (.bipush (-2), 2) := by decide +kernel
theorem dX12_share_20 : decode cX12_share 20 = .ok (.ireturn, 1) := by decide +kernel
theorem dX12_share_21 : decode cX12_share 21 = .ok (.lload_n 2, 1) := by decide +kernel
theorem dX12_share_22 : decode cX12_share 22 = .ok (.lconst 0, 1) := by decide +kernel
theorem dX12_share_23 : decode cX12_share 23 = .ok (.lcmp, 1) := by decide +kernel
theorem dX12_share_24 : decode cX12_share 24 = .ok (.ifCond .eq 29, 3) := by decide +kernel
theorem dX12_share_27 : decode cX12_share 27 = .ok (.lload_n 2, 1) := by decide +kernel
theorem dX12_share_28 : decode cX12_share 28 = .ok (.ldc2_w 180, 3) := by decide +kernel
theorem dX12_share_31 : decode cX12_share 31 = .ok (.ldc2_w 182, 3) := by decide +kernel
theorem dX12_share_34 : decode cX12_share 34 = .ok (.invokestatic 116, 3) := by decide +kernel
theorem dX12_share_37 : decode cX12_share 37 = .ok (.ifCond .eq 16, 3) := by decide +kernel
theorem dX12_share_40 : decode cX12_share 40 = .ok (.aload_n 0, 1) := by decide +kernel
theorem dX12_share_41 : decode cX12_share 41 = .ok (.getfield 184, 3) := by decide +kernel
theorem dX12_share_44 : decode cX12_share 44 = .ok (.bipush 8, 2) := by decide +kernel
theorem dX12_share_46 : decode cX12_share 46 = .ok (.if_icmp .ge 7, 3) := by decide +kernel
theorem dX12_share_49 : decode cX12_share 49 = .ok (.iconst 1, 1) := by decide +kernel
theorem dX12_share_50 : decode cX12_share 50 = .ok (.goto 4, 3) := by decide +kernel
theorem dX12_share_53 : decode cX12_share 53 = .ok (.iconst 0, 1) := by decide +kernel
theorem dX12_share_54 : decode cX12_share 54 = .ok (.istore 6, 2) := by decide +kernel
theorem dX12_share_56 : decode cX12_share 56 = .ok (.iconst 0, 1) := by decide +kernel
theorem dX12_share_57 : decode cX12_share 57 = .ok (.istore 7, 2) := by decide +kernel
theorem dX12_share_59 : decode cX12_share 59 = .ok (.iload 7, 2) := by decide +kernel
theorem dX12_share_61 : decode cX12_share 61 = .ok (.aload_n 0, 1) := by decide +kernel
theorem dX12_share_62 : decode cX12_share 62 = .ok (.getfield 184, 3) := by decide +kernel
theorem dX12_share_65 : decode cX12_share 65 = .ok (.if_icmp .ge 38, 3) := by decide +kernel
theorem dX12_share_68 : decode cX12_share 68 = .ok (.iload 6, 2) := by decide +kernel
theorem dX12_share_70 : decode cX12_share 70 = .ok (.ifCond .eq 24, 3) := by decide +kernel
theorem dX12_share_73 : decode cX12_share 73 = .ok (.aload_n 0, 1) := by decide +kernel
theorem dX12_share_74 : decode cX12_share 74 = .ok (.getfield 74, 3) := by decide +kernel
theorem dX12_share_77 : decode cX12_share 77 = .ok (.iload 7, 2) := by decide +kernel
theorem dX12_share_79 : decode cX12_share 79 = .ok (.laload, 1) := by decide +kernel
theorem dX12_share_80 : decode cX12_share 80 = .ok (.lconst 1, 1) := by decide +kernel
theorem dX12_share_81 : decode cX12_share 81 = .ok (.ldc2_w 239, 3) := by decide +kernel
theorem dX12_share_84 : decode cX12_share 84 = .ok (.invokestatic 116, 3) := by decide +kernel
theorem dX12_share_87 : decode cX12_share 87 = .ok (.ifCond .eq 7, 3) := by decide +kernel
theorem dX12_share_90 : decode cX12_share 90 = .ok (.iconst 1, 1) := by decide +kernel
theorem dX12_share_91 : decode cX12_share 91 = .ok (.goto 4, 3) := by decide +kernel
theorem dX12_share_94 : decode cX12_share 94 = .ok (.iconst 0, 1) := by decide +kernel
theorem dX12_share_95 : decode cX12_share 95 = .ok (.istore 6, 2) := by decide +kernel
theorem dX12_share_97 : decode cX12_share 97 = .ok (.iinc 7 1, 3) := by decide +kernel
theorem dX12_share_100 : decode cX12_share 100 = .ok (.goto (-41), 3) := by decide +kernel
theorem dX12_share_103 : decode cX12_share 103 = .ok (.iload 6, 2) := by decide +kernel
theorem dX12_share_105 : decode cX12_share 105 = .ok (.ifCond .ne 6, 3) := by decide +kernel
theorem dX12_share_108 : decode cX12_share 108 = .ok (.bipush (-3), 2) := by decide +kernel
theorem dX12_share_110 : decode cX12_share 110 = .ok (.ireturn, 1) := by decide +kernel
theorem dX12_share_111 : decode cX12_share 111 = .ok (.aload_n 0, 1) := by decide +kernel
theorem dX12_share_112 : decode cX12_share 112 = .ok (.getfield 23, 3) := by decide +kernel
theorem dX12_share_115 : decode cX12_share 115 = .ok (.iload_n 1, 1) := by decide +kernel
theorem dX12_share_116 : decode cX12_share 116 = .ok (.baload, 1) := by decide +kernel
theorem dX12_share_117 : decode cX12_share 117 = .ok (.ifCond .eq 6, 3) := by decide +kernel
theorem dX12_share_120 : decode cX12_share 120 = .ok (.bipush (-4), 2) := by decide +kernel
theorem dX12_share_122 : decode cX12_share 122 = .ok (.ireturn, 1) := by decide +kernel
theorem dX12_share_123 : decode cX12_share 123 = .ok (.aload_n 0, 1) := by decide +kernel
theorem dX12_share_124 : decode cX12_share 124 = .ok (.getfield 184, 3) := by decide +kernel
theorem dX12_share_127 : decode cX12_share 127 = .ok (.ifCond .ne 6, 3) := by decide +kernel
theorem dX12_share_130 : decode cX12_share 130 = .ok (.bipush (-6), 2) := by decide +kernel
theorem dX12_share_132 : decode cX12_share 132 = .ok (.ireturn, 1) := by decide +kernel
theorem dX12_share_133 : decode cX12_share 133 = .ok (.aload_n 0, 1) := by decide +kernel
theorem dX12_share_134 : decode cX12_share 134 = .ok (.aload_n 0, 1) := by decide +kernel
theorem dX12_share_135 : decode cX12_share 135 = .ok (.getfield 184, 3) := by decide +kernel
theorem dX12_share_138 : decode cX12_share 138 = .ok (.putfield 234, 3) := by decide +kernel
theorem dX12_share_141 : decode cX12_share 141 = .ok (.iconst 0, 1) := by decide +kernel
theorem dX12_share_142 : decode cX12_share 142 = .ok (.istore 7, 2) := by decide +kernel
theorem dX12_share_144 : decode cX12_share 144 = .ok (.iload 7, 2) := by decide +kernel
theorem dX12_share_146 : decode cX12_share 146 = .ok (.aload_n 0, 1) := by decide +kernel
theorem dX12_share_147 : decode cX12_share 147 = .ok (.getfield 184, 3) := by decide +kernel
theorem dX12_share_150 : decode cX12_share 150 = .ok (.if_icmp .ge 23, 3) := by decide +kernel
theorem dX12_share_153 : decode cX12_share 153 = .ok (.aload_n 0, 1) := by decide +kernel
theorem dX12_share_154 : decode cX12_share 154 = .ok (.getfield 101, 3) := by decide +kernel
theorem dX12_share_157 : decode cX12_share 157 = .ok (.iload 7, 2) := by decide +kernel
theorem dX12_share_159 : decode cX12_share 159 = .ok (.aload_n 0, 1) := by decide +kernel
theorem dX12_share_160 : decode cX12_share 160 = .ok (.getfield 74, 3) := by decide +kernel
theorem dX12_share_163 : decode cX12_share 163 = .ok (.iload 7, 2) := by decide +kernel
theorem dX12_share_165 : decode cX12_share 165 = .ok (.laload, 1) := by decide +kernel
theorem dX12_share_166 : decode cX12_share 166 = .ok (.lastore, 1) := by decide +kernel
theorem dX12_share_167 : decode cX12_share 167 = .ok (.iinc 7 1, 3) := by decide +kernel
theorem dX12_share_170 : decode cX12_share 170 = .ok (.goto (-26), 3) := by decide +kernel
theorem dX12_share_173 : decode cX12_share 173 = .ok (.aload_n 0, 1) := by decide +kernel
theorem dX12_share_174 : decode cX12_share 174 = .ok (.lload_n 2, 1) := by decide +kernel
theorem dX12_share_175 : decode cX12_share 175 = .ok (.invokevirtual 241, 3) := by decide +kernel
theorem dX12_share_178 : decode cX12_share 178 = .ok (.aload_n 0, 1) := by decide +kernel
theorem dX12_share_179 : decode cX12_share 179 = .ok (.iconst 0, 1) := by decide +kernel
theorem dX12_share_180 : decode cX12_share 180 = .ok (.putfield 187, 3) := by decide +kernel
theorem dX12_share_183 : decode cX12_share 183 = .ok (.aload_n 0, 1) := by decide +kernel
theorem dX12_share_184 : decode cX12_share 184 = .ok (.iload_n 1, 1) := by decide +kernel
theorem dX12_share_185 : decode cX12_share 185 = .ok (.lload_n 2, 1) := by decide +kernel
theorem dX12_share_186 : decode cX12_share 186 = .ok (.lneg, 1) := by decide +kernel
theorem dX12_share_187 : decode cX12_share 187 = .ok (.invokevirtual 217, 3) := by decide +kernel
theorem dX12_share_190 : decode cX12_share 190 = .ok (.iconst 0, 1) := by decide +kernel
theorem dX12_share_191 : decode cX12_share 191 = .ok (.istore 7, 2) := by decide +kernel
theorem dX12_share_193 : decode cX12_share 193 = .ok (.iload 7, 2) := by decide +kernel
theorem dX12_share_195 : decode cX12_share 195 = .ok (.aload_n 0, 1) := by decide +kernel
theorem dX12_share_196 : decode cX12_share 196 = .ok (.getfield 184, 3) := by decide +kernel
theorem dX12_share_199 : decode cX12_share 199 = .ok (.if_icmp .ge 39, 3) := by decide +kernel
theorem dX12_share_202 : decode cX12_share 202 = .ok (.aload_n 0, 1) := by decide +kernel
theorem dX12_share_203 : decode cX12_share 203 = .ok (.getfield 104, 3) := by decide +kernel
theorem dX12_share_206 : decode cX12_share 206 = .ok (.iload 7, 2) := by decide +kernel
theorem dX12_share_208 : decode cX12_share 208 = .ok (.laload, 1) := by decide +kernel
theorem dX12_share_209 : decode cX12_share 209 = .ok (.lconst 0, 1) := by decide +kernel
theorem dX12_share_210 : decode cX12_share 210 = .ok (.lcmp, 1) := by decide +kernel
theorem dX12_share_211 : decode cX12_share 211 = .ok (.ifCond .eq 21, 3) := by decide +kernel
theorem dX12_share_214 : decode cX12_share 214 = .ok (.aload_n 0, 1) := by decide +kernel
theorem dX12_share_215 : decode cX12_share 215 = .ok (.aload_n 0, 1) := by decide +kernel
theorem dX12_share_216 : decode cX12_share 216 = .ok (.getfield 71, 3) := by decide +kernel
theorem dX12_share_219 : decode cX12_share 219 = .ok (.iload 7, 2) := by decide +kernel
theorem dX12_share_221 : decode cX12_share 221 = .ok (.iaload, 1) := by decide +kernel
theorem dX12_share_222 : decode cX12_share 222 = .ok (.aload_n 0, 1) := by decide +kernel
theorem dX12_share_223 : decode cX12_share 223 = .ok (.getfield 104, 3) := by decide +kernel
theorem dX12_share_226 : decode cX12_share 226 = .ok (.iload 7, 2) := by decide +kernel
theorem dX12_share_228 : decode cX12_share 228 = .ok (.laload, 1) := by decide +kernel
theorem dX12_share_229 : decode cX12_share 229 = .ok (.invokevirtual 217, 3) := by decide +kernel
theorem dX12_share_232 : decode cX12_share 232 = .ok (.iinc 7 1, 3) := by decide +kernel
theorem dX12_share_235 : decode cX12_share 235 = .ok (.goto (-42), 3) := by decide +kernel
theorem dX12_share_238 : decode cX12_share 238 = .ok (.aload_n 0, 1) := by decide +kernel
theorem dX12_share_239 : decode cX12_share 239 = .ok (.iload 4, 2) := by decide +kernel
theorem dX12_share_241 : decode cX12_share 241 = .ok (.iload 5, 2) := by decide +kernel
theorem dX12_share_243 : decode cX12_share 243 = .ok (.invokevirtual 221, 3) := by decide +kernel
theorem dX12_share_246 : decode cX12_share 246 = .ok (.istore 7, 2) := by decide +kernel
theorem dX12_share_248 : decode cX12_share 248 = .ok (.aload_n 0, 1) := by decide +kernel
theorem dX12_share_249 : decode cX12_share 249 = .ok (.iload 7, 2) := by decide +kernel
theorem dX12_share_251 : decode cX12_share 251 = .ok (.ifCond .ge 10, 3) := by decide +kernel
theorem dX12_share_254 : decode cX12_share 254 = .ok (.aload_n 0, 1) := by decide +kernel
theorem dX12_share_255 : decode cX12_share 255 = .ok (.getfield 184, 3) := by decide +kernel
theorem dX12_share_258 : decode cX12_share 258 = .ok (.goto 4, 3) := by decide +kernel
theorem dX12_share_261 : decode cX12_share 261 = .ok (.iconst 0, 1) := by decide +kernel
theorem dX12_share_262 : decode cX12_share 262 = .ok (.putfield 184, 3) := by decide +kernel
theorem dX12_share_265 : decode cX12_share 265 = .ok (.iload 7, 2) := by decide +kernel
theorem dX12_share_267 : decode cX12_share 267 = .ok (.ireturn, 1) := by decide +kernel
theorem dX12_part_0 : decode cX12_part 0 = .ok (.iload 7, 2) := by decide +kernel
theorem dX12_part_2 : decode cX12_part 2 = .ok (.i2l, 1) := by decide +kernel
theorem dX12_part_3 : decode cX12_part 3 = .ok (.lconst 0, 1) := by decide +kernel
theorem dX12_part_4 : decode cX12_part 4 = .ok (.ldc2_w 244, 3) := by decide +kernel
theorem dX12_part_7 : decode cX12_part 7 = .ok (.invokestatic 116, 3) := by decide +kernel
theorem dX12_part_10 : decode cX12_part 10 = .ok (.ifCond .eq 80, 3) := by decide +kernel
theorem dX12_part_13 : decode cX12_part 13 = .ok (.lload_n 1, 1) := by decide +kernel
theorem dX12_part_14 : decode cX12_part 14 = .ok (.ldc2_w 180, 3) := by decide +kernel
theorem dX12_part_17 : decode cX12_part 17 = .ok (.ldc2_w 182, 3) := by decide +kernel
theorem dX12_part_20 : decode cX12_part 20 = .ok (.invokestatic 116, 3) := by decide +kernel
theorem dX12_part_23 : decode cX12_part 23 = .ok (.ifCond .eq 67, 3) := by decide +kernel
theorem dX12_part_26 : decode cX12_part 26 = .ok (.iload_n 3, 1) := by decide +kernel
theorem dX12_part_27 : decode cX12_part 27 = .ok (.i2l, 1) := by decide +kernel
theorem dX12_part_28 : decode cX12_part 28 = .ok (.lconst 0, 1) := by decide +kernel
theorem dX12_part_29 : decode cX12_part 29 = .ok (.ldc2_w 239, 3) := by decide +kernel
theorem dX12_part_32 : decode cX12_part 32 = .ok (.invokestatic 116, 3) := by decide +kernel
theorem dX12_part_35 : decode cX12_part 35 = .ok (.ifCond .eq 55, 3) := by decide +kernel
theorem dX12_part_38 : decode cX12_part 38 = .ok (.iload 4, 2) := by decide +kernel
theorem dX12_part_40 : decode cX12_part 40 = .ok (.i2l, 1) := by decide +kernel
theorem dX12_part_41 : decode cX12_part 41 = .ok (.lconst 0, 1) := by decide +kernel
theorem dX12_part_42 : decode cX12_part 42 = .ok (.ldc2_w 239, 3) := by decide +kernel
theorem dX12_part_45 : decode cX12_part 45 = .ok (.invokestatic 116, 3) := by decide +kernel
theorem dX12_part_48 : decode cX12_part 48 = .ok (.ifCond .eq 42, 3) := by decide +kernel
theorem dX12_part_51 : decode cX12_part 51 = .ok (.iload 5, 2) := by decide +kernel
theorem dX12_part_53 : decode cX12_part 53 = .ok (.i2l, 1) := by decide +kernel
theorem dX12_part_54 : decode cX12_part 54 = .ok (.lconst 0, 1) := by decide +kernel
theorem dX12_part_55 : decode cX12_part 55 = .ok (.ldc2_w 239, 3) := by decide +kernel
theorem dX12_part_58 : decode cX12_part 58 = .ok (.invokestatic 116, 3) := by decide +kernel
theorem dX12_part_61 : decode cX12_part 61 = .ok (.ifCond .eq 29, 3) := by decide +kernel
theorem dX12_part_64 : decode cX12_part 64 = .ok (.iload 6, 2) := by decide +kernel
theorem dX12_part_66 : decode cX12_part 66 = .ok (.i2l, 1) := by decide +kernel
theorem dX12_part_67 : decode cX12_part 67 = .ok (.lconst 0, 1) := by decide +kernel
theorem dX12_part_68 : decode cX12_part 68 = .ok (.ldc2_w 239, 3) := by decide +kernel
theorem dX12_part_71 : decode cX12_part 71 = .ok (.invokestatic 116, 3) := by decide +kernel
theorem dX12_part_74 : decode cX12_part 74 = .ok (.ifCond .eq 16, 3) := by decide +kernel
theorem dX12_part_77 : decode cX12_part 77 = .ok (.iload_n 3, 1) := by decide +kernel
theorem dX12_part_78 : decode cX12_part 78 = .ok (.iload 4, 2) := by decide +kernel
theorem dX12_part_80 : decode cX12_part 80 = .ok (.iadd, 1) := by decide +kernel
theorem dX12_part_81 : decode cX12_part 81 = .ok (.iload 5, 2) := by decide +kernel
theorem dX12_part_83 : decode cX12_part 83 = .ok (.iadd, 1) := by decide +kernel
theorem dX12_part_84 : decode cX12_part 84 = .ok (.iload 6, 2) := by decide +kernel
theorem dX12_part_86 : decode cX12_part 86 = .ok (.iadd, 1) := by decide +kernel
theorem dX12_part_87 : decode cX12_part 87 = .ok (.ifCond .ne 7, 3) := by decide +kernel
theorem dX12_part_90 : decode cX12_part 90 = .ok (.ldc2_w 246, 3) := by decide +kernel
theorem dX12_part_93 : decode cX12_part 93 = .ok (.lreturn, 1) := by decide +kernel
theorem dX12_part_94 : decode cX12_part 94 = .ok (.aload_n 0, 1) := by decide +kernel
theorem dX12_part_95 : decode cX12_part 95 = .ok (.iconst 4, 1) := by decide +kernel
theorem dX12_part_96 : decode cX12_part 96 = .ok (.putfield 234, 3) := by decide +kernel
theorem dX12_part_99 : decode cX12_part 99 = .ok (.aload_n 0, 1) := by decide +kernel
theorem dX12_part_100 : decode cX12_part 100 = .ok (.getfield 101, 3) := by decide +kernel
theorem dX12_part_103 : decode cX12_part 103 = .ok (.iconst 0, 1) := by decide +kernel
theorem dX12_part_104 : decode cX12_part 104 = .ok (.iload_n 3, 1) := by decide +kernel
theorem dX12_part_105 : decode cX12_part 105 = .ok (.i2l, 1) := by decide +kernel
theorem dX12_part_106 : decode cX12_part 106 = .ok (.lastore, 1) := by decide +kernel
theorem dX12_part_107 : decode cX12_part 107 = .ok (.aload_n 0, 1) := by decide +kernel
theorem dX12_part_108 : decode cX12_part 108 = .ok (.getfield 101, 3) := by decide +kernel
theorem dX12_part_111 : decode cX12_part 111 = .ok (.iconst 1, 1) := by decide +kernel
theorem dX12_part_112 : decode cX12_part 112 = .ok (.iload 4, 2) := by decide +kernel
theorem dX12_part_114 : decode cX12_part 114 = .ok (.i2l, 1) := by decide +kernel
theorem dX12_part_115 : decode cX12_part 115 = .ok (.lastore, 1) := by decide +kernel
theorem dX12_part_116 : decode cX12_part 116 = .ok (.aload_n 0, 1) := by decide +kernel
theorem dX12_part_117 : decode cX12_part 117 = .ok (.getfield 101, 3) := by decide +kernel
theorem dX12_part_120 : decode cX12_part 120 = .ok (.iconst 2, 1) := by decide +kernel
theorem dX12_part_121 : decode cX12_part 121 = .ok (.iload 5, 2) := by decide +kernel
theorem dX12_part_123 : decode cX12_part 123 = .ok (.i2l, 1) := by decide +kernel
theorem dX12_part_124 : decode cX12_part 124 = .ok (.lastore, 1) := by decide +kernel
theorem dX12_part_125 : decode cX12_part 125 = .ok (.aload_n 0, 1) := by decide +kernel
theorem dX12_part_126 : decode cX12_part 126 = .ok (.getfield 101, 3) := by decide +kernel
theorem dX12_part_129 : decode cX12_part 129 = .ok (.iconst 3, 1) := by decide +kernel
theorem dX12_part_130 : decode cX12_part 130 = .ok (.iload 6, 2) := by decide +kernel
theorem dX12_part_132 : decode cX12_part 132 = .ok (.i2l, 1) := by decide +kernel
theorem dX12_part_133 : decode cX12_part 133 = .ok (.lastore, 1) := by decide +kernel
theorem dX12_part_134 : decode cX12_part 134 = .ok (.aload_n 0, 1) := by decide +kernel
theorem dX12_part_135 : decode cX12_part 135 = .ok (.lload_n 1, 1) := by decide +kernel
theorem dX12_part_136 : decode cX12_part 136 = .ok (.invokevirtual 241, 3) := by decide +kernel
theorem dX12_part_139 : decode cX12_part 139 = .ok (.aload_n 0, 1) := by decide +kernel
theorem dX12_part_140 : decode cX12_part 140 = .ok (.getfield 104, 3) := by decide +kernel
theorem dX12_part_143 : decode cX12_part 143 = .ok (.iload 7, 2) := by decide +kernel
theorem dX12_part_145 : decode cX12_part 145 = .ok (.laload, 1) := by decide +kernel
theorem dX12_part_146 : decode cX12_part 146 = .ok (.lreturn, 1) := by decide +kernel
theorem dX12_sync_0 : decode cX12_sync 0 = .ok (.aload_n 0, 1) := by decide +kernel
theorem dX12_sync_1 : decode cX12_sync 1 = .ok (.getfield 7, 3) := by decide +kernel
theorem dX12_sync_4 : decode cX12_sync 4 = .ok (.ifCond .ne 6, 3) := by decide +kernel
theorem dX12_sync_7 : decode cX12_sync 7 = .ok (.bipush (-6), 2) := by decide +kernel
theorem dX12_sync_9 : decode cX12_sync 9 = .ok (.ireturn, 1) := by decide +kernel
theorem dX12_sync_10 : decode cX12_sync 10 = .ok (.aload_n 0, 1) := by decide +kernel
theorem dX12_sync_11 : decode cX12_sync 11 = .ok (.getfield 132, 3) := by decide +kernel
theorem dX12_sync_14 : decode cX12_sync 14 = .ok (.aload_n 0, 1) := by decide +kernel
theorem dX12_sync_15 : decode cX12_sync 15 = .ok (.getfield 248, 3) := by decide +kernel
theorem dX12_sync_18 : decode cX12_sync 18 = .ok (.isub, 1) := by decide +kernel
theorem dX12_sync_19 : decode cX12_sync 19 = .ok (.istore_n 1, 1) := by decide +kernel
theorem dX12_sync_20 : decode cX12_sync 20 = .ok (.aload_n 0, 1) := by decide +kernel
theorem dX12_sync_21 : decode cX12_sync 21 = .ok (.aload_n 0, 1) := by decide +kernel
theorem dX12_sync_22 : decode cX12_sync 22 = .ok (.getfield 132, 3) := by decide +kernel
theorem dX12_sync_25 : decode cX12_sync 25 = .ok (.putfield 248, 3) := by decide +kernel
theorem dX12_sync_28 : decode cX12_sync 28 = .ok (.iload_n 1, 1) := by decide +kernel
theorem dX12_sync_29 : decode cX12_sync 29 = .ok (.ireturn, 1) := by decide +kernel
theorem dX12_crash_0 : decode cX12_crash 0 = .ok (.iload_n 1, 1) := by decide +kernel
theorem dX12_crash_1 : decode cX12_crash 1 = .ok (.ifCond .lt 15, 3) := by decide +kernel
theorem dX12_crash_4 : decode cX12_crash 4 = .ok (.iload_n 2, 1) := by decide +kernel
theorem dX12_crash_5 : decode cX12_crash 5 = .ok (.i2l, 1) := by decide +kernel
theorem dX12_crash_6 : decode cX12_crash 6 = .ok (.lconst 0, 1) := by decide +kernel
theorem dX12_crash_7 : decode cX12_crash 7 = .ok (.ldc2_w 251, 3) := by decide +kernel
theorem dX12_crash_10 : decode cX12_crash 10 = .ok (.invokestatic 116, 3) := by decide +kernel
theorem dX12_crash_13 : decode cX12_crash 13 = .ok (.ifCond .ne 6, 3) := by decide +kernel
theorem dX12_crash_16 : decode cX12_crash 16 = .ok (.bipush (-3), 2) := by decide +kernel
theorem dX12_crash_18 : decode cX12_crash 18 = .ok (.ireturn, 1) := by decide +kernel
theorem dX12_crash_19 : decode cX12_crash 19 = .ok (.aload_n 0, 1) := by decide +kernel
theorem dX12_crash_20 : decode cX12_crash 20 = .ok (.getfield 132, 3) := by decide +kernel
theorem dX12_crash_23 : decode cX12_crash 23 = .ok (.aload_n 0, 1) := by decide +kernel
theorem dX12_crash_24 : decode cX12_crash 24 = .ok (.getfield 248, 3) := by decide +kernel
theorem dX12_crash_27 : decode cX12_crash 27 = .ok (.isub, 1) := by decide +kernel
theorem dX12_crash_28 : decode cX12_crash 28 = .ok (.iload_n 1, 1) := by decide +kernel
theorem dX12_crash_29 : decode cX12_crash 29 = .ok (.if_icmp .ge 15, 3) := by decide +kernel
theorem dX12_crash_32 : decode cX12_crash 32 = .ok (.aload_n 0, 1) := by decide +kernel
theorem dX12_crash_33 : decode cX12_crash 33 = .ok (.getfield 132, 3) := by decide +kernel
theorem dX12_crash_36 : decode cX12_crash 36 = .ok (.aload_n 0, 1) := by decide +kernel
theorem dX12_crash_37 : decode cX12_crash 37 = .ok (.getfield 248, 3) := by decide +kernel
theorem dX12_crash_40 : decode cX12_crash 40 = .ok (.isub, 1) := by decide +kernel
theorem dX12_crash_41 : decode cX12_crash 41 = .ok (.goto 4, 3) := by decide +kernel
theorem dX12_crash_44 : decode cX12_crash 44 = .ok (.iload_n 1, 1) := by decide +kernel
theorem dX12_crash_45 : decode cX12_crash 45 = .ok (.istore_n 3, 1) := by decide +kernel
theorem dX12_crash_46 : decode cX12_crash 46 = .ok (.aload_n 0, 1) := by decide +kernel
theorem dX12_crash_47 : decode cX12_crash 47 = .ok (.aload_n 0, 1) := by decide +kernel
theorem dX12_crash_48 : decode cX12_crash 48 = .ok (.getfield 248, 3) := by decide +kernel
theorem dX12_crash_51 : decode cX12_crash 51 = .ok (.iload_n 3, 1) := by decide +kernel
theorem dX12_crash_52 : decode cX12_crash 52 = .ok (.iadd, 1) := by decide +kernel
theorem dX12_crash_53 : decode cX12_crash 53 = .ok (.putfield 132, 3) := by decide +kernel
theorem dX12_crash_56 : decode cX12_crash 56 = .ok (.iload_n 3, 1) := by decide +kernel
theorem dX12_crash_57 : decode cX12_crash 57 = .ok (.ifCond .le 27, 3) := by decide +kernel
theorem dX12_crash_60 : decode cX12_crash 60 = .ok (.aload_n 0, 1) := by decide +kernel
theorem dX12_crash_61 : decode cX12_crash 61 = .ok (.getfield 83, 3) := by decide +kernel
theorem dX12_crash_64 : decode cX12_crash 64 = .ok (.aload_n 0, 1) := by decide +kernel
theorem dX12_crash_65 : decode cX12_crash 65 = .ok (.getfield 132, 3) := by decide +kernel
theorem dX12_crash_68 : decode cX12_crash 68 = .ok (.iconst 1, 1) := by decide +kernel
theorem dX12_crash_69 : decode cX12_crash 69 = .ok (.isub, 1) := by decide +kernel
theorem dX12_crash_70 : decode cX12_crash 70 = .ok (.aload_n 0, 1) := by decide +kernel
theorem dX12_crash_71 : decode cX12_crash 71 = .ok (.getfield 83, 3) := by decide +kernel
theorem dX12_crash_74 : decode cX12_crash 74 = .ok (.aload_n 0, 1) := by decide +kernel
theorem dX12_crash_75 : decode cX12_crash 75 = .ok (.getfield 132, 3) := by decide +kernel
theorem dX12_crash_78 : decode cX12_crash 78 = .ok (.iconst 1, 1) := by decide +kernel
theorem dX12_crash_79 : decode cX12_crash 79 = .ok (.isub, 1) := by decide +kernel
theorem dX12_crash_80 : decode cX12_crash 80 = .ok (.iaload, 1) := by decide +kernel
theorem dX12_crash_81 : decode cX12_crash 81 = .ok (.iload_n 2, 1) := by decide +kernel
theorem dX12_crash_82 : decode cX12_crash 82 = .ok (.ixor, 1) := by decide +kernel
theorem dX12_crash_83 : decode cX12_crash 83 = .ok (.iastore, 1) := by decide +kernel
theorem dX12_crash_84 : decode cX12_crash 84 = .ok (.aload_n 0, 1) := by decide +kernel
theorem dX12_crash_85 : decode cX12_crash 85 = .ok (.iconst 0, 1) := by decide +kernel
theorem dX12_crash_86 : decode cX12_crash 86 = .ok (.putfield 184, 3) := by decide +kernel
theorem dX12_crash_89 : decode cX12_crash 89 = .ok (.aload_n 0, 1) := by decide +kernel
theorem dX12_crash_90 : decode cX12_crash 90 = .ok (.iconst 0, 1) := by decide +kernel
theorem dX12_crash_91 : decode cX12_crash 91 = .ok (.putfield 253, 3) := by decide +kernel
theorem dX12_crash_94 : decode cX12_crash 94 = .ok (.aload_n 0, 1) := by decide +kernel
theorem dX12_crash_95 : decode cX12_crash 95 = .ok (.iconst 0, 1) := by decide +kernel
theorem dX12_crash_96 : decode cX12_crash 96 = .ok (.putfield 7, 3) := by decide +kernel
theorem dX12_crash_99 : decode cX12_crash 99 = .ok (.aload_n 0, 1) := by decide +kernel
theorem dX12_crash_100 : decode cX12_crash 100 = .ok (.getfield 132, 3) := by decide +kernel
theorem dX12_crash_103 : decode cX12_crash 103 = .ok (.ireturn, 1) := by decide +kernel
theorem dX12_number_0 : decode cX12_number 0 = .ok (.lconst 0, 1) := by decide +kernel
theorem dX12_number_1 : decode cX12_number 1 = .ok (.lstore_n 1, 1) := by decide +kernel
theorem dX12_number_2 : decode cX12_number 2 = .ok (.iconst 0, 1) := by decide +kernel
theorem dX12_number_3 : decode cX12_number 3 = .ok (.istore_n 3, 1) := by decide +kernel
theorem dX12_number_4 : decode cX12_number 4 = .ok (.iconst 1, 1) := by decide +kernel
theorem dX12_number_5 : decode cX12_number 5 = .ok (.istore 4, 2) := by decide +kernel
theorem dX12_number_7 : decode cX12_number 7 = .ok (.iload 4, 2) := by decide +kernel
theorem dX12_number_9 : decode cX12_number 9 = .ok (.ifCond .eq 111, 3) := by decide +kernel
theorem dX12_number_12 : decode cX12_number 12 = .ok (.aload_n 0, 1) := by decide +kernel
theorem dX12_number_13 : decode cX12_number 13 = .ok (.getfield 256, 3) := by decide +kernel
theorem dX12_number_16 : decode cX12_number 16 = .ok (.ifCond .ne 104, 3) := by decide +kernel
theorem dX12_number_19 : decode cX12_number 19 = .ok (.aload_n 0, 1) := by decide +kernel
theorem dX12_number_20 : decode cX12_number 20 = .ok (.getfield 259, 3) := by decide +kernel
theorem dX12_number_23 : decode cX12_number 23 = .ok (.aload_n 0, 1) := by decide +kernel
theorem dX12_number_24 : decode cX12_number 24 = .ok (.getfield 262, 3) := by decide +kernel
theorem dX12_number_27 : decode cX12_number 27 = .ok (.if_icmp .eq 9, 3) := by decide +kernel
theorem dX12_number_30 : decode cX12_number 30 = .ok (.iload_n 3, 1) := by decide +kernel
theorem dX12_number_31 : decode cX12_number 31 = .ok (.bipush 10, 2) := by decide +kernel
theorem dX12_number_33 : decode cX12_number 33 = .ok (.if_icmp .ne 11, 3) := by decide +kernel
theorem dX12_number_36 : decode cX12_number 36 = .ok (.aload_n 0, 1) := by decide +kernel
theorem dX12_number_37 : decode cX12_number 37 = .ok (.iconst 1, 1) := by decide +kernel
theorem dX12_number_38 : decode cX12_number 38 = .ok (.putfield 256, 3) := by decide +kernel
theorem dX12_number_41 : decode cX12_number 41 = .ok (.goto (-34), 3) := by decide +kernel
theorem dX12_number_44 : decode cX12_number 44 = .ok (.aload_n 0, 1) := by decide +kernel
theorem dX12_number_45 : decode cX12_number 45 = .ok (.getfield 83, 3) := by decide +kernel
theorem dX12_number_48 : decode cX12_number 48 = .ok (.aload_n 0, 1) := by decide +kernel
theorem dX12_number_49 : decode cX12_number 49 = .ok (.getfield 259, 3) := by decide +kernel
theorem dX12_number_52 : decode cX12_number 52 = .ok (.iaload, 1) := by decide +kernel
theorem dX12_number_53 : decode cX12_number 53 = .ok (.istore 5, 2) := by decide +kernel
theorem dX12_number_55 : decode cX12_number 55 = .ok (.aload_n 0, 1) := by decide +kernel
theorem dX12_number_56 : decode cX12_number 56 = .ok (.dup, 1) := by decide +kernel
theorem dX12_number_57 : decode cX12_number 57 = .ok (.getfield 259, 3) := by decide +kernel
theorem dX12_number_60 : decode cX12_number 60 = .ok (.iconst 1, 1) := by decide +kernel
theorem dX12_number_61 : decode cX12_number 61 = .ok (.iadd, 1) := by decide +kernel
theorem dX12_number_62 : decode cX12_number 62 = .ok (.putfield 259, 3) := by decide +kernel
theorem dX12_number_65 : decode cX12_number 65 = .ok (.aload_n 0, 1) := by decide +kernel
theorem dX12_number_66 : decode cX12_number 66 = .ok (.iload_n 3, 1) := by decide +kernel
theorem dX12_number_67 : decode cX12_number 67 = .ok (.bipush 9, 2) := by decide +kernel
theorem dX12_number_69 : decode cX12_number 69 = .ok (.if_icmp .ne 13, 3) := by decide +kernel
theorem dX12_number_72 : decode cX12_number 72 = .ok (.iload 5, 2) := by decide +kernel
theorem dX12_number_74 : decode cX12_number 74 = .ok (.iconst 1, 1) := by decide +kernel
theorem dX12_number_75 : decode cX12_number 75 = .ok (.if_icmp .le 7, 3) := by decide +kernel
theorem dX12_number_78 : decode cX12_number 78 = .ok (.iconst 1, 1) := by decide +kernel
theorem dX12_number_79 : decode cX12_number 79 = .ok (.goto 4, 3) := by decide +kernel
theorem dX12_number_82 : decode cX12_number 82 = .ok (.iconst 0, 1) := by decide +kernel
theorem dX12_number_83 : decode cX12_number 83 = .ok (.putfield 256, 3) := by decide +kernel
theorem dX12_number_86 : decode cX12_number 86 = .ok (.lload_n 1, 1) := by decide +kernel
theorem dX12_number_87 : decode cX12_number 87 = .ok (.iload 5, 2) := by decide +kernel
theorem dX12_number_89 : decode cX12_number 89 = .ok (.bipush 127, 2) := by decide +kernel
theorem dX12_number_91 : decode cX12_number 91 = .ok (.iand, 1) := by decide +kernel
theorem dX12_number_92 : decode cX12_number 92 = .ok (.i2l, 1) := by decide +kernel
theorem dX12_number_93 : decode cX12_number 93 = .ok (.bipush 7, 2) := by decide +kernel
theorem dX12_number_95 : decode cX12_number 95 = .ok (.iload_n 3, 1) := by decide +kernel
theorem dX12_number_96 : decode cX12_number 96 = .ok (.imul, 1) := by decide +kernel
theorem dX12_number_97 : decode cX12_number 97 = .ok (.lshl, 1) := by decide +kernel
theorem dX12_number_98 : decode cX12_number 98 = .ok (.lor, 1) := by decide +kernel
theorem dX12_number_99 : decode cX12_number 99 = .ok (.lstore_n 1, 1) := by decide +kernel
theorem dX12_number_100 : decode cX12_number 100 = .ok (.iload 5, 2) := by decide +kernel
theorem dX12_number_102 : decode cX12_number 102 = .ok (.bipush 127, 2) := by decide +kernel
theorem dX12_number_104 : decode cX12_number 104 = .ok (.if_icmp .le 7, 3) := by decide +kernel
theorem dX12_number_107 : decode cX12_number 107 = .ok (.iconst 1, 1) := by decide +kernel
theorem dX12_number_108 : decode cX12_number 108 = .ok (.goto 4, 3) := by decide +kernel
theorem dX12_number_111 : decode cX12_number 111 = .ok (.iconst 0, 1) := by decide +kernel
theorem dX12_number_112 : decode cX12_number 112 = .ok (.istore 4, 2) := by decide +kernel
theorem dX12_number_114 : decode cX12_number 114 = .ok (.iinc 3 1, 3) := by decide +kernel
theorem dX12_number_117 : decode cX12_number 117 = .ok (.goto (-110), 3) := by decide +kernel
theorem dX12_number_120 : decode cX12_number 120 = .ok (.lload_n 1, 1) := by decide +kernel
theorem dX12_number_121 : decode cX12_number 121 = .ok (.iconst 1, 1) := by decide +kernel
theorem dX12_number_122 : decode cX12_number 122 = .ok (.lushr, 1) := by decide +kernel
theorem dX12_number_123 : decode cX12_number 123 = .ok (.lstore 5, 2) := by decide +kernel
theorem dX12_number_125 : decode cX12_number 125 = .ok (.lload_n 1, 1) := by decide +kernel
theorem dX12_number_126 : decode cX12_number 126 = .ok (.lconst 1, 1) := by decide +kernel
theorem dX12_number_127 : decode cX12_number 127 = .ok (.land, 1) := by decide +kernel
theorem dX12_number_128 : decode cX12_number 128 = .ok (.lconst 1, 1) := by decide +kernel
theorem dX12_number_129 : decode cX12_number 129 = .ok (.lcmp, 1) := by decide +kernel
theorem dX12_number_130 : decode cX12_number 130 = .ok (.ifCond .ne 11, 3) := by decide +kernel
theorem dX12_number_133 : decode cX12_number 133 = .ok (.lload 5, 2) := by decide +kernel
theorem dX12_number_135 : decode cX12_number 135 = .ok (.lneg, 1) := by decide +kernel
theorem dX12_number_136 : decode cX12_number 136 = .ok (.lconst 1, 1) := by decide +kernel
theorem dX12_number_137 : decode cX12_number 137 = .ok (.lsub, 1) := by decide +kernel
theorem dX12_number_138 : decode cX12_number 138 = .ok (.goto 5, 3) := by decide +kernel
theorem dX12_number_141 : decode cX12_number 141 = .ok (.lload 5, 2) := by decide +kernel
theorem dX12_number_143 : decode cX12_number 143 = .ok (.lreturn, 1) := by decide +kernel
theorem dX12_whole_0 : decode cX12_whole 0 = .ok (.aload_n 0, 1) := by decide +kernel
theorem dX12_whole_1 : decode cX12_whole 1 = .ok (.invokevirtual 265, 3) := by decide +kernel
theorem dX12_whole_4 : decode cX12_whole 4 = .ok (.lstore_n 1, 1) := by decide +kernel
theorem dX12_whole_5 : decode cX12_whole 5 = .ok (.aload_n 0, 1) := by decide +kernel
theorem dX12_whole_6 : decode cX12_whole 6 = .ok (.aload_n 0, 1) := by decide +kernel
theorem dX12_whole_7 : decode cX12_whole 7 = .ok (.getfield 256, 3) := by decide +kernel
theorem dX12_whole_10 : decode cX12_whole 10 = .ok (.ifCond .ne 16, 3) := by decide +kernel
theorem dX12_whole_13 : decode cX12_whole 13 = .ok (.lload_n 1, 1) := by decide +kernel
theorem dX12_whole_14 : decode cX12_whole 14 = .ok (.ldc2_w 269, 3) := by decide +kernel
theorem dX12_whole_17 : decode cX12_whole 17 = .ok (.ldc2_w 271, 3) := by decide +kernel
theorem dX12_whole_20 : decode cX12_whole 20 = .ok (.invokestatic 116, 3) := by decide +kernel
theorem dX12_whole_23 : decode cX12_whole 23 = .ok (.ifCond .ne 7, 3) := by decide +kernel
theorem dX12_whole_26 : decode cX12_whole 26 = .ok (.iconst 1, 1) := by decide +kernel
theorem dX12_whole_27 : decode cX12_whole 27 = .ok (.goto 4, 3) := by decide +kernel
theorem dX12_whole_30 : decode cX12_whole 30 = .ok (.iconst 0, 1) := by decide +kernel
theorem dX12_whole_31 : decode cX12_whole 31 = .ok (.putfield 256, 3) := by decide +kernel
theorem dX12_whole_34 : decode cX12_whole 34 = .ok (.lload_n 1, 1) := by decide +kernel
theorem dX12_whole_35 : decode cX12_whole 35 = .ok (.l2i, 1) := by decide +kernel
theorem dX12_whole_36 : decode cX12_whole 36 = .ok (.ireturn, 1) := by decide +kernel
theorem dX12_truth_0 : decode cX12_truth 0 = .ok (.aload_n 0, 1) := by decide +kernel
theorem dX12_truth_1 : decode cX12_truth 1 = .ok (.invokevirtual 273, 3) := by decide +kernel
theorem dX12_truth_4 : decode cX12_truth 4 = .ok (.istore_n 1, 1) := by decide +kernel
theorem dX12_truth_5 : decode cX12_truth 5 = .ok (.aload_n 0, 1) := by decide +kernel
theorem dX12_truth_6 : decode cX12_truth 6 = .ok (.aload_n 0, 1) := by decide +kernel
theorem dX12_truth_7 : decode cX12_truth 7 = .ok (.getfield 256, 3) := by decide +kernel
theorem dX12_truth_10 : decode cX12_truth 10 = .ok (.ifCond .ne 13, 3) := by decide +kernel
theorem dX12_truth_13 : decode cX12_truth 13 = .ok (.iload_n 1, 1) := by decide +kernel
theorem dX12_truth_14 : decode cX12_truth 14 = .ok (.i2l, 1) := by decide +kernel
theorem dX12_truth_15 : decode cX12_truth 15 = .ok (.lconst 0, 1) := by decide +kernel
theorem dX12_truth_16 : decode cX12_truth 16 = .ok (.lconst 1, 1) := by decide +kernel
theorem dX12_truth_17 : decode cX12_truth 17 = .ok (.invokestatic 116, 3) := by decide +kernel
theorem dX12_truth_20 : decode cX12_truth 20 = .ok (.ifCond .ne 7, 3) := by decide +kernel
theorem dX12_truth_23 : decode cX12_truth 23 = .ok (.iconst 1, 1) := by decide +kernel
theorem dX12_truth_24 : decode cX12_truth 24 = .ok (.goto 4, 3) := by decide +kernel
theorem dX12_truth_27 : decode cX12_truth 27 = .ok (.iconst 0, 1) := by decide +kernel
theorem dX12_truth_28 : decode cX12_truth 28 = .ok (.putfield 256, 3) := by decide +kernel
theorem dX12_truth_31 : decode cX12_truth 31 = .ok (.iload_n 1, 1) := by decide +kernel
theorem dX12_truth_32 : decode cX12_truth 32 = .ok (.iconst 1, 1) := by decide +kernel
theorem dX12_truth_33 : decode cX12_truth 33 = .ok (.if_icmp .ne 7, 3) := by decide +kernel
theorem dX12_truth_36 : decode cX12_truth 36 = .ok (.iconst 1, 1) := by decide +kernel
theorem dX12_truth_37 : decode cX12_truth 37 = .ok (.goto 4, 3) := by decide +kernel
theorem dX12_truth_40 : decode cX12_truth 40 = .ok (.iconst 0, 1) := by decide +kernel
theorem dX12_truth_41 : decode cX12_truth 41 = .ok (.ireturn, 1) := by decide +kernel
theorem dX12_isEnded_0 : decode cX12_isEnded 0 = .ok (.aload_n 0, 1) := by decide +kernel
theorem dX12_isEnded_1 : decode cX12_isEnded 1 = .ok (.getfield 256, 3) := by decide +kernel
theorem dX12_isEnded_4 : decode cX12_isEnded 4 = .ok (.ifCond .ne 18, 3) := by decide +kernel
theorem dX12_isEnded_7 : decode cX12_isEnded 7 = .ok (.aload_n 0, 1) := by decide +kernel
theorem dX12_isEnded_8 : decode cX12_isEnded 8 = .ok (.getfield 259, 3) := by decide +kernel
theorem dX12_isEnded_11 : decode cX12_isEnded 11 = .ok (.aload_n 0, 1) := by decide +kernel
theorem dX12_isEnded_12 : decode cX12_isEnded 12 = .ok (.getfield 262, 3) := by decide +kernel
theorem dX12_isEnded_15 : decode cX12_isEnded 15 = .ok (.if_icmp .ne 7, 3) := by decide +kernel
theorem dX12_isEnded_18 : decode cX12_isEnded 18 = .ok (.iconst 1, 1) := by decide +kernel
theorem dX12_isEnded_19 : decode cX12_isEnded 19 = .ok (.goto 4, 3) := by decide +kernel
theorem dX12_isEnded_22 : decode cX12_isEnded 22 = .ok (.iconst 0, 1) := by decide +kernel
theorem dX12_isEnded_23 : decode cX12_isEnded 23 = .ok (.ireturn, 1) := by decide +kernel
theorem dX12_isDone_0 : decode cX12_isDone 0 = .ok (.iload_n 1, 1) := by decide +kernel
theorem dX12_isDone_1 : decode cX12_isDone 1 = .ok (.tableswitch 269 1 8 #[47, 95, 131, 159, 188, 193, 229, 249], 47) := by decide +kernel
theorem dX12_isDone_48 : decode cX12_isDone 48 = .ok (.aload_n 0, 1) := by decide +kernel
theorem dX12_isDone_49 : decode cX12_isDone 49 = .ok (.invokevirtual 273, 3) := by decide +kernel
theorem dX12_isDone_52 : decode cX12_isDone 52 = .ok (.istore_n 2, 1) := by decide +kernel
theorem dX12_isDone_53 : decode cX12_isDone 53 = .ok (.aload_n 0, 1) := by decide +kernel
theorem dX12_isDone_54 : decode cX12_isDone 54 = .ok (.invokevirtual 273, 3) := by decide +kernel
theorem dX12_isDone_57 : decode cX12_isDone 57 = .ok (.istore_n 3, 1) := by decide +kernel
theorem dX12_isDone_58 : decode cX12_isDone 58 = .ok (.aload_n 0, 1) := by decide +kernel
theorem dX12_isDone_59 : decode cX12_isDone 59 = .ok (.invokevirtual 273, 3) := by decide +kernel
theorem dX12_isDone_62 : decode cX12_isDone 62 = .ok (.istore 4, 2) := by decide +kernel
theorem dX12_isDone_64 : decode cX12_isDone 64 = .ok (.aload_n 0, 1) := by decide +kernel
theorem dX12_isDone_65 : decode cX12_isDone 65 = .ok (.invokevirtual 277, 3) := by decide +kernel
theorem dX12_isDone_68 : decode cX12_isDone 68 = .ok (.istore 5, 2) := by decide +kernel
theorem dX12_isDone_70 : decode cX12_isDone 70 = .ok (.aload_n 0, 1) := by decide +kernel
theorem dX12_isDone_71 : decode cX12_isDone 71 = .ok (.invokevirtual 280, 3) := by decide +kernel
theorem dX12_isDone_74 : decode cX12_isDone 74 = .ok (.ifCond .eq 20, 3) := by decide +kernel
theorem dX12_isDone_77 : decode cX12_isDone 77 = .ok (.aload_n 0, 1) := by decide +kernel
theorem dX12_isDone_78 : decode cX12_isDone 78 = .ok (.iload_n 2, 1) := by decide +kernel
theorem dX12_isDone_79 : decode cX12_isDone 79 = .ok (.iload_n 3, 1) := by decide +kernel
theorem dX12_isDone_80 : decode cX12_isDone 80 = .ok (.iload 4, 2) := by decide +kernel
theorem dX12_isDone_82 : decode cX12_isDone 82 = .ok (.iload 5, 2) := by decide +kernel
theorem dX12_isDone_84 : decode cX12_isDone 84 = .ok (.invokevirtual 283, 3) := by decide +kernel
theorem dX12_isDone_87 : decode cX12_isDone 87 = .ok (.ifCond .lt 7, 3) := by decide +kernel
theorem dX12_isDone_90 : decode cX12_isDone 90 = .ok (.iconst 1, 1) := by decide +kernel
theorem dX12_isDone_91 : decode cX12_isDone 91 = .ok (.goto 4, 3) := by decide +kernel
theorem dX12_isDone_94 : decode cX12_isDone 94 = .ok (.iconst 0, 1) := by decide +kernel
theorem dX12_isDone_95 : decode cX12_isDone 95 = .ok (.ireturn, 1) := by decide +kernel
theorem dX12_isDone_96 : decode cX12_isDone 96 = .ok (.aload_n 0, 1) := by decide +kernel
theorem dX12_isDone_97 : decode cX12_isDone 97 = .ok (.invokevirtual 273, 3) := by decide +kernel
theorem dX12_isDone_100 : decode cX12_isDone 100 = .ok (.istore 6, 2) := by decide +kernel
theorem dX12_isDone_102 : decode cX12_isDone 102 = .ok (.aload_n 0, 1) := by decide +kernel
theorem dX12_isDone_103 : decode cX12_isDone 103 = .ok (.invokevirtual 277, 3) := by decide +kernel
theorem dX12_isDone_106 : decode cX12_isDone 106 = .ok (.istore 7, 2) := by decide +kernel
theorem dX12_isDone_108 : decode cX12_isDone 108 = .ok (.aload_n 0, 1) := by decide +kernel
theorem dX12_isDone_109 : decode cX12_isDone 109 = .ok (.invokevirtual 280, 3) := by decide +kernel
theorem dX12_isDone_112 : decode cX12_isDone 112 = .ok (.ifCond .eq 18, 3) := by decide +kernel
theorem dX12_isDone_115 : decode cX12_isDone 115 = .ok (.aload_n 0, 1) := by decide +kernel
theorem dX12_isDone_116 : decode cX12_isDone 116 = .ok (.iload 6, 2) := by decide +kernel
theorem dX12_isDone_118 : decode cX12_isDone 118 = .ok (.iload 7, 2) := by decide +kernel
theorem dX12_isDone_120 : decode cX12_isDone 120 = .ok (.invokevirtual 287, 3) := by decide +kernel
theorem dX12_isDone_123 : decode cX12_isDone 123 = .ok (.ifCond .lt 7, 3) := by decide +kernel
theorem dX12_isDone_126 : decode cX12_isDone 126 = .ok (.iconst 1, 1) := by decide +kernel
theorem dX12_isDone_127 : decode cX12_isDone 127 = .ok (.goto 4, 3) := by decide +kernel
theorem dX12_isDone_130 : decode cX12_isDone 130 = .ok (.iconst 0, 1) := by decide +kernel
theorem dX12_isDone_131 : decode cX12_isDone 131 = .ok (.ireturn, 1) := by decide +kernel
theorem dX12_isDone_132 : decode cX12_isDone 132 = .ok (.aload_n 0, 1) := by decide +kernel
theorem dX12_isDone_133 : decode cX12_isDone 133 = .ok (.invokevirtual 273, 3) := by decide +kernel
theorem dX12_isDone_136 : decode cX12_isDone 136 = .ok (.istore 8, 2) := by decide +kernel
theorem dX12_isDone_138 : decode cX12_isDone 138 = .ok (.aload_n 0, 1) := by decide +kernel
theorem dX12_isDone_139 : decode cX12_isDone 139 = .ok (.invokevirtual 280, 3) := by decide +kernel
theorem dX12_isDone_142 : decode cX12_isDone 142 = .ok (.ifCond .eq 16, 3) := by decide +kernel
theorem dX12_isDone_145 : decode cX12_isDone 145 = .ok (.aload_n 0, 1) := by decide +kernel
theorem dX12_isDone_146 : decode cX12_isDone 146 = .ok (.iload 8, 2) := by decide +kernel
theorem dX12_isDone_148 : decode cX12_isDone 148 = .ok (.invokevirtual 291, 3) := by decide +kernel
theorem dX12_isDone_151 : decode cX12_isDone 151 = .ok (.ifCond .lt 7, 3) := by decide +kernel
theorem dX12_isDone_154 : decode cX12_isDone 154 = .ok (.iconst 1, 1) := by decide +kernel
theorem dX12_isDone_155 : decode cX12_isDone 155 = .ok (.goto 4, 3) := by decide +kernel
theorem dX12_isDone_158 : decode cX12_isDone 158 = .ok (.iconst 0, 1) := by decide +kernel
theorem dX12_isDone_159 : decode cX12_isDone 159 = .ok (.ireturn, 1) := by decide +kernel
theorem dX12_isDone_160 : decode cX12_isDone 160 = .ok (.aload_n 0, 1) := by decide +kernel
theorem dX12_isDone_161 : decode cX12_isDone 161 = .ok (.invokevirtual 273, 3) := by decide +kernel
theorem dX12_isDone_164 : decode cX12_isDone 164 = .ok (.istore 9, 2) := by decide +kernel
theorem dX12_isDone_166 : decode cX12_isDone 166 = .ok (.aload_n 0, 1) := by decide +kernel
theorem dX12_isDone_167 : decode cX12_isDone 167 = .ok (.invokevirtual 280, 3) := by decide +kernel
theorem dX12_isDone_170 : decode cX12_isDone 170 = .ok (.ifCond .eq 17, 3) := by decide +kernel
theorem dX12_isDone_173 : decode cX12_isDone 173 = .ok (.aload_n 0, 1) := by decide +kernel
theorem dX12_isDone_174 : decode cX12_isDone 174 = .ok (.iload 9, 2) := by decide +kernel
theorem dX12_isDone_176 : decode cX12_isDone 176 = .ok (.invokevirtual 294, 3) := by decide +kernel
theorem dX12_isDone_179 : decode cX12_isDone 179 = .ok (.iconst (-1), 1) := by decide +kernel
theorem dX12_isDone_180 : decode cX12_isDone 180 = .ok (.if_icmp .lt 7, 3) := by decide +kernel
theorem dX12_isDone_183 : decode cX12_isDone 183 = .ok (.iconst 1, 1) := by decide +kernel
theorem dX12_isDone_184 : decode cX12_isDone 184 = .ok (.goto 4, 3) := by decide +kernel
theorem dX12_isDone_187 : decode cX12_isDone 187 = .ok (.iconst 0, 1) := by decide +kernel
theorem dX12_isDone_188 : decode cX12_isDone 188 = .ok (.ireturn, 1) := by decide +kernel
theorem dX12_isDone_189 : decode cX12_isDone 189 = .ok (.aload_n 0, 1) := by decide +kernel
theorem dX12_isDone_190 : decode cX12_isDone 190 = .ok (.invokevirtual 296, 3) := by decide +kernel
theorem dX12_isDone_193 : decode cX12_isDone 193 = .ok (.ireturn, 1) := by decide +kernel
theorem dX12_isDone_194 : decode cX12_isDone 194 = .ok (.aload_n 0, 1) := by decide +kernel
theorem dX12_isDone_195 : decode cX12_isDone 195 = .ok (.invokevirtual 273, 3) := by decide +kernel
theorem dX12_isDone_198 : decode cX12_isDone 198 = .ok (.istore 10, 2) := by decide +kernel
theorem dX12_isDone_200 : decode cX12_isDone 200 = .ok (.aload_n 0, 1) := by decide +kernel
theorem dX12_isDone_201 : decode cX12_isDone 201 = .ok (.invokevirtual 273, 3) := by decide +kernel
theorem dX12_isDone_204 : decode cX12_isDone 204 = .ok (.istore 11, 2) := by decide +kernel
theorem dX12_isDone_206 : decode cX12_isDone 206 = .ok (.aload_n 0, 1) := by decide +kernel
theorem dX12_isDone_207 : decode cX12_isDone 207 = .ok (.invokevirtual 280, 3) := by decide +kernel
theorem dX12_isDone_210 : decode cX12_isDone 210 = .ok (.ifCond .eq 18, 3) := by decide +kernel
theorem dX12_isDone_213 : decode cX12_isDone 213 = .ok (.aload_n 0, 1) := by decide +kernel
theorem dX12_isDone_214 : decode cX12_isDone 214 = .ok (.iload 10, 2) := by decide +kernel
theorem dX12_isDone_216 : decode cX12_isDone 216 = .ok (.iload 11, 2) := by decide +kernel
theorem dX12_isDone_218 : decode cX12_isDone 218 = .ok (.invokevirtual 299, 3) := by decide +kernel
theorem dX12_isDone_221 : decode cX12_isDone 221 = .ok (.ifCond .lt 7, 3) := by decide +kernel
theorem dX12_isDone_224 : decode cX12_isDone 224 = .ok (.iconst 1, 1) := by decide +kernel
end
section
theorem dX12_isDone_225 : decode cX12_isDone 225 = .ok (.goto 4, 3) := by decide +kernel
theorem dX12_isDone_228 : decode cX12_isDone 228 = .ok (.iconst 0, 1) := by decide +kernel
theorem dX12_isDone_229 : decode cX12_isDone 229 = .ok (.ireturn, 1) := by decide +kernel
theorem dX12_isDone_230 : decode cX12_isDone 230 = .ok (.aload_n 0, 1) := by decide +kernel
theorem dX12_isDone_231 : decode cX12_isDone 231 = .ok (.invokevirtual 280, 3) := by decide +kernel
theorem dX12_isDone_234 : decode cX12_isDone 234 = .ok (.ifCond .eq 14, 3) := by decide +kernel
theorem dX12_isDone_237 : decode cX12_isDone 237 = .ok (.aload_n 0, 1) := by decide +kernel
theorem dX12_isDone_238 : decode cX12_isDone 238 = .ok (.invokevirtual 302, 3) := by decide +kernel
theorem dX12_isDone_241 : decode cX12_isDone 241 = .ok (.ifCond .lt 7, 3) := by decide +kernel
theorem dX12_isDone_244 : decode cX12_isDone 244 = .ok (.iconst 1, 1) := by decide +kernel
theorem dX12_isDone_245 : decode cX12_isDone 245 = .ok (.goto 4, 3) := by decide +kernel
theorem dX12_isDone_248 : decode cX12_isDone 248 = .ok (.iconst 0, 1) := by decide +kernel
theorem dX12_isDone_249 : decode cX12_isDone 249 = .ok (.ireturn, 1) := by decide +kernel
theorem dX12_isDone_250 : decode cX12_isDone 250 = .ok (.aload_n 0, 1) := by decide +kernel
theorem dX12_isDone_251 : decode cX12_isDone 251 = .ok (.invokevirtual 280, 3) := by decide +kernel
theorem dX12_isDone_254 : decode cX12_isDone 254 = .ok (.ifCond .eq 14, 3) := by decide +kernel
theorem dX12_isDone_257 : decode cX12_isDone 257 = .ok (.aload_n 0, 1) := by decide +kernel
theorem dX12_isDone_258 : decode cX12_isDone 258 = .ok (.invokevirtual 305, 3) := by decide +kernel
theorem dX12_isDone_261 : decode cX12_isDone 261 = .ok (.ifCond .lt 7, 3) := by decide +kernel
theorem dX12_isDone_264 : decode cX12_isDone 264 = .ok (.iconst 1, 1) := by decide +kernel
theorem dX12_isDone_265 : decode cX12_isDone 265 = .ok (.goto 4, 3) := by decide +kernel
theorem dX12_isDone_268 : decode cX12_isDone 268 = .ok (.iconst 0, 1) := by decide +kernel
theorem dX12_isDone_269 : decode cX12_isDone 269 = .ok (.ireturn, 1) := by decide +kernel
theorem dX12_isDone_270 : decode cX12_isDone 270 = .ok (.iconst 0, 1) := by decide +kernel
theorem dX12_isDone_271 : decode cX12_isDone 271 = .ok (.ireturn, 1) := by decide +kernel
theorem dX12_isPosted_0 : decode cX12_isPosted 0 = .ok (.aload_n 0, 1) := by decide +kernel
theorem dX12_isPosted_1 : decode cX12_isPosted 1 = .ok (.invokevirtual 273, 3) := by decide +kernel
theorem dX12_isPosted_4 : decode cX12_isPosted 4 = .ok (.istore_n 1, 1) := by decide +kernel
theorem dX12_isPosted_5 : decode cX12_isPosted 5 = .ok (.aload_n 0, 1) := by decide +kernel
theorem dX12_isPosted_6 : decode cX12_isPosted 6 = .ok (.invokevirtual 273, 3) := by decide +kernel
theorem dX12_isPosted_9 : decode cX12_isPosted 9 = .ok (.istore_n 2, 1) := by decide +kernel
theorem dX12_isPosted_10 : decode cX12_isPosted 10 = .ok (.aload_n 0, 1) := by decide +kernel
theorem dX12_isPosted_11 : decode cX12_isPosted 11 = .ok (.invokevirtual 273, 3) := by decide +kernel
theorem dX12_isPosted_14 : decode cX12_isPosted 14 = .ok (.istore_n 3, 1) := by decide +kernel
theorem dX12_isPosted_15 : decode cX12_isPosted 15 = .ok (.aload_n 0, 1) := by decide +kernel
theorem dX12_isPosted_16 : decode cX12_isPosted 16 = .ok (.aload_n 0, 1) := by decide +kernel
theorem dX12_isPosted_17 : decode cX12_isPosted 17 = .ok (.getfield 256, 3) := by decide +kernel
theorem dX12_isPosted_20 : decode cX12_isPosted 20 = .ok (.ifCond .ne 15, 3) := by decide +kernel
theorem dX12_isPosted_23 : decode cX12_isPosted 23 = .ok (.iload_n 3, 1) := by decide +kernel
theorem dX12_isPosted_24 : decode cX12_isPosted 24 = .ok (.i2l, 1) := by decide +kernel
theorem dX12_isPosted_25 : decode cX12_isPosted 25 = .ok (.lconst 0, 1) := by decide +kernel
theorem dX12_isPosted_26 : decode cX12_isPosted 26 = .ok (.ldc2_w 308, 3) := by decide +kernel
theorem dX12_isPosted_29 : decode cX12_isPosted 29 = .ok (.invokestatic 116, 3) := by decide +kernel
theorem dX12_isPosted_32 : decode cX12_isPosted 32 = .ok (.ifCond .ne 7, 3) := by decide +kernel
theorem dX12_isPosted_35 : decode cX12_isPosted 35 = .ok (.iconst 1, 1) := by decide +kernel
theorem dX12_isPosted_36 : decode cX12_isPosted 36 = .ok (.goto 4, 3) := by decide +kernel
theorem dX12_isPosted_39 : decode cX12_isPosted 39 = .ok (.iconst 0, 1) := by decide +kernel
theorem dX12_isPosted_40 : decode cX12_isPosted 40 = .ok (.putfield 256, 3) := by decide +kernel
theorem dX12_isPosted_43 : decode cX12_isPosted 43 = .ok (.aload_n 0, 1) := by decide +kernel
theorem dX12_isPosted_44 : decode cX12_isPosted 44 = .ok (.iconst 0, 1) := by decide +kernel
theorem dX12_isPosted_45 : decode cX12_isPosted 45 = .ok (.putfield 187, 3) := by decide +kernel
theorem dX12_isPosted_48 : decode cX12_isPosted 48 = .ok (.iconst 1, 1) := by decide +kernel
theorem dX12_isPosted_49 : decode cX12_isPosted 49 = .ok (.istore 4, 2) := by decide +kernel
theorem dX12_isPosted_51 : decode cX12_isPosted 51 = .ok (.iconst 0, 1) := by decide +kernel
theorem dX12_isPosted_52 : decode cX12_isPosted 52 = .ok (.istore 5, 2) := by decide +kernel
theorem dX12_isPosted_54 : decode cX12_isPosted 54 = .ok (.iload 5, 2) := by decide +kernel
theorem dX12_isPosted_56 : decode cX12_isPosted 56 = .ok (.iload_n 3, 1) := by decide +kernel
theorem dX12_isPosted_57 : decode cX12_isPosted 57 = .ok (.if_icmp .ge 88, 3) := by decide +kernel
theorem dX12_isPosted_60 : decode cX12_isPosted 60 = .ok (.aload_n 0, 1) := by decide +kernel
theorem dX12_isPosted_61 : decode cX12_isPosted 61 = .ok (.getfield 256, 3) := by decide +kernel
theorem dX12_isPosted_64 : decode cX12_isPosted 64 = .ok (.ifCond .ne 81, 3) := by decide +kernel
theorem dX12_isPosted_67 : decode cX12_isPosted 67 = .ok (.aload_n 0, 1) := by decide +kernel
theorem dX12_isPosted_68 : decode cX12_isPosted 68 = .ok (.invokevirtual 273, 3) := by decide +kernel
theorem dX12_isPosted_71 : decode cX12_isPosted 71 = .ok (.istore 6, 2) := by decide +kernel
theorem dX12_isPosted_73 : decode cX12_isPosted 73 = .ok (.aload_n 0, 1) := by decide +kernel
theorem dX12_isPosted_74 : decode cX12_isPosted 74 = .ok (.invokevirtual 265, 3) := by decide +kernel
theorem dX12_isPosted_77 : decode cX12_isPosted 77 = .ok (.lstore 7, 2) := by decide +kernel
theorem dX12_isPosted_79 : decode cX12_isPosted 79 = .ok (.iload 4, 2) := by decide +kernel
theorem dX12_isPosted_81 : decode cX12_isPosted 81 = .ok (.ifCond .eq 47, 3) := by decide +kernel
theorem dX12_isPosted_84 : decode cX12_isPosted 84 = .ok (.aload_n 0, 1) := by decide +kernel
theorem dX12_isPosted_85 : decode cX12_isPosted 85 = .ok (.iload 6, 2) := by decide +kernel
theorem dX12_isPosted_87 : decode cX12_isPosted 87 = .ok (.invokevirtual 148, 3) := by decide +kernel
theorem dX12_isPosted_90 : decode cX12_isPosted 90 = .ok (.ifCond .eq 38, 3) := by decide +kernel
theorem dX12_isPosted_93 : decode cX12_isPosted 93 = .ok (.lload 7, 2) := by decide +kernel
theorem dX12_isPosted_95 : decode cX12_isPosted 95 = .ok (.lconst 0, 1) := by decide +kernel
theorem dX12_isPosted_96 : decode cX12_isPosted 96 = .ok (.lcmp, 1) := by decide +kernel
theorem dX12_isPosted_97 : decode cX12_isPosted 97 = .ok (.ifCond .eq 31, 3) := by decide +kernel
theorem dX12_isPosted_100 : decode cX12_isPosted 100 = .ok (.lload 7, 2) := by decide +kernel
theorem dX12_isPosted_102 : decode cX12_isPosted 102 = .ok (.ldc2_w 180, 3) := by decide +kernel
theorem dX12_isPosted_105 : decode cX12_isPosted 105 = .ok (.ldc2_w 182, 3) := by decide +kernel
theorem dX12_isPosted_108 : decode cX12_isPosted 108 = .ok (.invokestatic 116, 3) := by decide +kernel
theorem dX12_isPosted_111 : decode cX12_isPosted 111 = .ok (.ifCond .eq 17, 3) := by decide +kernel
theorem dX12_isPosted_114 : decode cX12_isPosted 114 = .ok (.aload_n 0, 1) := by decide +kernel
theorem dX12_isPosted_115 : decode cX12_isPosted 115 = .ok (.getfield 23, 3) := by decide +kernel
theorem dX12_isPosted_118 : decode cX12_isPosted 118 = .ok (.iload 6, 2) := by decide +kernel
theorem dX12_isPosted_120 : decode cX12_isPosted 120 = .ok (.baload, 1) := by decide +kernel
theorem dX12_isPosted_121 : decode cX12_isPosted 121 = .ok (.ifCond .ne 7, 3) := by decide +kernel
theorem dX12_isPosted_124 : decode cX12_isPosted 124 = .ok (.iconst 1, 1) := by decide +kernel
theorem dX12_isPosted_125 : decode cX12_isPosted 125 = .ok (.goto 4, 3) := by decide +kernel
theorem dX12_isPosted_128 : decode cX12_isPosted 128 = .ok (.iconst 0, 1) := by decide +kernel
theorem dX12_isPosted_129 : decode cX12_isPosted 129 = .ok (.istore 4, 2) := by decide +kernel
theorem dX12_isPosted_131 : decode cX12_isPosted 131 = .ok (.aload_n 0, 1) := by decide +kernel
theorem dX12_isPosted_132 : decode cX12_isPosted 132 = .ok (.iload 6, 2) := by decide +kernel
theorem dX12_isPosted_134 : decode cX12_isPosted 134 = .ok (.lload 7, 2) := by decide +kernel
theorem dX12_isPosted_136 : decode cX12_isPosted 136 = .ok (.invokevirtual 217, 3) := by decide +kernel
theorem dX12_isPosted_139 : decode cX12_isPosted 139 = .ok (.iinc 5 1, 3) := by decide +kernel
theorem dX12_isPosted_142 : decode cX12_isPosted 142 = .ok (.goto (-88), 3) := by decide +kernel
theorem dX12_isPosted_145 : decode cX12_isPosted 145 = .ok (.aload_n 0, 1) := by decide +kernel
theorem dX12_isPosted_146 : decode cX12_isPosted 146 = .ok (.invokevirtual 280, 3) := by decide +kernel
theorem dX12_isPosted_149 : decode cX12_isPosted 149 = .ok (.ifCond .eq 21, 3) := by decide +kernel
theorem dX12_isPosted_152 : decode cX12_isPosted 152 = .ok (.iload 4, 2) := by decide +kernel
theorem dX12_isPosted_154 : decode cX12_isPosted 154 = .ok (.ifCond .eq 16, 3) := by decide +kernel
theorem dX12_isPosted_157 : decode cX12_isPosted 157 = .ok (.aload_n 0, 1) := by decide +kernel
theorem dX12_isPosted_158 : decode cX12_isPosted 158 = .ok (.iload_n 1, 1) := by decide +kernel
theorem dX12_isPosted_159 : decode cX12_isPosted 159 = .ok (.iload_n 2, 1) := by decide +kernel
theorem dX12_isPosted_160 : decode cX12_isPosted 160 = .ok (.invokevirtual 221, 3) := by decide +kernel
theorem dX12_isPosted_163 : decode cX12_isPosted 163 = .ok (.ifCond .lt 7, 3) := by decide +kernel
theorem dX12_isPosted_166 : decode cX12_isPosted 166 = .ok (.iconst 1, 1) := by decide +kernel
theorem dX12_isPosted_167 : decode cX12_isPosted 167 = .ok (.goto 4, 3) := by decide +kernel
theorem dX12_isPosted_170 : decode cX12_isPosted 170 = .ok (.iconst 0, 1) := by decide +kernel
theorem dX12_isPosted_171 : decode cX12_isPosted 171 = .ok (.ireturn, 1) := by decide +kernel
theorem dX12_isNext_0 : decode cX12_isNext 0 = .ok (.aload_n 0, 1) := by decide +kernel
theorem dX12_isNext_1 : decode cX12_isNext 1 = .ok (.getfield 259, 3) := by decide +kernel
theorem dX12_isNext_4 : decode cX12_isNext 4 = .ok (.iconst 4, 1) := by decide +kernel
theorem dX12_isNext_5 : decode cX12_isNext 5 = .ok (.iadd, 1) := by decide +kernel
theorem dX12_isNext_6 : decode cX12_isNext 6 = .ok (.aload_n 0, 1) := by decide +kernel
theorem dX12_isNext_7 : decode cX12_isNext 7 = .ok (.getfield 132, 3) := by decide +kernel
theorem dX12_isNext_10 : decode cX12_isNext 10 = .ok (.if_icmp .gt 26, 3) := by decide +kernel
theorem dX12_isNext_13 : decode cX12_isNext 13 = .ok (.aload_n 0, 1) := by decide +kernel
theorem dX12_isNext_14 : decode cX12_isNext 14 = .ok (.getfield 259, 3) := by decide +kernel
theorem dX12_isNext_17 : decode cX12_isNext 17 = .ok (.iconst 4, 1) := by decide +kernel
theorem dX12_isNext_18 : decode cX12_isNext 18 = .ok (.iadd, 1) := by decide +kernel
theorem dX12_isNext_19 : decode cX12_isNext 19 = .ok (.aload_n 0, 1) := by decide +kernel
theorem dX12_isNext_20 : decode cX12_isNext 20 = .ok (.getfield 83, 3) := by decide +kernel
theorem dX12_isNext_23 : decode cX12_isNext 23 = .ok (.aload_n 0, 1) := by decide +kernel
theorem dX12_isNext_24 : decode cX12_isNext 24 = .ok (.getfield 259, 3) := by decide +kernel
theorem dX12_isNext_27 : decode cX12_isNext 27 = .ok (.iaload, 1) := by decide +kernel
theorem dX12_isNext_28 : decode cX12_isNext 28 = .ok (.iadd, 1) := by decide +kernel
theorem dX12_isNext_29 : decode cX12_isNext 29 = .ok (.aload_n 0, 1) := by decide +kernel
theorem dX12_isNext_30 : decode cX12_isNext 30 = .ok (.getfield 132, 3) := by decide +kernel
theorem dX12_isNext_33 : decode cX12_isNext 33 = .ok (.if_icmp .le 5, 3) := by decide +kernel
theorem dX12_isNext_36 : decode cX12_isNext 36 = .ok (.iconst 0, 1) := by decide +kernel
theorem dX12_isNext_37 : decode cX12_isNext 37 = .ok (.ireturn, 1) := by decide +kernel
theorem dX12_isNext_38 : decode cX12_isNext 38 = .ok (.aload_n 0, 1) := by decide +kernel
theorem dX12_isNext_39 : decode cX12_isNext 39 = .ok (.getfield 259, 3) := by decide +kernel
theorem dX12_isNext_42 : decode cX12_isNext 42 = .ok (.istore_n 1, 1) := by decide +kernel
theorem dX12_isNext_43 : decode cX12_isNext 43 = .ok (.aload_n 0, 1) := by decide +kernel
theorem dX12_isNext_44 : decode cX12_isNext 44 = .ok (.getfield 83, 3) := by decide +kernel
theorem dX12_isNext_47 : decode cX12_isNext 47 = .ok (.iload_n 1, 1) := by decide +kernel
theorem dX12_isNext_48 : decode cX12_isNext 48 = .ok (.iaload, 1) := by decide +kernel
theorem dX12_isNext_49 : decode cX12_isNext 49 = .ok (.istore_n 2, 1) := by decide +kernel
theorem dX12_isNext_50 : decode cX12_isNext 50 = .ok (.ldc 136, 2) := by decide +kernel
theorem dX12_isNext_52 : decode cX12_isNext 52 = .ok (.istore_n 3, 1) := by decide +kernel
theorem dX12_isNext_53 : decode cX12_isNext 53 = .ok (.iconst 0, 1) := by decide +kernel
theorem dX12_isNext_54 : decode cX12_isNext 54 = .ok (.istore 4, 2) := by decide +kernel
theorem dX12_isNext_56 : decode cX12_isNext 56 = .ok (.iload 4, 2) := by decide +kernel
theorem dX12_isNext_58 : decode cX12_isNext 58 = .ok (.iload_n 2, 1) := by decide +kernel
theorem dX12_isNext_59 : decode cX12_isNext 59 = .ok (.iconst 2, 1) := by decide +kernel
theorem dX12_isNext_60 : decode cX12_isNext 60 = .ok (.iadd, 1) := by decide +kernel
theorem dX12_isNext_61 : decode cX12_isNext 61 = .ok (.if_icmp .ge 23, 3) := by decide +kernel
theorem dX12_isNext_64 : decode cX12_isNext 64 = .ok (.iload_n 3, 1) := by decide +kernel
theorem dX12_isNext_65 : decode cX12_isNext 65 = .ok (.aload_n 0, 1) := by decide +kernel
theorem dX12_isNext_66 : decode cX12_isNext 66 = .ok (.getfield 83, 3) := by decide +kernel
theorem dX12_isNext_69 : decode cX12_isNext 69 = .ok (.iload_n 1, 1) := by decide +kernel
theorem dX12_isNext_70 : decode cX12_isNext 70 = .ok (.iload 4, 2) := by decide +kernel
theorem dX12_isNext_72 : decode cX12_isNext 72 = .ok (.iadd, 1) := by decide +kernel
theorem dX12_isNext_73 : decode cX12_isNext 73 = .ok (.iaload, 1) := by decide +kernel
theorem dX12_isNext_74 : decode cX12_isNext 74 = .ok (.invokestatic 140, 3) := by decide +kernel
theorem dX12_isNext_77 : decode cX12_isNext 77 = .ok (.istore_n 3, 1) := by decide +kernel
theorem dX12_isNext_78 : decode cX12_isNext 78 = .ok (.iinc 4 1, 3) := by decide +kernel
theorem dX12_isNext_81 : decode cX12_isNext 81 = .ok (.goto (-25), 3) := by decide +kernel
theorem dX12_isNext_84 : decode cX12_isNext 84 = .ok (.aload_n 0, 1) := by decide +kernel
theorem dX12_isNext_85 : decode cX12_isNext 85 = .ok (.getfield 83, 3) := by decide +kernel
theorem dX12_isNext_88 : decode cX12_isNext 88 = .ok (.iload_n 1, 1) := by decide +kernel
theorem dX12_isNext_89 : decode cX12_isNext 89 = .ok (.iload_n 2, 1) := by decide +kernel
theorem dX12_isNext_90 : decode cX12_isNext 90 = .ok (.iadd, 1) := by decide +kernel
theorem dX12_isNext_91 : decode cX12_isNext 91 = .ok (.iconst 2, 1) := by decide +kernel
theorem dX12_isNext_92 : decode cX12_isNext 92 = .ok (.iadd, 1) := by decide +kernel
theorem dX12_isNext_93 : decode cX12_isNext 93 = .ok (.iaload, 1) := by decide +kernel
theorem dX12_isNext_94 : decode cX12_isNext 94 = .ok (.iload_n 3, 1) := by decide +kernel
theorem dX12_isNext_95 : decode cX12_isNext 95 = .ok (.bipush 8, 2) := by decide +kernel
theorem dX12_isNext_97 : decode cX12_isNext 97 = .ok (.ishr, 1) := by decide +kernel
theorem dX12_isNext_98 : decode cX12_isNext 98 = .ok (.if_icmp .ne 21, 3) := by decide +kernel
theorem dX12_isNext_101 : decode cX12_isNext 101 = .ok (.aload_n 0, 1) := by decide +kernel
theorem dX12_isNext_102 : decode cX12_isNext 102 = .ok (.getfield 83, 3) := by decide +kernel
theorem dX12_isNext_105 : decode cX12_isNext 105 = .ok (.iload_n 1, 1) := by decide +kernel
theorem dX12_isNext_106 : decode cX12_isNext 106 = .ok (.iload_n 2, 1) := by decide +kernel
theorem dX12_isNext_107 : decode cX12_isNext 107 = .ok (.iadd, 1) := by decide +kernel
theorem dX12_isNext_108 : decode cX12_isNext 108 = .ok (.iconst 3, 1) := by decide +kernel
theorem dX12_isNext_109 : decode cX12_isNext 109 = .ok (.iadd, 1) := by decide +kernel
theorem dX12_isNext_110 : decode cX12_isNext 110 = .ok (.iaload, 1) := by decide +kernel
theorem dX12_isNext_111 : decode cX12_isNext 111 = .ok (.iload_n 3, 1) := by decide +kernel
theorem dX12_isNext_112 : decode cX12_isNext 112 = .ok (.sipush 255, 3) := by decide +kernel
theorem dX12_isNext_115 : decode cX12_isNext 115 = .ok (.iand, 1) := by decide +kernel
theorem dX12_isNext_116 : decode cX12_isNext 116 = .ok (.if_icmp .eq 5, 3) := by decide +kernel
theorem dX12_isNext_119 : decode cX12_isNext 119 = .ok (.iconst 0, 1) := by decide +kernel
theorem dX12_isNext_120 : decode cX12_isNext 120 = .ok (.ireturn, 1) := by decide +kernel
theorem dX12_isNext_121 : decode cX12_isNext 121 = .ok (.aload_n 0, 1) := by decide +kernel
theorem dX12_isNext_122 : decode cX12_isNext 122 = .ok (.iload_n 1, 1) := by decide +kernel
theorem dX12_isNext_123 : decode cX12_isNext 123 = .ok (.iconst 2, 1) := by decide +kernel
theorem dX12_isNext_124 : decode cX12_isNext 124 = .ok (.iadd, 1) := by decide +kernel
theorem dX12_isNext_125 : decode cX12_isNext 125 = .ok (.iload_n 2, 1) := by decide +kernel
theorem dX12_isNext_126 : decode cX12_isNext 126 = .ok (.iadd, 1) := by decide +kernel
theorem dX12_isNext_127 : decode cX12_isNext 127 = .ok (.putfield 262, 3) := by decide +kernel
theorem dX12_isNext_130 : decode cX12_isNext 130 = .ok (.aload_n 0, 1) := by decide +kernel
theorem dX12_isNext_131 : decode cX12_isNext 131 = .ok (.iload_n 1, 1) := by decide +kernel
theorem dX12_isNext_132 : decode cX12_isNext 132 = .ok (.iconst 2, 1) := by decide +kernel
theorem dX12_isNext_133 : decode cX12_isNext 133 = .ok (.iadd, 1) := by decide +kernel
theorem dX12_isNext_134 : decode cX12_isNext 134 = .ok (.putfield 259, 3) := by decide +kernel
theorem dX12_isNext_137 : decode cX12_isNext 137 = .ok (.aload_n 0, 1) := by decide +kernel
theorem dX12_isNext_138 : decode cX12_isNext 138 = .ok (.iconst 0, 1) := by decide +kernel
theorem dX12_isNext_139 : decode cX12_isNext 139 = .ok (.putfield 256, 3) := by decide +kernel
theorem dX12_isNext_142 : decode cX12_isNext 142 = .ok (.aload_n 0, 1) := by decide +kernel
theorem dX12_isNext_143 : decode cX12_isNext 143 = .ok (.aload_n 0, 1) := by decide +kernel
theorem dX12_isNext_144 : decode cX12_isNext 144 = .ok (.getfield 83, 3) := by decide +kernel
theorem dX12_isNext_147 : decode cX12_isNext 147 = .ok (.iload_n 1, 1) := by decide +kernel
theorem dX12_isNext_148 : decode cX12_isNext 148 = .ok (.iconst 1, 1) := by decide +kernel
theorem dX12_isNext_149 : decode cX12_isNext 149 = .ok (.iadd, 1) := by decide +kernel
theorem dX12_isNext_150 : decode cX12_isNext 150 = .ok (.iaload, 1) := by decide +kernel
theorem dX12_isNext_151 : decode cX12_isNext 151 = .ok (.invokevirtual 310, 3) := by decide +kernel
theorem dX12_isNext_154 : decode cX12_isNext 154 = .ok (.istore 4, 2) := by decide +kernel
theorem dX12_isNext_156 : decode cX12_isNext 156 = .ok (.aload_n 0, 1) := by decide +kernel
theorem dX12_isNext_157 : decode cX12_isNext 157 = .ok (.iload 4, 2) := by decide +kernel
theorem dX12_isNext_159 : decode cX12_isNext 159 = .ok (.ifCond .eq 12, 3) := by decide +kernel
theorem dX12_isNext_162 : decode cX12_isNext 162 = .ok (.aload_n 0, 1) := by decide +kernel
theorem dX12_isNext_163 : decode cX12_isNext 163 = .ok (.getfield 262, 3) := by decide +kernel
theorem dX12_isNext_166 : decode cX12_isNext 166 = .ok (.iconst 2, 1) := by decide +kernel
theorem dX12_isNext_167 : decode cX12_isNext 167 = .ok (.iadd, 1) := by decide +kernel
theorem dX12_isNext_168 : decode cX12_isNext 168 = .ok (.goto 4, 3) := by decide +kernel
theorem dX12_isNext_171 : decode cX12_isNext 171 = .ok (.iload_n 1, 1) := by decide +kernel
theorem dX12_isNext_172 : decode cX12_isNext 172 = .ok (.putfield 259, 3) := by decide +kernel
theorem dX12_isNext_175 : decode cX12_isNext 175 = .ok (.iload 4, 2) := by decide +kernel
theorem dX12_isNext_177 : decode cX12_isNext 177 = .ok (.ireturn, 1) := by decide +kernel
theorem dX12_recover_0 : decode cX12_recover 0 = .ok (.aload_n 0, 1) := by decide +kernel
theorem dX12_recover_1 : decode cX12_recover 1 = .ok (.getfield 7, 3) := by decide +kernel
theorem dX12_recover_4 : decode cX12_recover 4 = .ok (.ifCond .eq 6, 3) := by decide +kernel
theorem dX12_recover_7 : decode cX12_recover 7 = .ok (.bipush (-6), 2) := by decide +kernel
theorem dX12_recover_9 : decode cX12_recover 9 = .ok (.ireturn, 1) := by decide +kernel
theorem dX12_recover_10 : decode cX12_recover 10 = .ok (.aload_n 0, 1) := by decide +kernel
theorem dX12_recover_11 : decode cX12_recover 11 = .ok (.iconst 0, 1) := by decide +kernel
theorem dX12_recover_12 : decode cX12_recover 12 = .ok (.putfield 113, 3) := by decide +kernel
theorem dX12_recover_15 : decode cX12_recover 15 = .ok (.aload_n 0, 1) := by decide +kernel
theorem dX12_recover_16 : decode cX12_recover 16 = .ok (.iconst (-1), 1) := by decide +kernel
theorem dX12_recover_17 : decode cX12_recover 17 = .ok (.putfield 37, 3) := by decide +kernel
theorem dX12_recover_20 : decode cX12_recover 20 = .ok (.aload_n 0, 1) := by decide +kernel
theorem dX12_recover_21 : decode cX12_recover 21 = .ok (.iconst 0, 1) := by decide +kernel
theorem dX12_recover_22 : decode cX12_recover 22 = .ok (.putfield 173, 3) := by decide +kernel
theorem dX12_recover_25 : decode cX12_recover 25 = .ok (.aload_n 0, 1) := by decide +kernel
theorem dX12_recover_26 : decode cX12_recover 26 = .ok (.iconst 0, 1) := by decide +kernel
theorem dX12_recover_27 : decode cX12_recover 27 = .ok (.putfield 197, 3) := by decide +kernel
theorem dX12_recover_30 : decode cX12_recover 30 = .ok (.aload_n 0, 1) := by decide +kernel
theorem dX12_recover_31 : decode cX12_recover 31 = .ok (.iconst 0, 1) := by decide +kernel
theorem dX12_recover_32 : decode cX12_recover 32 = .ok (.putfield 203, 3) := by decide +kernel
theorem dX12_recover_35 : decode cX12_recover 35 = .ok (.aload_n 0, 1) := by decide +kernel
theorem dX12_recover_36 : decode cX12_recover 36 = .ok (.iconst 0, 1) := by decide +kernel
theorem dX12_recover_37 : decode cX12_recover 37 = .ok (.putfield 137, 3) := by decide +kernel
theorem dX12_recover_40 : decode cX12_recover 40 = .ok (.aload_n 0, 1) := by decide +kernel
theorem dX12_recover_41 : decode cX12_recover 41 = .ok (.iconst 0, 1) := by decide +kernel
theorem dX12_recover_42 : decode cX12_recover 42 = .ok (.putfield 184, 3) := by decide +kernel
theorem dX12_recover_45 : decode cX12_recover 45 = .ok (.aload_n 0, 1) := by decide +kernel
theorem dX12_recover_46 : decode cX12_recover 46 = .ok (.iconst 1, 1) := by decide +kernel
theorem dX12_recover_47 : decode cX12_recover 47 = .ok (.putfield 7, 3) := by decide +kernel
theorem dX12_recover_50 : decode cX12_recover 50 = .ok (.aload_n 0, 1) := by decide +kernel
theorem dX12_recover_51 : decode cX12_recover 51 = .ok (.iconst 1, 1) := by decide +kernel
theorem dX12_recover_52 : decode cX12_recover 52 = .ok (.putfield 129, 3) := by decide +kernel
theorem dX12_recover_55 : decode cX12_recover 55 = .ok (.aload_n 0, 1) := by decide +kernel
theorem dX12_recover_56 : decode cX12_recover 56 = .ok (.iconst 0, 1) := by decide +kernel
theorem dX12_recover_57 : decode cX12_recover 57 = .ok (.putfield 259, 3) := by decide +kernel
theorem dX12_recover_60 : decode cX12_recover 60 = .ok (.iconst 1, 1) := by decide +kernel
theorem dX12_recover_61 : decode cX12_recover 61 = .ok (.istore_n 1, 1) := by decide +kernel
theorem dX12_recover_62 : decode cX12_recover 62 = .ok (.iload_n 1, 1) := by decide +kernel
theorem dX12_recover_63 : decode cX12_recover 63 = .ok (.ifCond .eq 11, 3) := by decide +kernel
theorem dX12_recover_66 : decode cX12_recover 66 = .ok (.aload_n 0, 1) := by decide +kernel
theorem dX12_recover_67 : decode cX12_recover 67 = .ok (.invokevirtual 313, 3) := by decide +kernel
theorem dX12_recover_70 : decode cX12_recover 70 = .ok (.istore_n 1, 1) := by decide +kernel
theorem dX12_recover_71 : decode cX12_recover 71 = .ok (.goto (-9), 3) := by decide +kernel
theorem dX12_recover_74 : decode cX12_recover 74 = .ok (.aload_n 0, 1) := by decide +kernel
theorem dX12_recover_75 : decode cX12_recover 75 = .ok (.iconst 0, 1) := by decide +kernel
theorem dX12_recover_76 : decode cX12_recover 76 = .ok (.putfield 129, 3) := by decide +kernel
theorem dX12_recover_79 : decode cX12_recover 79 = .ok (.aload_n 0, 1) := by decide +kernel
theorem dX12_recover_80 : decode cX12_recover 80 = .ok (.aload_n 0, 1) := by decide +kernel
theorem dX12_recover_81 : decode cX12_recover 81 = .ok (.getfield 259, 3) := by decide +kernel
theorem dX12_recover_84 : decode cX12_recover 84 = .ok (.putfield 132, 3) := by decide +kernel
theorem dX12_recover_87 : decode cX12_recover 87 = .ok (.aload_n 0, 1) := by decide +kernel
theorem dX12_recover_88 : decode cX12_recover 88 = .ok (.aload_n 0, 1) := by decide +kernel
theorem dX12_recover_89 : decode cX12_recover 89 = .ok (.getfield 132, 3) := by decide +kernel
theorem dX12_recover_92 : decode cX12_recover 92 = .ok (.putfield 248, 3) := by decide +kernel
theorem dX12_recover_95 : decode cX12_recover 95 = .ok (.aload_n 0, 1) := by decide +kernel
theorem dX12_recover_96 : decode cX12_recover 96 = .ok (.getfield 137, 3) := by decide +kernel
theorem dX12_recover_99 : decode cX12_recover 99 = .ok (.ireturn, 1) := by decide +kernel
theorem dX12_byteAt_0 : decode cX12_byteAt 0 = .ok (.iload_n 1, 1) := by decide +kernel
theorem dX12_byteAt_1 : decode cX12_byteAt 1 = .ok (.i2l, 1) := by decide +kernel
theorem dX12_byteAt_2 : decode cX12_byteAt 2 = .ok (.lconst 0, 1) := by decide +kernel
theorem dX12_byteAt_3 : decode cX12_byteAt 3 = .ok (.aload_n 0, 1) := by decide +kernel
theorem dX12_byteAt_4 : decode cX12_byteAt 4 = .ok (.getfield 132, 3) := by decide +kernel
theorem dX12_byteAt_7 : decode cX12_byteAt 7 = .ok (.iconst 1, 1) := by decide +kernel
theorem dX12_byteAt_8 : decode cX12_byteAt 8 = .ok (.isub, 1) := by decide +kernel
theorem dX12_byteAt_9 : decode cX12_byteAt 9 = .ok (.i2l, 1) := by decide +kernel
theorem dX12_byteAt_10 : decode cX12_byteAt 10 = .ok (.invokestatic 116, 3) := by decide +kernel
theorem dX12_byteAt_13 : decode cX12_byteAt 13 = .ok (.ifCond .eq 12, 3) := by decide +kernel
theorem dX12_byteAt_16 : decode cX12_byteAt 16 = .ok (.aload_n 0, 1) := by decide +kernel
theorem dX12_byteAt_17 : decode cX12_byteAt 17 = .ok (.getfield 83, 3) := by decide +kernel
theorem dX12_byteAt_20 : decode cX12_byteAt 20 = .ok (.iload_n 1, 1) := by decide +kernel
theorem dX12_byteAt_21 : decode cX12_byteAt 21 = .ok (.iaload, 1) := by decide +kernel
theorem dX12_byteAt_22 : decode cX12_byteAt 22 = .ok (.goto 5, 3) := by decide +kernel
theorem dX12_byteAt_25 : decode cX12_byteAt 25 = .ok (.bipush (-2), 2) := by decide +kernel
theorem dX12_byteAt_27 : decode cX12_byteAt 27 = .ok (.ireturn, 1) := by decide +kernel
theorem dX12_of_0 : decode cX12_of 0 = .ok (.aload_n 0, 1) := by decide +kernel
theorem dX12_of_1 : decode cX12_of 1 = .ok (.getfield 7, 3) := by decide +kernel
theorem dX12_of_4 : decode cX12_of 4 = .ok (.ifCond .ne 6, 3) := by decide +kernel
theorem dX12_of_7 : decode cX12_of 7 = .ok (.bipush (-6), 2) := by decide +kernel
theorem dX12_of_9 : decode cX12_of 9 = .ok (.ireturn, 1) := by decide +kernel
theorem dX12_of_10 : decode cX12_of 10 = .ok (.aload_n 0, 1) := by decide +kernel
theorem dX12_of_11 : decode cX12_of 11 = .ok (.iload_n 1, 1) := by decide +kernel
theorem dX12_of_12 : decode cX12_of 12 = .ok (.invokevirtual 148, 3) := by decide +kernel
theorem dX12_of_15 : decode cX12_of 15 = .ok (.ifCond .ne 6, 3) := by decide +kernel
theorem dX12_of_18 : decode cX12_of 18 = .ok (.bipush (-2), 2) := by decide +kernel
theorem dX12_of_20 : decode cX12_of 20 = .ok (.ireturn, 1) := by decide +kernel
theorem dX12_of_21 : decode cX12_of 21 = .ok (.iload_n 2, 1) := by decide +kernel
theorem dX12_of_22 : decode cX12_of 22 = .ok (.tableswitch 146 0 6 #[42, 49, 56, 63, 78, 93, 100], 42) := by decide +kernel
theorem dX12_of_64 : decode cX12_of 64 = .ok (.aload_n 0, 1) := by decide +kernel
theorem dX12_of_65 : decode cX12_of 65 = .ok (.getfield 13, 3) := by decide +kernel
theorem dX12_of_68 : decode cX12_of 68 = .ok (.iload_n 1, 1) := by decide +kernel
theorem dX12_of_69 : decode cX12_of 69 = .ok (.iaload, 1) := by decide +kernel
theorem dX12_of_70 : decode cX12_of 70 = .ok (.ireturn, 1) := by decide +kernel
theorem dX12_of_71 : decode cX12_of 71 = .ok (.aload_n 0, 1) := by decide +kernel
theorem dX12_of_72 : decode cX12_of 72 = .ok (.getfield 17, 3) := by decide +kernel
theorem dX12_of_75 : decode cX12_of 75 = .ok (.iload_n 1, 1) := by decide +kernel
theorem dX12_of_76 : decode cX12_of 76 = .ok (.iaload, 1) := by decide +kernel
theorem dX12_of_77 : decode cX12_of 77 = .ok (.ireturn, 1) := by decide +kernel
theorem dX12_of_78 : decode cX12_of 78 = .ok (.aload_n 0, 1) := by decide +kernel
theorem dX12_of_79 : decode cX12_of 79 = .ok (.getfield 20, 3) := by decide +kernel
theorem dX12_of_82 : decode cX12_of 82 = .ok (.iload_n 1, 1) := by decide +kernel
theorem dX12_of_83 : decode cX12_of 83 = .ok (.iaload, 1) := by decide +kernel
theorem dX12_of_84 : decode cX12_of 84 = .ok (.ireturn, 1) := by decide +kernel
theorem dX12_of_85 : decode cX12_of 85 = .ok (.aload_n 0, 1) := by decide +kernel
theorem dX12_of_86 : decode cX12_of 86 = .ok (.getfield 23, 3) := by decide +kernel
theorem dX12_of_89 : decode cX12_of 89 = .ok (.iload_n 1, 1) := by decide +kernel
theorem dX12_of_90 : decode cX12_of 90 = .ok (.baload, 1) := by decide +kernel
theorem dX12_of_91 : decode cX12_of 91 = .ok (.ifCond .eq 7, 3) := by decide +kernel
theorem dX12_of_94 : decode cX12_of 94 = .ok (.iconst 1, 1) := by decide +kernel
theorem dX12_of_95 : decode cX12_of 95 = .ok (.goto 4, 3) := by decide +kernel
theorem dX12_of_98 : decode cX12_of 98 = .ok (.iconst 0, 1) := by decide +kernel
theorem dX12_of_99 : decode cX12_of 99 = .ok (.ireturn, 1) := by decide +kernel
theorem dX12_of_100 : decode cX12_of 100 = .ok (.aload_n 0, 1) := by decide +kernel
theorem dX12_of_101 : decode cX12_of 101 = .ok (.getfield 30, 3) := by decide +kernel
theorem dX12_of_104 : decode cX12_of 104 = .ok (.iload_n 1, 1) := by decide +kernel
theorem dX12_of_105 : decode cX12_of 105 = .ok (.baload, 1) := by decide +kernel
theorem dX12_of_106 : decode cX12_of 106 = .ok (.ifCond .eq 7, 3) := by decide +kernel
theorem dX12_of_109 : decode cX12_of 109 = .ok (.iconst 1, 1) := by decide +kernel
theorem dX12_of_110 : decode cX12_of 110 = .ok (.goto 4, 3) := by decide +kernel
theorem dX12_of_113 : decode cX12_of 113 = .ok (.iconst 0, 1) := by decide +kernel
theorem dX12_of_114 : decode cX12_of 114 = .ok (.ireturn, 1) := by decide +kernel
theorem dX12_of_115 : decode cX12_of 115 = .ok (.aload_n 0, 1) := by decide +kernel
theorem dX12_of_116 : decode cX12_of 116 = .ok (.getfield 27, 3) := by decide +kernel
theorem dX12_of_119 : decode cX12_of 119 = .ok (.iload_n 1, 1) := by decide +kernel
theorem dX12_of_120 : decode cX12_of 120 = .ok (.iaload, 1) := by decide +kernel
theorem dX12_of_121 : decode cX12_of 121 = .ok (.ireturn, 1) := by decide +kernel
theorem dX12_of_122 : decode cX12_of 122 = .ok (.iconst 0, 1) := by decide +kernel
theorem dX12_of_123 : decode cX12_of 123 = .ok (.istore_n 3, 1) := by decide +kernel
theorem dX12_of_124 : decode cX12_of 124 = .ok (.iconst 0, 1) := by decide +kernel
theorem dX12_of_125 : decode cX12_of 125 = .ok (.istore 4, 2) := by decide +kernel
theorem dX12_of_127 : decode cX12_of 127 = .ok (.iload 4, 2) := by decide +kernel
theorem dX12_of_129 : decode cX12_of 129 = .ok (.aload_n 0, 1) := by decide +kernel
theorem dX12_of_130 : decode cX12_of 130 = .ok (.getfield 56, 3) := by decide +kernel
theorem dX12_of_133 : decode cX12_of 133 = .ok (.aload_n 0, 1) := by decide +kernel
theorem dX12_of_134 : decode cX12_of 134 = .ok (.getfield 203, 3) := by decide +kernel
theorem dX12_of_137 : decode cX12_of 137 = .ok (.iaload, 1) := by decide +kernel
theorem dX12_of_138 : decode cX12_of 138 = .ok (.if_icmp .ge 28, 3) := by decide +kernel
theorem dX12_of_141 : decode cX12_of 141 = .ok (.iload_n 3, 1) := by decide +kernel
theorem dX12_of_142 : decode cX12_of 142 = .ok (.aload_n 0, 1) := by decide +kernel
theorem dX12_of_143 : decode cX12_of 143 = .ok (.getfield 65, 3) := by decide +kernel
theorem dX12_of_146 : decode cX12_of 146 = .ok (.iload 4, 2) := by decide +kernel
theorem dX12_of_148 : decode cX12_of 148 = .ok (.iaload, 1) := by decide +kernel
theorem dX12_of_149 : decode cX12_of 149 = .ok (.iload_n 1, 1) := by decide +kernel
theorem dX12_of_150 : decode cX12_of 150 = .ok (.if_icmp .ne 7, 3) := by decide +kernel
theorem dX12_of_153 : decode cX12_of 153 = .ok (.iconst 1, 1) := by decide +kernel
theorem dX12_of_154 : decode cX12_of 154 = .ok (.goto 4, 3) := by decide +kernel
theorem dX12_of_157 : decode cX12_of 157 = .ok (.iconst 0, 1) := by decide +kernel
theorem dX12_of_158 : decode cX12_of 158 = .ok (.iadd, 1) := by decide +kernel
theorem dX12_of_159 : decode cX12_of 159 = .ok (.istore_n 3, 1) := by decide +kernel
theorem dX12_of_160 : decode cX12_of 160 = .ok (.iinc 4 1, 3) := by decide +kernel
theorem dX12_of_163 : decode cX12_of 163 = .ok (.goto (-36), 3) := by decide +kernel
theorem dX12_of_166 : decode cX12_of 166 = .ok (.iload_n 3, 1) := by decide +kernel
theorem dX12_of_167 : decode cX12_of 167 = .ok (.ireturn, 1) := by decide +kernel
theorem dX12_of_168 : decode cX12_of 168 = .ok (.bipush (-3), 2) := by decide +kernel
theorem dX12_of_170 : decode cX12_of 170 = .ok (.ireturn, 1) := by decide +kernel
theorem dX12_isUnder_0 : decode cX12_isUnder 0 = .ok (.iload_n 1, 1) := by decide +kernel
theorem dX12_isUnder_1 : decode cX12_isUnder 1 = .ok (.istore_n 3, 1) := by decide +kernel
theorem dX12_isUnder_2 : decode cX12_isUnder 2 = .ok (.iload_n 3, 1) := by decide +kernel
theorem dX12_isUnder_3 : decode cX12_isUnder 3 = .ok (.iconst (-1), 1) := by decide +kernel
theorem dX12_isUnder_4 : decode cX12_isUnder 4 = .ok (.if_icmp .eq 18, 3) := by decide +kernel
theorem dX12_isUnder_7 : decode cX12_isUnder 7 = .ok (.iload_n 3, 1) := by decide +kernel
theorem dX12_isUnder_8 : decode cX12_isUnder 8 = .ok (.iload_n 2, 1) := by decide +kernel
theorem dX12_isUnder_9 : decode cX12_isUnder 9 = .ok (.if_icmp .eq 13, 3) := by decide +kernel
theorem dX12_isUnder_12 : decode cX12_isUnder 12 = .ok (.aload_n 0, 1) := by decide +kernel
theorem dX12_isUnder_13 : decode cX12_isUnder 13 = .ok (.getfield 20, 3) := by decide +kernel
theorem dX12_isUnder_16 : decode cX12_isUnder 16 = .ok (.iload_n 3, 1) := by decide +kernel
theorem dX12_isUnder_17 : decode cX12_isUnder 17 = .ok (.iaload, 1) := by decide +kernel
theorem dX12_isUnder_18 : decode cX12_isUnder 18 = .ok (.istore_n 3, 1) := by decide +kernel
theorem dX12_isUnder_19 : decode cX12_isUnder 19 = .ok (.goto (-17), 3) := by decide +kernel
theorem dX12_isUnder_22 : decode cX12_isUnder 22 = .ok (.iload_n 3, 1) := by decide +kernel
theorem dX12_isUnder_23 : decode cX12_isUnder 23 = .ok (.iload_n 2, 1) := by decide +kernel
theorem dX12_isUnder_24 : decode cX12_isUnder 24 = .ok (.if_icmp .ne 7, 3) := by decide +kernel
theorem dX12_isUnder_27 : decode cX12_isUnder 27 = .ok (.iconst 1, 1) := by decide +kernel
theorem dX12_isUnder_28 : decode cX12_isUnder 28 = .ok (.goto 4, 3) := by decide +kernel
theorem dX12_isUnder_31 : decode cX12_isUnder 31 = .ok (.iconst 0, 1) := by decide +kernel
theorem dX12_isUnder_32 : decode cX12_isUnder 32 = .ok (.ireturn, 1) := by decide +kernel
theorem dX12_balanceOf_0 : decode cX12_balanceOf 0 = .ok (.lconst 0, 1) := by decide +kernel
theorem dX12_balanceOf_1 : decode cX12_balanceOf 1 = .ok (.lstore_n 2, 1) := by decide +kernel
theorem dX12_balanceOf_2 : decode cX12_balanceOf 2 = .ok (.iconst 0, 1) := by decide +kernel
theorem dX12_balanceOf_3 : decode cX12_balanceOf 3 = .ok (.istore 4, 2) := by decide +kernel
theorem dX12_balanceOf_5 : decode cX12_balanceOf 5 = .ok (.iload 4, 2) := by decide +kernel
theorem dX12_balanceOf_7 : decode cX12_balanceOf 7 = .ok (.aload_n 0, 1) := by decide +kernel
theorem dX12_balanceOf_8 : decode cX12_balanceOf 8 = .ok (.getfield 113, 3) := by decide +kernel
theorem dX12_balanceOf_11 : decode cX12_balanceOf 11 = .ok (.if_icmp .ge 43, 3) := by decide +kernel
theorem dX12_balanceOf_14 : decode cX12_balanceOf 14 = .ok (.lload_n 2, 1) := by decide +kernel
theorem dX12_balanceOf_15 : decode cX12_balanceOf 15 = .ok (.aload_n 0, 1) := by decide +kernel
theorem dX12_balanceOf_16 : decode cX12_balanceOf 16 = .ok (.getfield 23, 3) := by decide +kernel
theorem dX12_balanceOf_19 : decode cX12_balanceOf 19 = .ok (.iload 4, 2) := by decide +kernel
theorem dX12_balanceOf_21 : decode cX12_balanceOf 21 = .ok (.baload, 1) := by decide +kernel
theorem dX12_balanceOf_22 : decode cX12_balanceOf 22 = .ok (.ifCond .ne 23, 3) := by decide +kernel
theorem dX12_balanceOf_25 : decode cX12_balanceOf 25 = .ok (.aload_n 0, 1) := by decide +kernel
theorem dX12_balanceOf_26 : decode cX12_balanceOf 26 = .ok (.iload 4, 2) := by decide +kernel
theorem dX12_balanceOf_28 : decode cX12_balanceOf 28 = .ok (.iload_n 1, 1) := by decide +kernel
theorem dX12_balanceOf_29 : decode cX12_balanceOf 29 = .ok (.invokevirtual 316, 3) := by decide +kernel
theorem dX12_balanceOf_32 : decode cX12_balanceOf 32 = .ok (.ifCond .eq 13, 3) := by decide +kernel
theorem dX12_balanceOf_35 : decode cX12_balanceOf 35 = .ok (.aload_n 0, 1) := by decide +kernel
theorem dX12_balanceOf_36 : decode cX12_balanceOf 36 = .ok (.getfield 33, 3) := by decide +kernel
theorem dX12_balanceOf_39 : decode cX12_balanceOf 39 = .ok (.iload 4, 2) := by decide +kernel
theorem dX12_balanceOf_41 : decode cX12_balanceOf 41 = .ok (.laload, 1) := by decide +kernel
theorem dX12_balanceOf_42 : decode cX12_balanceOf 42 = .ok (.goto 4, 3) := by decide +kernel
theorem dX12_balanceOf_45 : decode cX12_balanceOf 45 = .ok (.lconst 0, 1) := by decide +kernel
theorem dX12_balanceOf_46 : decode cX12_balanceOf 46 = .ok (.ladd, 1) := by decide +kernel
theorem dX12_balanceOf_47 : decode cX12_balanceOf 47 = .ok (.lstore_n 2, 1) := by decide +kernel
theorem dX12_balanceOf_48 : decode cX12_balanceOf 48 = .ok (.iinc 4 1, 3) := by decide +kernel
theorem dX12_balanceOf_51 : decode cX12_balanceOf 51 = .ok (.goto (-46), 3) := by decide +kernel
theorem dX12_balanceOf_54 : decode cX12_balanceOf 54 = .ok (.lload_n 2, 1) := by decide +kernel
theorem dX12_balanceOf_55 : decode cX12_balanceOf 55 = .ok (.lreturn, 1) := by decide +kernel
theorem dX12_balance_0 : decode cX12_balance 0 = .ok (.aload_n 0, 1) := by decide +kernel
theorem dX12_balance_1 : decode cX12_balance 1 = .ok (.getfield 7, 3) := by decide +kernel
theorem dX12_balance_4 : decode cX12_balance 4 = .ok (.ifCond .eq 11, 3) := by decide +kernel
theorem dX12_balance_7 : decode cX12_balance 7 = .ok (.aload_n 0, 1) := by decide +kernel
theorem dX12_balance_8 : decode cX12_balance 8 = .ok (.iload_n 1, 1) := by decide +kernel
theorem dX12_balance_9 : decode cX12_balance 9 = .ok (.invokevirtual 148, 3) := by decide +kernel
theorem dX12_balance_12 : decode cX12_balance 12 = .ok (.ifCond .ne 9, 3) := by decide +kernel
theorem dX12_balance_15 : decode cX12_balance 15 = .ok (.ldc2_w 246, 3) := by decide +kernel
theorem dX12_balance_18 : decode cX12_balance 18 = .ok (.goto 8, 3) := by decide +kernel
theorem dX12_balance_21 : decode cX12_balance 21 = .ok (.aload_n 0, 1) := by decide +kernel
theorem dX12_balance_22 : decode cX12_balance 22 = .ok (.iload_n 1, 1) := by decide +kernel
theorem dX12_balance_23 : decode cX12_balance 23 = .ok (.invokevirtual 320, 3) := by decide +kernel
theorem dX12_balance_26 : decode cX12_balance 26 = .ok (.lreturn, 1) := by decide +kernel
theorem dX12_sum_0 : decode cX12_sum 0 = .ok (.aload_n 0, 1) := by decide +kernel
theorem dX12_sum_1 : decode cX12_sum 1 = .ok (.getfield 7, 3) := by decide +kernel
theorem dX12_sum_4 : decode cX12_sum 4 = .ok (.ifCond .eq 11, 3) := by decide +kernel
theorem dX12_sum_7 : decode cX12_sum 7 = .ok (.aload_n 0, 1) := by decide +kernel
theorem dX12_sum_8 : decode cX12_sum 8 = .ok (.iload_n 1, 1) := by decide +kernel
theorem dX12_sum_9 : decode cX12_sum 9 = .ok (.invokevirtual 148, 3) := by decide +kernel
theorem dX12_sum_12 : decode cX12_sum 12 = .ok (.ifCond .ne 7, 3) := by decide +kernel
theorem dX12_sum_15 : decode cX12_sum 15 = .ok (.ldc2_w 246, 3) := by decide +kernel
theorem dX12_sum_18 : decode cX12_sum 18 = .ok (.lreturn, 1) := by decide +kernel
theorem dX12_sum_19 : decode cX12_sum 19 = .ok (.lconst 0, 1) := by decide +kernel
theorem dX12_sum_20 : decode cX12_sum 20 = .ok (.lstore 4, 2) := by decide +kernel
theorem dX12_sum_22 : decode cX12_sum 22 = .ok (.iconst 0, 1) := by decide +kernel
theorem dX12_sum_23 : decode cX12_sum 23 = .ok (.istore 6, 2) := by decide +kernel
theorem dX12_sum_25 : decode cX12_sum 25 = .ok (.iload 6, 2) := by decide +kernel
theorem dX12_sum_27 : decode cX12_sum 27 = .ok (.aload_n 0, 1) := by decide +kernel
theorem dX12_sum_28 : decode cX12_sum 28 = .ok (.getfield 113, 3) := by decide +kernel
theorem dX12_sum_31 : decode cX12_sum 31 = .ok (.if_icmp .ge 46, 3) := by decide +kernel
theorem dX12_sum_34 : decode cX12_sum 34 = .ok (.lload 4, 2) := by decide +kernel
theorem dX12_sum_36 : decode cX12_sum 36 = .ok (.aload_n 0, 1) := by decide +kernel
theorem dX12_sum_37 : decode cX12_sum 37 = .ok (.getfield 23, 3) := by decide +kernel
theorem dX12_sum_40 : decode cX12_sum 40 = .ok (.iload 6, 2) := by decide +kernel
theorem dX12_sum_42 : decode cX12_sum 42 = .ok (.baload, 1) := by decide +kernel
theorem dX12_sum_43 : decode cX12_sum 43 = .ok (.ifCond .ne 24, 3) := by decide +kernel
theorem dX12_sum_46 : decode cX12_sum 46 = .ok (.aload_n 0, 1) := by decide +kernel
theorem dX12_sum_47 : decode cX12_sum 47 = .ok (.iload 6, 2) := by decide +kernel
theorem dX12_sum_49 : decode cX12_sum 49 = .ok (.iload_n 1, 1) := by decide +kernel
theorem dX12_sum_50 : decode cX12_sum 50 = .ok (.invokevirtual 316, 3) := by decide +kernel
theorem dX12_sum_53 : decode cX12_sum 53 = .ok (.ifCond .eq 14, 3) := by decide +kernel
theorem dX12_sum_56 : decode cX12_sum 56 = .ok (.aload_n 0, 1) := by decide +kernel
theorem dX12_sum_57 : decode cX12_sum 57 = .ok (.iload 6, 2) := by decide +kernel
theorem dX12_sum_59 : decode cX12_sum 59 = .ok (.iload_n 2, 1) := by decide +kernel
theorem dX12_sum_60 : decode cX12_sum 60 = .ok (.iload_n 3, 1) := by decide +kernel
theorem dX12_sum_61 : decode cX12_sum 61 = .ok (.invokevirtual 230, 3) := by decide +kernel
theorem dX12_sum_64 : decode cX12_sum 64 = .ok (.goto 4, 3) := by decide +kernel
theorem dX12_sum_67 : decode cX12_sum 67 = .ok (.lconst 0, 1) := by decide +kernel
theorem dX12_sum_68 : decode cX12_sum 68 = .ok (.ladd, 1) := by decide +kernel
theorem dX12_sum_69 : decode cX12_sum 69 = .ok (.lstore 4, 2) := by decide +kernel
theorem dX12_sum_71 : decode cX12_sum 71 = .ok (.iinc 6 1, 3) := by decide +kernel
theorem dX12_sum_74 : decode cX12_sum 74 = .ok (.goto (-49), 3) := by decide +kernel
theorem dX12_sum_77 : decode cX12_sum 77 = .ok (.lload 4, 2) := by decide +kernel
theorem dX12_sum_79 : decode cX12_sum 79 = .ok (.lreturn, 1) := by decide +kernel
theorem dX12_entry_0 : decode cX12_entry 0 = .ok (.aload_n 0, 1) := by decide +kernel
theorem dX12_entry_1 : decode cX12_entry 1 = .ok (.getfield 7, 3) := by decide +kernel
theorem dX12_entry_4 : decode cX12_entry 4 = .ok (.ifCond .ne 6, 3) := by decide +kernel
theorem dX12_entry_7 : decode cX12_entry 7 = .ok (.bipush (-6), 2) := by decide +kernel
theorem dX12_entry_9 : decode cX12_entry 9 = .ok (.ireturn, 1) := by decide +kernel
theorem dX12_entry_10 : decode cX12_entry 10 = .ok (.iload_n 1, 1) := by decide +kernel
theorem dX12_entry_11 : decode cX12_entry 11 = .ok (.i2l, 1) := by decide +kernel
theorem dX12_entry_12 : decode cX12_entry 12 = .ok (.lconst 0, 1) := by decide +kernel
theorem dX12_entry_13 : decode cX12_entry 13 = .ok (.aload_n 0, 1) := by decide +kernel
theorem dX12_entry_14 : decode cX12_entry 14 = .ok (.getfield 203, 3) := by decide +kernel
theorem dX12_entry_17 : decode cX12_entry 17 = .ok (.iconst 1, 1) := by decide +kernel
theorem dX12_entry_18 : decode cX12_entry 18 = .ok (.isub, 1) := by decide +kernel
theorem dX12_entry_19 : decode cX12_entry 19 = .ok (.i2l, 1) := by decide +kernel
theorem dX12_entry_20 : decode cX12_entry 20 = .ok (.invokestatic 116, 3) := by decide +kernel
theorem dX12_entry_23 : decode cX12_entry 23 = .ok (.ifCond .ne 6, 3) := by decide +kernel
theorem dX12_entry_26 : decode cX12_entry 26 = .ok (.bipush (-2), 2) := by decide +kernel
theorem dX12_entry_28 : decode cX12_entry 28 = .ok (.ireturn, 1) := by decide +kernel
theorem dX12_entry_29 : decode cX12_entry 29 = .ok (.iload_n 2, 1) := by decide +kernel
theorem dX12_entry_30 : decode cX12_entry 30 = .ok (.tableswitch 89 0 5 #[38, 45, 52, 59, 75, 82], 38) := by decide +kernel
theorem dX12_entry_68 : decode cX12_entry 68 = .ok (.aload_n 0, 1) := by decide +kernel
theorem dX12_entry_69 : decode cX12_entry 69 = .ok (.getfield 47, 3) := by decide +kernel
theorem dX12_entry_72 : decode cX12_entry 72 = .ok (.iload_n 1, 1) := by decide +kernel
theorem dX12_entry_73 : decode cX12_entry 73 = .ok (.iaload, 1) := by decide +kernel
theorem dX12_entry_74 : decode cX12_entry 74 = .ok (.ireturn, 1) := by decide +kernel
theorem dX12_entry_75 : decode cX12_entry 75 = .ok (.aload_n 0, 1) := by decide +kernel
theorem dX12_entry_76 : decode cX12_entry 76 = .ok (.getfield 50, 3) := by decide +kernel
theorem dX12_entry_79 : decode cX12_entry 79 = .ok (.iload_n 1, 1) := by decide +kernel
theorem dX12_entry_80 : decode cX12_entry 80 = .ok (.iaload, 1) := by decide +kernel
theorem dX12_entry_81 : decode cX12_entry 81 = .ok (.ireturn, 1) := by decide +kernel
theorem dX12_entry_82 : decode cX12_entry 82 = .ok (.aload_n 0, 1) := by decide +kernel
theorem dX12_entry_83 : decode cX12_entry 83 = .ok (.getfield 53, 3) := by decide +kernel
theorem dX12_entry_86 : decode cX12_entry 86 = .ok (.iload_n 1, 1) := by decide +kernel
theorem dX12_entry_87 : decode cX12_entry 87 = .ok (.iaload, 1) := by decide +kernel
theorem dX12_entry_88 : decode cX12_entry 88 = .ok (.ireturn, 1) := by decide +kernel
theorem dX12_entry_89 : decode cX12_entry 89 = .ok (.aload_n 0, 1) := by decide +kernel
theorem dX12_entry_90 : decode cX12_entry 90 = .ok (.getfield 56, 3) := by decide +kernel
theorem dX12_entry_93 : decode cX12_entry 93 = .ok (.iload_n 1, 1) := by decide +kernel
theorem dX12_entry_94 : decode cX12_entry 94 = .ok (.iconst 1, 1) := by decide +kernel
theorem dX12_entry_95 : decode cX12_entry 95 = .ok (.iadd, 1) := by decide +kernel
theorem dX12_entry_96 : decode cX12_entry 96 = .ok (.iaload, 1) := by decide +kernel
theorem dX12_entry_97 : decode cX12_entry 97 = .ok (.aload_n 0, 1) := by decide +kernel
theorem dX12_entry_98 : decode cX12_entry 98 = .ok (.getfield 56, 3) := by decide +kernel
theorem dX12_entry_101 : decode cX12_entry 101 = .ok (.iload_n 1, 1) := by decide +kernel
theorem dX12_entry_102 : decode cX12_entry 102 = .ok (.iaload, 1) := by decide +kernel
theorem dX12_entry_103 : decode cX12_entry 103 = .ok (.isub, 1) := by decide +kernel
theorem dX12_entry_104 : decode cX12_entry 104 = .ok (.ireturn, 1) := by decide +kernel
theorem dX12_entry_105 : decode cX12_entry 105 = .ok (.aload_n 0, 1) := by decide +kernel
theorem dX12_entry_106 : decode cX12_entry 106 = .ok (.getfield 59, 3) := by decide +kernel
theorem dX12_entry_109 : decode cX12_entry 109 = .ok (.iload_n 1, 1) := by decide +kernel
theorem dX12_entry_110 : decode cX12_entry 110 = .ok (.iaload, 1) := by decide +kernel
theorem dX12_entry_111 : decode cX12_entry 111 = .ok (.ireturn, 1) := by decide +kernel
theorem dX12_entry_112 : decode cX12_entry 112 = .ok (.aload_n 0, 1) := by decide +kernel
theorem dX12_entry_113 : decode cX12_entry 113 = .ok (.getfield 62, 3) := by decide +kernel
theorem dX12_entry_116 : decode cX12_entry 116 = .ok (.iload_n 1, 1) := by decide +kernel
theorem dX12_entry_117 : decode cX12_entry 117 = .ok (.iaload, 1) := by decide +kernel
theorem dX12_entry_118 : decode cX12_entry 118 = .ok (.ireturn, 1) := by decide +kernel
theorem dX12_entry_119 : decode cX12_entry 119 = .ok (.bipush (-3), 2) := by decide +kernel
theorem dX12_entry_121 : decode cX12_entry 121 = .ok (.ireturn, 1) := by decide +kernel
theorem dX12_lineOf_0 : decode cX12_lineOf 0 = .ok (.aload_n 0, 1) := by decide +kernel
theorem dX12_lineOf_1 : decode cX12_lineOf 1 = .ok (.getfield 7, 3) := by decide +kernel
theorem dX12_lineOf_4 : decode cX12_lineOf 4 = .ok (.ifCond .eq 56, 3) := by decide +kernel
theorem dX12_lineOf_7 : decode cX12_lineOf 7 = .ok (.iload_n 1, 1) := by decide +kernel
theorem dX12_lineOf_8 : decode cX12_lineOf 8 = .ok (.i2l, 1) := by decide +kernel
theorem dX12_lineOf_9 : decode cX12_lineOf 9 = .ok (.lconst 0, 1) := by decide +kernel
theorem dX12_lineOf_10 : decode cX12_lineOf 10 = .ok (.aload_n 0, 1) := by decide +kernel
theorem dX12_lineOf_11 : decode cX12_lineOf 11 = .ok (.getfield 203, 3) := by decide +kernel
theorem dX12_lineOf_14 : decode cX12_lineOf 14 = .ok (.iconst 1, 1) := by decide +kernel
theorem dX12_lineOf_15 : decode cX12_lineOf 15 = .ok (.isub, 1) := by decide +kernel
theorem dX12_lineOf_16 : decode cX12_lineOf 16 = .ok (.i2l, 1) := by decide +kernel
theorem dX12_lineOf_17 : decode cX12_lineOf 17 = .ok (.invokestatic 116, 3) := by decide +kernel
theorem dX12_lineOf_20 : decode cX12_lineOf 20 = .ok (.ifCond .eq 40, 3) := by decide +kernel
theorem dX12_lineOf_23 : decode cX12_lineOf 23 = .ok (.iload_n 2, 1) := by decide +kernel
theorem dX12_lineOf_24 : decode cX12_lineOf 24 = .ok (.i2l, 1) := by decide +kernel
theorem dX12_lineOf_25 : decode cX12_lineOf 25 = .ok (.lconst 0, 1) := by decide +kernel
theorem dX12_lineOf_26 : decode cX12_lineOf 26 = .ok (.aload_n 0, 1) := by decide +kernel
theorem dX12_lineOf_27 : decode cX12_lineOf 27 = .ok (.getfield 56, 3) := by decide +kernel
theorem dX12_lineOf_30 : decode cX12_lineOf 30 = .ok (.iload_n 1, 1) := by decide +kernel
theorem dX12_lineOf_31 : decode cX12_lineOf 31 = .ok (.iconst 1, 1) := by decide +kernel
theorem dX12_lineOf_32 : decode cX12_lineOf 32 = .ok (.iadd, 1) := by decide +kernel
theorem dX12_lineOf_33 : decode cX12_lineOf 33 = .ok (.iaload, 1) := by decide +kernel
theorem dX12_lineOf_34 : decode cX12_lineOf 34 = .ok (.aload_n 0, 1) := by decide +kernel
theorem dX12_lineOf_35 : decode cX12_lineOf 35 = .ok (.getfield 56, 3) := by decide +kernel
theorem dX12_lineOf_38 : decode cX12_lineOf 38 = .ok (.iload_n 1, 1) := by decide +kernel
theorem dX12_lineOf_39 : decode cX12_lineOf 39 = .ok (.iaload, 1) := by decide +kernel
theorem dX12_lineOf_40 : decode cX12_lineOf 40 = .ok (.isub, 1) := by decide +kernel
theorem dX12_lineOf_41 : decode cX12_lineOf 41 = .ok (.iconst 1, 1) := by decide +kernel
theorem dX12_lineOf_42 : decode cX12_lineOf 42 = .ok (.isub, 1) := by decide +kernel
theorem dX12_lineOf_43 : decode cX12_lineOf 43 = .ok (.i2l, 1) := by decide +kernel
theorem dX12_lineOf_44 : decode cX12_lineOf 44 = .ok (.invokestatic 116, 3) := by decide +kernel
theorem dX12_lineOf_47 : decode cX12_lineOf 47 = .ok (.ifCond .eq 13, 3) := by decide +kernel
theorem dX12_lineOf_50 : decode cX12_lineOf 50 = .ok (.iload_n 3, 1) := by decide +kernel
theorem dX12_lineOf_51 : decode cX12_lineOf 51 = .ok (.i2l, 1) := by decide +kernel
theorem dX12_lineOf_52 : decode cX12_lineOf 52 = .ok (.lconst 0, 1) := by decide +kernel
theorem dX12_lineOf_53 : decode cX12_lineOf 53 = .ok (.lconst 1, 1) := by decide +kernel
theorem dX12_lineOf_54 : decode cX12_lineOf 54 = .ok (.invokestatic 116, 3) := by decide +kernel
theorem dX12_lineOf_57 : decode cX12_lineOf 57 = .ok (.ifCond .ne 7, 3) := by decide +kernel
theorem dX12_lineOf_60 : decode cX12_lineOf 60 = .ok (.ldc2_w 246, 3) := by decide +kernel
theorem dX12_lineOf_63 : decode cX12_lineOf 63 = .ok (.lreturn, 1) := by decide +kernel
theorem dX12_lineOf_64 : decode cX12_lineOf 64 = .ok (.iload_n 3, 1) := by decide +kernel
theorem dX12_lineOf_65 : decode cX12_lineOf 65 = .ok (.ifCond .ne 20, 3) := by decide +kernel
theorem dX12_lineOf_68 : decode cX12_lineOf 68 = .ok (.aload_n 0, 1) := by decide +kernel
theorem dX12_lineOf_69 : decode cX12_lineOf 69 = .ok (.getfield 65, 3) := by decide +kernel
theorem dX12_lineOf_72 : decode cX12_lineOf 72 = .ok (.aload_n 0, 1) := by decide +kernel
theorem dX12_lineOf_73 : decode cX12_lineOf 73 = .ok (.getfield 56, 3) := by decide +kernel
theorem dX12_lineOf_76 : decode cX12_lineOf 76 = .ok (.iload_n 1, 1) := by decide +kernel
theorem dX12_lineOf_77 : decode cX12_lineOf 77 = .ok (.iaload, 1) := by decide +kernel
theorem dX12_lineOf_78 : decode cX12_lineOf 78 = .ok (.iload_n 2, 1) := by decide +kernel
theorem dX12_lineOf_79 : decode cX12_lineOf 79 = .ok (.iadd, 1) := by decide +kernel
theorem dX12_lineOf_80 : decode cX12_lineOf 80 = .ok (.iaload, 1) := by decide +kernel
theorem dX12_lineOf_81 : decode cX12_lineOf 81 = .ok (.i2l, 1) := by decide +kernel
theorem dX12_lineOf_82 : decode cX12_lineOf 82 = .ok (.goto 16, 3) := by decide +kernel
theorem dX12_lineOf_85 : decode cX12_lineOf 85 = .ok (.aload_n 0, 1) := by decide +kernel
theorem dX12_lineOf_86 : decode cX12_lineOf 86 = .ok (.getfield 68, 3) := by decide +kernel
theorem dX12_lineOf_89 : decode cX12_lineOf 89 = .ok (.aload_n 0, 1) := by decide +kernel
theorem dX12_lineOf_90 : decode cX12_lineOf 90 = .ok (.getfield 56, 3) := by decide +kernel
theorem dX12_lineOf_93 : decode cX12_lineOf 93 = .ok (.iload_n 1, 1) := by decide +kernel
theorem dX12_lineOf_94 : decode cX12_lineOf 94 = .ok (.iaload, 1) := by decide +kernel
theorem dX12_lineOf_95 : decode cX12_lineOf 95 = .ok (.iload_n 2, 1) := by decide +kernel
theorem dX12_lineOf_96 : decode cX12_lineOf 96 = .ok (.iadd, 1) := by decide +kernel
theorem dX12_lineOf_97 : decode cX12_lineOf 97 = .ok (.laload, 1) := by decide +kernel
theorem dX12_lineOf_98 : decode cX12_lineOf 98 = .ok (.lreturn, 1) := by decide +kernel
theorem dX12_ledger_0 : decode cX12_ledger 0 = .ok (.aload_n 0, 1) := by decide +kernel
theorem dX12_ledger_1 : decode cX12_ledger 1 = .ok (.getfield 7, 3) := by decide +kernel
theorem dX12_ledger_4 : decode cX12_ledger 4 = .ok (.ifCond .eq 36, 3) := by decide +kernel
theorem dX12_ledger_7 : decode cX12_ledger 7 = .ok (.aload_n 0, 1) := by decide +kernel
theorem dX12_ledger_8 : decode cX12_ledger 8 = .ok (.iload_n 1, 1) := by decide +kernel
theorem dX12_ledger_9 : decode cX12_ledger 9 = .ok (.invokevirtual 148, 3) := by decide +kernel
theorem dX12_ledger_12 : decode cX12_ledger 12 = .ok (.ifCond .eq 28, 3) := by decide +kernel
theorem dX12_ledger_15 : decode cX12_ledger 15 = .ok (.aload_n 0, 1) := by decide +kernel
theorem dX12_ledger_16 : decode cX12_ledger 16 = .ok (.getfield 23, 3) := by decide +kernel
theorem dX12_ledger_19 : decode cX12_ledger 19 = .ok (.iload_n 1, 1) := by decide +kernel
theorem dX12_ledger_20 : decode cX12_ledger 20 = .ok (.baload, 1) := by decide +kernel
theorem dX12_ledger_21 : decode cX12_ledger 21 = .ok (.ifCond .ne 19, 3) := by decide +kernel
theorem dX12_ledger_24 : decode cX12_ledger 24 = .ok (.iload_n 3, 1) := by decide +kernel
theorem dX12_ledger_25 : decode cX12_ledger 25 = .ok (.i2l, 1) := by decide +kernel
theorem dX12_ledger_26 : decode cX12_ledger 26 = .ok (.lconst 0, 1) := by decide +kernel
theorem dX12_ledger_27 : decode cX12_ledger 27 = .ok (.ldc2_w 125, 3) := by decide +kernel
theorem dX12_ledger_30 : decode cX12_ledger 30 = .ok (.invokestatic 116, 3) := by decide +kernel
theorem dX12_ledger_33 : decode cX12_ledger 33 = .ok (.ifCond .eq 7, 3) := by decide +kernel
theorem dX12_ledger_36 : decode cX12_ledger 36 = .ok (.iload_n 2, 1) := by decide +kernel
theorem dX12_ledger_37 : decode cX12_ledger 37 = .ok (.ifCond .ge 7, 3) := by decide +kernel
theorem dX12_ledger_40 : decode cX12_ledger 40 = .ok (.ldc2_w 246, 3) := by decide +kernel
theorem dX12_ledger_43 : decode cX12_ledger 43 = .ok (.lreturn, 1) := by decide +kernel
theorem dX12_ledger_44 : decode cX12_ledger 44 = .ok (.iconst 0, 1) := by decide +kernel
theorem dX12_ledger_45 : decode cX12_ledger 45 = .ok (.istore 4, 2) := by decide +kernel
theorem dX12_ledger_47 : decode cX12_ledger 47 = .ok (.lconst 0, 1) := by decide +kernel
theorem dX12_ledger_48 : decode cX12_ledger 48 = .ok (.lstore 5, 2) := by decide +kernel
theorem dX12_ledger_50 : decode cX12_ledger 50 = .ok (.iconst 0, 1) := by decide +kernel
theorem dX12_ledger_51 : decode cX12_ledger 51 = .ok (.istore 7, 2) := by decide +kernel
theorem dX12_ledger_53 : decode cX12_ledger 53 = .ok (.iload 7, 2) := by decide +kernel
theorem dX12_ledger_55 : decode cX12_ledger 55 = .ok (.aload_n 0, 1) := by decide +kernel
theorem dX12_ledger_56 : decode cX12_ledger 56 = .ok (.getfield 203, 3) := by decide +kernel
theorem dX12_ledger_59 : decode cX12_ledger 59 = .ok (.if_icmp .ge 98, 3) := by decide +kernel
theorem dX12_ledger_62 : decode cX12_ledger 62 = .ok (.aload_n 0, 1) := by decide +kernel
theorem dX12_ledger_63 : decode cX12_ledger 63 = .ok (.getfield 56, 3) := by decide +kernel
theorem dX12_ledger_66 : decode cX12_ledger 66 = .ok (.iload 7, 2) := by decide +kernel
theorem dX12_ledger_68 : decode cX12_ledger 68 = .ok (.iaload, 1) := by decide +kernel
theorem dX12_ledger_69 : decode cX12_ledger 69 = .ok (.istore 8, 2) := by decide +kernel
theorem dX12_ledger_71 : decode cX12_ledger 71 = .ok (.iload 8, 2) := by decide +kernel
theorem dX12_ledger_73 : decode cX12_ledger 73 = .ok (.aload_n 0, 1) := by decide +kernel
theorem dX12_ledger_74 : decode cX12_ledger 74 = .ok (.getfield 56, 3) := by decide +kernel
theorem dX12_ledger_77 : decode cX12_ledger 77 = .ok (.iload 7, 2) := by decide +kernel
theorem dX12_ledger_79 : decode cX12_ledger 79 = .ok (.iconst 1, 1) := by decide +kernel
theorem dX12_ledger_80 : decode cX12_ledger 80 = .ok (.iadd, 1) := by decide +kernel
theorem dX12_ledger_81 : decode cX12_ledger 81 = .ok (.iaload, 1) := by decide +kernel
theorem dX12_ledger_82 : decode cX12_ledger 82 = .ok (.if_icmp .ge 69, 3) := by decide +kernel
theorem dX12_ledger_85 : decode cX12_ledger 85 = .ok (.aload_n 0, 1) := by decide +kernel
theorem dX12_ledger_86 : decode cX12_ledger 86 = .ok (.getfield 65, 3) := by decide +kernel
theorem dX12_ledger_89 : decode cX12_ledger 89 = .ok (.iload 8, 2) := by decide +kernel
theorem dX12_ledger_91 : decode cX12_ledger 91 = .ok (.iaload, 1) := by decide +kernel
theorem dX12_ledger_92 : decode cX12_ledger 92 = .ok (.iload_n 1, 1) := by decide +kernel
theorem dX12_ledger_93 : decode cX12_ledger 93 = .ok (.if_icmp .ne 52, 3) := by decide +kernel
theorem dX12_ledger_96 : decode cX12_ledger 96 = .ok (.lload 5, 2) := by decide +kernel
theorem dX12_ledger_98 : decode cX12_ledger 98 = .ok (.aload_n 0, 1) := by decide +kernel
theorem dX12_ledger_99 : decode cX12_ledger 99 = .ok (.getfield 68, 3) := by decide +kernel
theorem dX12_ledger_102 : decode cX12_ledger 102 = .ok (.iload 8, 2) := by decide +kernel
theorem dX12_ledger_104 : decode cX12_ledger 104 = .ok (.laload, 1) := by decide +kernel
theorem dX12_ledger_105 : decode cX12_ledger 105 = .ok (.ladd, 1) := by decide +kernel
theorem dX12_ledger_106 : decode cX12_ledger 106 = .ok (.lstore 5, 2) := by decide +kernel
theorem dX12_ledger_108 : decode cX12_ledger 108 = .ok (.iload 4, 2) := by decide +kernel
theorem dX12_ledger_110 : decode cX12_ledger 110 = .ok (.iload_n 2, 1) := by decide +kernel
theorem dX12_ledger_111 : decode cX12_ledger 111 = .ok (.if_icmp .ne 31, 3) := by decide +kernel
theorem dX12_ledger_114 : decode cX12_ledger 114 = .ok (.iload_n 3, 1) := by decide +kernel
theorem dX12_ledger_115 : decode cX12_ledger 115 = .ok (.ifCond .ne 9, 3) := by decide +kernel
theorem dX12_ledger_118 : decode cX12_ledger 118 = .ok (.iload 7, 2) := by decide +kernel
theorem dX12_ledger_120 : decode cX12_ledger 120 = .ok (.i2l, 1) := by decide +kernel
theorem dX12_ledger_121 : decode cX12_ledger 121 = .ok (.goto 20, 3) := by decide +kernel
theorem dX12_ledger_124 : decode cX12_ledger 124 = .ok (.iload_n 3, 1) := by decide +kernel
theorem dX12_ledger_125 : decode cX12_ledger 125 = .ok (.iconst 1, 1) := by decide +kernel
theorem dX12_ledger_126 : decode cX12_ledger 126 = .ok (.if_icmp .ne 13, 3) := by decide +kernel
theorem dX12_ledger_129 : decode cX12_ledger 129 = .ok (.aload_n 0, 1) := by decide +kernel
theorem dX12_ledger_130 : decode cX12_ledger 130 = .ok (.getfield 68, 3) := by decide +kernel
theorem dX12_ledger_133 : decode cX12_ledger 133 = .ok (.iload 8, 2) := by decide +kernel
theorem dX12_ledger_135 : decode cX12_ledger 135 = .ok (.laload, 1) := by decide +kernel
theorem dX12_ledger_136 : decode cX12_ledger 136 = .ok (.goto 5, 3) := by decide +kernel
theorem dX12_ledger_139 : decode cX12_ledger 139 = .ok (.lload 5, 2) := by decide +kernel
theorem dX12_ledger_141 : decode cX12_ledger 141 = .ok (.lreturn, 1) := by decide +kernel
theorem dX12_ledger_142 : decode cX12_ledger 142 = .ok (.iinc 4 1, 3) := by decide +kernel
theorem dX12_ledger_145 : decode cX12_ledger 145 = .ok (.iinc 8 1, 3) := by decide +kernel
theorem dX12_ledger_148 : decode cX12_ledger 148 = .ok (.goto (-77), 3) := by decide +kernel
theorem dX12_ledger_151 : decode cX12_ledger 151 = .ok (.iinc 7 1, 3) := by decide +kernel
theorem dX12_ledger_154 : decode cX12_ledger 154 = .ok (.goto (-101), 3) := by decide +kernel
theorem dX12_ledger_157 : decode cX12_ledger 157 = .ok (.ldc2_w 246, 3) := by decide +kernel
theorem dX12_ledger_160 : decode cX12_ledger 160 = .ok (.lreturn, 1) := by decide +kernel
theorem dX12_periodOf_0 : decode cX12_periodOf 0 = .ok (.aload_n 0, 1) := by decide +kernel
theorem dX12_periodOf_1 : decode cX12_periodOf 1 = .ok (.getfield 7, 3) := by decide +kernel
theorem dX12_periodOf_4 : decode cX12_periodOf 4 = .ok (.ifCond .ne 6, 3) := by decide +kernel
theorem dX12_periodOf_7 : decode cX12_periodOf 7 = .ok (.bipush (-6), 2) := by decide +kernel
theorem dX12_periodOf_9 : decode cX12_periodOf 9 = .ok (.ireturn, 1) := by decide +kernel
theorem dX12_periodOf_10 : decode cX12_periodOf 10 = .ok (.iload_n 1, 1) := by decide +kernel
theorem dX12_periodOf_11 : decode cX12_periodOf 11 = .ok (.i2l, 1) := by decide +kernel
theorem dX12_periodOf_12 : decode cX12_periodOf 12 = .ok (.lconst 0, 1) := by decide +kernel
theorem dX12_periodOf_13 : decode cX12_periodOf 13 = .ok (.aload_n 0, 1) := by decide +kernel
theorem dX12_periodOf_14 : decode cX12_periodOf 14 = .ok (.getfield 173, 3) := by decide +kernel
theorem dX12_periodOf_17 : decode cX12_periodOf 17 = .ok (.iconst 1, 1) := by decide +kernel
theorem dX12_periodOf_18 : decode cX12_periodOf 18 = .ok (.isub, 1) := by decide +kernel
theorem dX12_periodOf_19 : decode cX12_periodOf 19 = .ok (.i2l, 1) := by decide +kernel
theorem dX12_periodOf_20 : decode cX12_periodOf 20 = .ok (.invokestatic 116, 3) := by decide +kernel
theorem dX12_periodOf_23 : decode cX12_periodOf 23 = .ok (.ifCond .ne 6, 3) := by decide +kernel
theorem dX12_periodOf_26 : decode cX12_periodOf 26 = .ok (.bipush (-2), 2) := by decide +kernel
theorem dX12_periodOf_28 : decode cX12_periodOf 28 = .ok (.ireturn, 1) := by decide +kernel
theorem dX12_periodOf_29 : decode cX12_periodOf 29 = .ok (.iload_n 2, 1) := by decide +kernel
theorem dX12_periodOf_30 : decode cX12_periodOf 30 = .ok (.tableswitch 64 0 3 #[30, 36, 43, 57], 30) := by decide +kernel
theorem dX12_periodOf_60 : decode cX12_periodOf 60 = .ok (.aload_n 0, 1) := by decide +kernel
theorem dX12_periodOf_61 : decode cX12_periodOf 61 = .ok (.iload_n 1, 1) := by decide +kernel
theorem dX12_periodOf_62 : decode cX12_periodOf 62 = .ok (.invokevirtual 176, 3) := by decide +kernel
theorem dX12_periodOf_65 : decode cX12_periodOf 65 = .ok (.ireturn, 1) := by decide +kernel
theorem dX12_periodOf_66 : decode cX12_periodOf 66 = .ok (.aload_n 0, 1) := by decide +kernel
theorem dX12_periodOf_67 : decode cX12_periodOf 67 = .ok (.getfield 41, 3) := by decide +kernel
theorem dX12_periodOf_70 : decode cX12_periodOf 70 = .ok (.iload_n 1, 1) := by decide +kernel
theorem dX12_periodOf_71 : decode cX12_periodOf 71 = .ok (.iaload, 1) := by decide +kernel
theorem dX12_periodOf_72 : decode cX12_periodOf 72 = .ok (.ireturn, 1) := by decide +kernel
theorem dX12_periodOf_73 : decode cX12_periodOf 73 = .ok (.iload_n 1, 1) := by decide +kernel
theorem dX12_periodOf_74 : decode cX12_periodOf 74 = .ok (.aload_n 0, 1) := by decide +kernel
theorem dX12_periodOf_75 : decode cX12_periodOf 75 = .ok (.getfield 197, 3) := by decide +kernel
theorem dX12_periodOf_78 : decode cX12_periodOf 78 = .ok (.if_icmp .ge 7, 3) := by decide +kernel
theorem dX12_periodOf_81 : decode cX12_periodOf 81 = .ok (.iconst 1, 1) := by decide +kernel
theorem dX12_periodOf_82 : decode cX12_periodOf 82 = .ok (.goto 4, 3) := by decide +kernel
theorem dX12_periodOf_85 : decode cX12_periodOf 85 = .ok (.iconst 0, 1) := by decide +kernel
theorem dX12_periodOf_86 : decode cX12_periodOf 86 = .ok (.ireturn, 1) := by decide +kernel
theorem dX12_periodOf_87 : decode cX12_periodOf 87 = .ok (.aload_n 0, 1) := by decide +kernel
theorem dX12_periodOf_88 : decode cX12_periodOf 88 = .ok (.getfield 44, 3) := by decide +kernel
theorem dX12_periodOf_91 : decode cX12_periodOf 91 = .ok (.iload_n 1, 1) := by decide +kernel
theorem dX12_periodOf_92 : decode cX12_periodOf 92 = .ok (.iaload, 1) := by decide +kernel
theorem dX12_periodOf_93 : decode cX12_periodOf 93 = .ok (.ireturn, 1) := by decide +kernel
theorem dX12_periodOf_94 : decode cX12_periodOf 94 = .ok (.bipush (-3), 2) := by decide +kernel
theorem dX12_periodOf_96 : decode cX12_periodOf 96 = .ok (.ireturn, 1) := by decide +kernel
theorem dX12_put_0 : decode cX12_put 0 = .ok (.aload_n 0, 1) := by decide +kernel
theorem dX12_put_1 : decode cX12_put 1 = .ok (.getfield 253, 3) := by decide +kernel
theorem dX12_put_4 : decode cX12_put 4 = .ok (.sipush 4000, 3) := by decide +kernel
theorem dX12_put_7 : decode cX12_put 7 = .ok (.if_icmp .ge 13, 3) := by decide +kernel
theorem dX12_put_10 : decode cX12_put 10 = .ok (.aload_n 0, 1) := by decide +kernel
theorem dX12_put_11 : decode cX12_put 11 = .ok (.getfield 89, 3) := by decide +kernel
theorem dX12_put_14 : decode cX12_put 14 = .ok (.aload_n 0, 1) := by decide +kernel
theorem dX12_put_15 : decode cX12_put 15 = .ok (.getfield 253, 3) := by decide +kernel
theorem dX12_put_18 : decode cX12_put 18 = .ok (.iload_n 1, 1) := by decide +kernel
theorem dX12_put_19 : decode cX12_put 19 = .ok (.iastore, 1) := by decide +kernel
theorem dX12_put_20 : decode cX12_put 20 = .ok (.aload_n 0, 1) := by decide +kernel
theorem dX12_put_21 : decode cX12_put 21 = .ok (.dup, 1) := by decide +kernel
theorem dX12_put_22 : decode cX12_put 22 = .ok (.getfield 253, 3) := by decide +kernel
theorem dX12_put_25 : decode cX12_put 25 = .ok (.iconst 1, 1) := by decide +kernel
theorem dX12_put_26 : decode cX12_put 26 = .ok (.iadd, 1) := by decide +kernel
theorem dX12_put_27 : decode cX12_put 27 = .ok (.putfield 253, 3) := by decide +kernel
theorem dX12_put_30 : decode cX12_put 30 = .ok (.return_, 1) := by decide +kernel
theorem dX12_money_0 : decode cX12_money 0 = .ok (.lload_n 1, 1) := by decide +kernel
theorem dX12_money_1 : decode cX12_money 1 = .ok (.lconst 0, 1) := by decide +kernel
theorem dX12_money_2 : decode cX12_money 2 = .ok (.lcmp, 1) := by decide +kernel
theorem dX12_money_3 : decode cX12_money 3 = .ok (.ifCond .ge 9, 3) := by decide +kernel
theorem dX12_money_6 : decode cX12_money 6 = .ok (.aload_n 0, 1) := by decide +kernel
theorem dX12_money_7 : decode cX12_money 7 = .ok (.bipush 45, 2) := by decide +kernel
theorem dX12_money_9 : decode cX12_money 9 = .ok (.invokevirtual 324, 3) := by decide +kernel
theorem dX12_money_12 : decode cX12_money 12 = .ok (.lload_n 1, 1) := by decide +kernel
theorem dX12_money_13 : decode cX12_money 13 = .ok (.lconst 0, 1) := by decide +kernel
theorem dX12_money_14 : decode cX12_money 14 = .ok (.lcmp, 1) := by decide +kernel
theorem dX12_money_15 : decode cX12_money 15 = .ok (.ifCond .ge 8, 3) := by decide +kernel
theorem dX12_money_18 : decode cX12_money 18 = .ok (.lload_n 1, 1) := by decide +kernel
theorem dX12_money_19 : decode cX12_money 19 = .ok (.lneg, 1) := by decide +kernel
theorem dX12_money_20 : decode cX12_money 20 = .ok (.goto 4, 3) := by decide +kernel
theorem dX12_money_23 : decode cX12_money 23 = .ok (.lload_n 1, 1) := by decide +kernel
theorem dX12_money_24 : decode cX12_money 24 = .ok (.lstore_n 3, 1) := by decide +kernel
theorem dX12_money_25 : decode cX12_money 25 = .ok (.iconst 0, 1) := by decide +kernel
theorem dX12_money_26 : decode cX12_money 26 = .ok (.istore 5, 2) := by decide +kernel
theorem dX12_money_28 : decode cX12_money 28 = .ok (.lload_n 3, 1) := by decide +kernel
theorem dX12_money_29 : decode cX12_money 29 = .ok (.lconst 0, 1) := by decide +kernel
theorem dX12_money_30 : decode cX12_money 30 = .ok (.lcmp, 1) := by decide +kernel
theorem dX12_money_31 : decode cX12_money 31 = .ok (.ifCond .gt 9, 3) := by decide +kernel
theorem dX12_money_34 : decode cX12_money 34 = .ok (.iload 5, 2) := by decide +kernel
theorem dX12_money_36 : decode cX12_money 36 = .ok (.iconst 3, 1) := by decide +kernel
theorem dX12_money_37 : decode cX12_money 37 = .ok (.if_icmp .ge 28, 3) := by decide +kernel
theorem dX12_money_40 : decode cX12_money 40 = .ok (.aload_n 0, 1) := by decide +kernel
theorem dX12_money_41 : decode cX12_money 41 = .ok (.getfield 92, 3) := by decide +kernel
theorem dX12_money_44 : decode cX12_money 44 = .ok (.iload 5, 2) := by decide +kernel
theorem dX12_money_46 : decode cX12_money 46 = .ok (.lload_n 3, 1) := by decide +kernel
theorem dX12_money_47 : decode cX12_money 47 = .ok (.ldc2_w 327, 3) := by decide +kernel
theorem dX12_money_50 : decode cX12_money 50 = .ok (.lrem, 1) := by decide +kernel
theorem dX12_money_51 : decode cX12_money 51 = .ok (.l2i, 1) := by decide +kernel
theorem dX12_money_52 : decode cX12_money 52 = .ok (.iastore, 1) := by decide +kernel
theorem dX12_money_53 : decode cX12_money 53 = .ok (.lload_n 3, 1) := by decide +kernel
theorem dX12_money_54 : decode cX12_money 54 = .ok (.ldc2_w 327, 3) := by decide +kernel
theorem dX12_money_57 : decode cX12_money 57 = .ok (.ldiv, 1) := by decide +kernel
theorem dX12_money_58 : decode cX12_money 58 = .ok (.lstore_n 3, 1) := by decide +kernel
theorem dX12_money_59 : decode cX12_money 59 = .ok (.iinc 5 1, 3) := by decide +kernel
theorem dX12_money_62 : decode cX12_money 62 = .ok (.goto (-34), 3) := by decide +kernel
theorem dX12_money_65 : decode cX12_money 65 = .ok (.iload 5, 2) := by decide +kernel
theorem dX12_money_67 : decode cX12_money 67 = .ok (.iconst 1, 1) := by decide +kernel
theorem dX12_money_68 : decode cX12_money 68 = .ok (.isub, 1) := by decide +kernel
theorem dX12_money_69 : decode cX12_money 69 = .ok (.istore 6, 2) := by decide +kernel
theorem dX12_money_71 : decode cX12_money 71 = .ok (.iload 6, 2) := by decide +kernel
theorem dX12_money_73 : decode cX12_money 73 = .ok (.ifCond .lt 56, 3) := by decide +kernel
theorem dX12_money_76 : decode cX12_money 76 = .ok (.iload 6, 2) := by decide +kernel
theorem dX12_money_78 : decode cX12_money 78 = .ok (.iconst 1, 1) := by decide +kernel
theorem dX12_money_79 : decode cX12_money 79 = .ok (.if_icmp .ne 9, 3) := by decide +kernel
theorem dX12_money_82 : decode cX12_money 82 = .ok (.aload_n 0, 1) := by decide +kernel
theorem dX12_money_83 : decode cX12_money 83 = .ok (.bipush 46, 2) := by decide +kernel
theorem dX12_money_85 : decode cX12_money 85 = .ok (.invokevirtual 324, 3) := by decide +kernel
theorem dX12_money_88 : decode cX12_money 88 = .ok (.aload_n 0, 1) := by decide +kernel
theorem dX12_money_89 : decode cX12_money 89 = .ok (.bipush 48, 2) := by decide +kernel
theorem dX12_money_91 : decode cX12_money 91 = .ok (.aload_n 0, 1) := by decide +kernel
theorem dX12_money_92 : decode cX12_money 92 = .ok (.getfield 92, 3) := by decide +kernel
theorem dX12_money_95 : decode cX12_money 95 = .ok (.iload 6, 2) := by decide +kernel
theorem dX12_money_97 : decode cX12_money 97 = .ok (.iaload, 1) := by decide +kernel
theorem dX12_money_98 : decode cX12_money 98 = .ok (.iadd, 1) := by decide +kernel
theorem dX12_money_99 : decode cX12_money 99 = .ok (.invokevirtual 324, 3) := by decide +kernel
theorem dX12_money_102 : decode cX12_money 102 = .ok (.iload 6, 2) := by decide +kernel
theorem dX12_money_104 : decode cX12_money 104 = .ok (.iconst 2, 1) := by decide +kernel
theorem dX12_money_105 : decode cX12_money 105 = .ok (.if_icmp .le 18, 3) := by decide +kernel
theorem dX12_money_108 : decode cX12_money 108 = .ok (.iload 6, 2) := by decide +kernel
theorem dX12_money_110 : decode cX12_money 110 = .ok (.iconst 2, 1) := by decide +kernel
theorem dX12_money_111 : decode cX12_money 111 = .ok (.isub, 1) := by decide +kernel
theorem dX12_money_112 : decode cX12_money 112 = .ok (.iconst 3, 1) := by decide +kernel
theorem dX12_money_113 : decode cX12_money 113 = .ok (.irem, 1) := by decide +kernel
theorem dX12_money_114 : decode cX12_money 114 = .ok (.ifCond .ne 9, 3) := by decide +kernel
theorem dX12_money_117 : decode cX12_money 117 = .ok (.aload_n 0, 1) := by decide +kernel
theorem dX12_money_118 : decode cX12_money 118 = .ok (.bipush 44, 2) := by decide +kernel
theorem dX12_money_120 : decode cX12_money 120 = .ok (.invokevirtual 324, 3) := by decide +kernel
theorem dX12_money_123 : decode cX12_money 123 = .ok (.iinc 6 (-1), 3) := by decide +kernel
theorem dX12_money_126 : decode cX12_money 126 = .ok (.goto (-55), 3) := by decide +kernel
theorem dX12_money_129 : decode cX12_money 129 = .ok (.return_, 1) := by decide +kernel
theorem dX12_row_0 : decode cX12_row 0 = .ok (.iconst 0, 1) := by decide +kernel
theorem dX12_row_1 : decode cX12_row 1 = .ok (.istore_n 2, 1) := by decide +kernel
theorem dX12_row_2 : decode cX12_row 2 = .ok (.iload_n 2, 1) := by decide +kernel
theorem dX12_row_3 : decode cX12_row 3 = .ok (.iconst 2, 1) := by decide +kernel
theorem dX12_row_4 : decode cX12_row 4 = .ok (.aload_n 0, 1) := by decide +kernel
theorem dX12_row_5 : decode cX12_row 5 = .ok (.getfield 27, 3) := by decide +kernel
theorem dX12_row_8 : decode cX12_row 8 = .ok (.iload_n 1, 1) := by decide +kernel
theorem dX12_row_9 : decode cX12_row 9 = .ok (.iaload, 1) := by decide +kernel
theorem dX12_row_10 : decode cX12_row 10 = .ok (.imul, 1) := by decide +kernel
theorem dX12_row_11 : decode cX12_row 11 = .ok (.if_icmp .ge 15, 3) := by decide +kernel
theorem dX12_row_14 : decode cX12_row 14 = .ok (.aload_n 0, 1) := by decide +kernel
theorem dX12_row_15 : decode cX12_row 15 = .ok (.bipush 32, 2) := by decide +kernel
theorem dX12_row_17 : decode cX12_row 17 = .ok (.invokevirtual 324, 3) := by decide +kernel
theorem dX12_row_20 : decode cX12_row 20 = .ok (.iinc 2 1, 3) := by decide +kernel
theorem dX12_row_23 : decode cX12_row 23 = .ok (.goto (-21), 3) := by decide +kernel
theorem dX12_row_26 : decode cX12_row 26 = .ok (.aload_n 0, 1) := by decide +kernel
theorem dX12_row_27 : decode cX12_row 27 = .ok (.bipush 48, 2) := by decide +kernel
theorem dX12_row_29 : decode cX12_row 29 = .ok (.aload_n 0, 1) := by decide +kernel
theorem dX12_row_30 : decode cX12_row 30 = .ok (.getfield 13, 3) := by decide +kernel
theorem dX12_row_33 : decode cX12_row 33 = .ok (.iload_n 1, 1) := by decide +kernel
theorem dX12_row_34 : decode cX12_row 34 = .ok (.iaload, 1) := by decide +kernel
theorem dX12_row_35 : decode cX12_row 35 = .ok (.sipush 1000, 3) := by decide +kernel
theorem dX12_row_38 : decode cX12_row 38 = .ok (.idiv, 1) := by decide +kernel
theorem dX12_row_39 : decode cX12_row 39 = .ok (.iadd, 1) := by decide +kernel
theorem dX12_row_40 : decode cX12_row 40 = .ok (.invokevirtual 324, 3) := by decide +kernel
theorem dX12_row_43 : decode cX12_row 43 = .ok (.aload_n 0, 1) := by decide +kernel
theorem dX12_row_44 : decode cX12_row 44 = .ok (.bipush 48, 2) := by decide +kernel
theorem dX12_row_46 : decode cX12_row 46 = .ok (.aload_n 0, 1) := by decide +kernel
theorem dX12_row_47 : decode cX12_row 47 = .ok (.getfield 13, 3) := by decide +kernel
theorem dX12_row_50 : decode cX12_row 50 = .ok (.iload_n 1, 1) := by decide +kernel
theorem dX12_row_51 : decode cX12_row 51 = .ok (.iaload, 1) := by decide +kernel
theorem dX12_row_52 : decode cX12_row 52 = .ok (.bipush 100, 2) := by decide +kernel
theorem dX12_row_54 : decode cX12_row 54 = .ok (.idiv, 1) := by decide +kernel
theorem dX12_row_55 : decode cX12_row 55 = .ok (.bipush 10, 2) := by decide +kernel
theorem dX12_row_57 : decode cX12_row 57 = .ok (.irem, 1) := by decide +kernel
theorem dX12_row_58 : decode cX12_row 58 = .ok (.iadd, 1) := by decide +kernel
theorem dX12_row_59 : decode cX12_row 59 = .ok (.invokevirtual 324, 3) := by decide +kernel
theorem dX12_row_62 : decode cX12_row 62 = .ok (.aload_n 0, 1) := by decide +kernel
theorem dX12_row_63 : decode cX12_row 63 = .ok (.bipush 48, 2) := by decide +kernel
theorem dX12_row_65 : decode cX12_row 65 = .ok (.aload_n 0, 1) := by decide +kernel
theorem dX12_row_66 : decode cX12_row 66 = .ok (.getfield 13, 3) := by decide +kernel
theorem dX12_row_69 : decode cX12_row 69 = .ok (.iload_n 1, 1) := by decide +kernel
theorem dX12_row_70 : decode cX12_row 70 = .ok (.iaload, 1) := by decide +kernel
theorem dX12_row_71 : decode cX12_row 71 = .ok (.bipush 10, 2) := by decide +kernel
theorem dX12_row_73 : decode cX12_row 73 = .ok (.idiv, 1) := by decide +kernel
theorem dX12_row_74 : decode cX12_row 74 = .ok (.bipush 10, 2) := by decide +kernel
theorem dX12_row_76 : decode cX12_row 76 = .ok (.irem, 1) := by decide +kernel
theorem dX12_row_77 : decode cX12_row 77 = .ok (.iadd, 1) := by decide +kernel
theorem dX12_row_78 : decode cX12_row 78 = .ok (.invokevirtual 324, 3) := by decide +kernel
theorem dX12_row_81 : decode cX12_row 81 = .ok (.aload_n 0, 1) := by decide +kernel
theorem dX12_row_82 : decode cX12_row 82 = .ok (.bipush 48, 2) := by decide +kernel
theorem dX12_row_84 : decode cX12_row 84 = .ok (.aload_n 0, 1) := by decide +kernel
theorem dX12_row_85 : decode cX12_row 85 = .ok (.getfield 13, 3) := by decide +kernel
theorem dX12_row_88 : decode cX12_row 88 = .ok (.iload_n 1, 1) := by decide +kernel
theorem dX12_row_89 : decode cX12_row 89 = .ok (.iaload, 1) := by decide +kernel
theorem dX12_row_90 : decode cX12_row 90 = .ok (.bipush 10, 2) := by decide +kernel
theorem dX12_row_92 : decode cX12_row 92 = .ok (.irem, 1) := by decide +kernel
theorem dX12_row_93 : decode cX12_row 93 = .ok (.iadd, 1) := by decide +kernel
theorem dX12_row_94 : decode cX12_row 94 = .ok (.invokevirtual 324, 3) := by decide +kernel
theorem dX12_row_97 : decode cX12_row 97 = .ok (.aload_n 0, 1) := by decide +kernel
theorem dX12_row_98 : decode cX12_row 98 = .ok (.bipush 32, 2) := by decide +kernel
theorem dX12_row_100 : decode cX12_row 100 = .ok (.invokevirtual 324, 3) := by decide +kernel
theorem dX12_row_103 : decode cX12_row 103 = .ok (.aload_n 0, 1) := by decide +kernel
theorem dX12_row_104 : decode cX12_row 104 = .ok (.aload_n 0, 1) := by decide +kernel
theorem dX12_row_105 : decode cX12_row 105 = .ok (.iload_n 1, 1) := by decide +kernel
theorem dX12_row_106 : decode cX12_row 106 = .ok (.invokevirtual 320, 3) := by decide +kernel
theorem dX12_row_109 : decode cX12_row 109 = .ok (.invokevirtual 329, 3) := by decide +kernel
theorem dX12_row_112 : decode cX12_row 112 = .ok (.aload_n 0, 1) := by decide +kernel
theorem dX12_row_113 : decode cX12_row 113 = .ok (.bipush 10, 2) := by decide +kernel
theorem dX12_row_115 : decode cX12_row 115 = .ok (.invokevirtual 324, 3) := by decide +kernel
theorem dX12_row_118 : decode cX12_row 118 = .ok (.return_, 1) := by decide +kernel
theorem dX12_tree_0 : decode cX12_tree 0 = .ok (.iconst 0, 1) := by decide +kernel
theorem dX12_tree_1 : decode cX12_tree 1 = .ok (.istore_n 1, 1) := by decide +kernel
theorem dX12_tree_2 : decode cX12_tree 2 = .ok (.aload_n 0, 1) := by decide +kernel
theorem dX12_tree_3 : decode cX12_tree 3 = .ok (.getfield 95, 3) := by decide +kernel
theorem dX12_tree_6 : decode cX12_tree 6 = .ok (.iconst 0, 1) := by decide +kernel
theorem dX12_tree_7 : decode cX12_tree 7 = .ok (.iconst (-1), 1) := by decide +kernel
theorem dX12_tree_8 : decode cX12_tree 8 = .ok (.iastore, 1) := by decide +kernel
theorem dX12_tree_9 : decode cX12_tree 9 = .ok (.aload_n 0, 1) := by decide +kernel
theorem dX12_tree_10 : decode cX12_tree 10 = .ok (.getfield 98, 3) := by decide +kernel
theorem dX12_tree_13 : decode cX12_tree 13 = .ok (.iconst 0, 1) := by decide +kernel
theorem dX12_tree_14 : decode cX12_tree 14 = .ok (.iconst (-1), 1) := by decide +kernel
theorem dX12_tree_15 : decode cX12_tree 15 = .ok (.iastore, 1) := by decide +kernel
theorem dX12_tree_16 : decode cX12_tree 16 = .ok (.iload_n 1, 1) := by decide +kernel
theorem dX12_tree_17 : decode cX12_tree 17 = .ok (.ifCond .lt 152, 3) := by decide +kernel
theorem dX12_tree_20 : decode cX12_tree 20 = .ok (.iconst (-1), 1) := by decide +kernel
theorem dX12_tree_21 : decode cX12_tree 21 = .ok (.istore_n 2, 1) := by decide +kernel
theorem dX12_tree_22 : decode cX12_tree 22 = .ok (.iconst 0, 1) := by decide +kernel
theorem dX12_tree_23 : decode cX12_tree 23 = .ok (.istore_n 3, 1) := by decide +kernel
theorem dX12_tree_24 : decode cX12_tree 24 = .ok (.iload_n 3, 1) := by decide +kernel
theorem dX12_tree_25 : decode cX12_tree 25 = .ok (.aload_n 0, 1) := by decide +kernel
theorem dX12_tree_26 : decode cX12_tree 26 = .ok (.getfield 113, 3) := by decide +kernel
theorem dX12_tree_29 : decode cX12_tree 29 = .ok (.if_icmp .ge 82, 3) := by decide +kernel
theorem dX12_tree_32 : decode cX12_tree 32 = .ok (.sipush 10000, 3) := by decide +kernel
theorem dX12_tree_35 : decode cX12_tree 35 = .ok (.aload_n 0, 1) := by decide +kernel
theorem dX12_tree_36 : decode cX12_tree 36 = .ok (.getfield 17, 3) := by decide +kernel
theorem dX12_tree_39 : decode cX12_tree 39 = .ok (.iload_n 3, 1) := by decide +kernel
theorem dX12_tree_40 : decode cX12_tree 40 = .ok (.iaload, 1) := by decide +kernel
theorem dX12_tree_41 : decode cX12_tree 41 = .ok (.imul, 1) := by decide +kernel
theorem dX12_tree_42 : decode cX12_tree 42 = .ok (.aload_n 0, 1) := by decide +kernel
theorem dX12_tree_43 : decode cX12_tree 43 = .ok (.getfield 13, 3) := by decide +kernel
theorem dX12_tree_46 : decode cX12_tree 46 = .ok (.iload_n 3, 1) := by decide +kernel
theorem dX12_tree_47 : decode cX12_tree 47 = .ok (.iaload, 1) := by decide +kernel
theorem dX12_tree_48 : decode cX12_tree 48 = .ok (.iadd, 1) := by decide +kernel
theorem dX12_tree_49 : decode cX12_tree 49 = .ok (.istore 4, 2) := by decide +kernel
theorem dX12_tree_51 : decode cX12_tree 51 = .ok (.aload_n 0, 1) := by decide +kernel
theorem dX12_tree_52 : decode cX12_tree 52 = .ok (.getfield 20, 3) := by decide +kernel
theorem dX12_tree_55 : decode cX12_tree 55 = .ok (.iload_n 3, 1) := by decide +kernel
theorem dX12_tree_56 : decode cX12_tree 56 = .ok (.iaload, 1) := by decide +kernel
theorem dX12_tree_57 : decode cX12_tree 57 = .ok (.aload_n 0, 1) := by decide +kernel
theorem dX12_tree_58 : decode cX12_tree 58 = .ok (.getfield 95, 3) := by decide +kernel
theorem dX12_tree_61 : decode cX12_tree 61 = .ok (.iload_n 1, 1) := by decide +kernel
theorem dX12_tree_62 : decode cX12_tree 62 = .ok (.iaload, 1) := by decide +kernel
theorem dX12_tree_63 : decode cX12_tree 63 = .ok (.if_icmp .ne 42, 3) := by decide +kernel
theorem dX12_tree_66 : decode cX12_tree 66 = .ok (.iload 4, 2) := by decide +kernel
theorem dX12_tree_68 : decode cX12_tree 68 = .ok (.aload_n 0, 1) := by decide +kernel
theorem dX12_tree_69 : decode cX12_tree 69 = .ok (.getfield 98, 3) := by decide +kernel
theorem dX12_tree_72 : decode cX12_tree 72 = .ok (.iload_n 1, 1) := by decide +kernel
theorem dX12_tree_73 : decode cX12_tree 73 = .ok (.iaload, 1) := by decide +kernel
theorem dX12_tree_74 : decode cX12_tree 74 = .ok (.if_icmp .le 31, 3) := by decide +kernel
theorem dX12_tree_77 : decode cX12_tree 77 = .ok (.iload_n 2, 1) := by decide +kernel
theorem dX12_tree_78 : decode cX12_tree 78 = .ok (.ifCond .lt 25, 3) := by decide +kernel
theorem dX12_tree_81 : decode cX12_tree 81 = .ok (.iload 4, 2) := by decide +kernel
theorem dX12_tree_83 : decode cX12_tree 83 = .ok (.sipush 10000, 3) := by decide +kernel
theorem dX12_tree_86 : decode cX12_tree 86 = .ok (.aload_n 0, 1) := by decide +kernel
theorem dX12_tree_87 : decode cX12_tree 87 = .ok (.getfield 17, 3) := by decide +kernel
theorem dX12_tree_90 : decode cX12_tree 90 = .ok (.iload_n 2, 1) := by decide +kernel
theorem dX12_tree_91 : decode cX12_tree 91 = .ok (.iaload, 1) := by decide +kernel
theorem dX12_tree_92 : decode cX12_tree 92 = .ok (.imul, 1) := by decide +kernel
theorem dX12_tree_93 : decode cX12_tree 93 = .ok (.aload_n 0, 1) := by decide +kernel
theorem dX12_tree_94 : decode cX12_tree 94 = .ok (.getfield 13, 3) := by decide +kernel
theorem dX12_tree_97 : decode cX12_tree 97 = .ok (.iload_n 2, 1) := by decide +kernel
theorem dX12_tree_98 : decode cX12_tree 98 = .ok (.iaload, 1) := by decide +kernel
theorem dX12_tree_99 : decode cX12_tree 99 = .ok (.iadd, 1) := by decide +kernel
theorem dX12_tree_100 : decode cX12_tree 100 = .ok (.if_icmp .ge 5, 3) := by decide +kernel
theorem dX12_tree_103 : decode cX12_tree 103 = .ok (.iload_n 3, 1) := by decide +kernel
theorem dX12_tree_104 : decode cX12_tree 104 = .ok (.istore_n 2, 1) := by decide +kernel
theorem dX12_tree_105 : decode cX12_tree 105 = .ok (.iinc 3 1, 3) := by decide +kernel
theorem dX12_tree_108 : decode cX12_tree 108 = .ok (.goto (-84), 3) := by decide +kernel
theorem dX12_tree_111 : decode cX12_tree 111 = .ok (.iload_n 2, 1) := by decide +kernel
theorem dX12_tree_112 : decode cX12_tree 112 = .ok (.ifCond .ge 9, 3) := by decide +kernel
theorem dX12_tree_115 : decode cX12_tree 115 = .ok (.iinc 1 (-1), 3) := by decide +kernel
theorem dX12_tree_118 : decode cX12_tree 118 = .ok (.goto 48, 3) := by decide +kernel
theorem dX12_tree_121 : decode cX12_tree 121 = .ok (.aload_n 0, 1) := by decide +kernel
theorem dX12_tree_122 : decode cX12_tree 122 = .ok (.iload_n 2, 1) := by decide +kernel
theorem dX12_tree_123 : decode cX12_tree 123 = .ok (.invokevirtual 332, 3) := by decide +kernel
theorem dX12_tree_126 : decode cX12_tree 126 = .ok (.aload_n 0, 1) := by decide +kernel
theorem dX12_tree_127 : decode cX12_tree 127 = .ok (.getfield 98, 3) := by decide +kernel
theorem dX12_tree_130 : decode cX12_tree 130 = .ok (.iload_n 1, 1) := by decide +kernel
theorem dX12_tree_131 : decode cX12_tree 131 = .ok (.sipush 10000, 3) := by decide +kernel
theorem dX12_tree_134 : decode cX12_tree 134 = .ok (.aload_n 0, 1) := by decide +kernel
theorem dX12_tree_135 : decode cX12_tree 135 = .ok (.getfield 17, 3) := by decide +kernel
theorem dX12_tree_138 : decode cX12_tree 138 = .ok (.iload_n 2, 1) := by decide +kernel
theorem dX12_tree_139 : decode cX12_tree 139 = .ok (.iaload, 1) := by decide +kernel
theorem dX12_tree_140 : decode cX12_tree 140 = .ok (.imul, 1) := by decide +kernel
theorem dX12_tree_141 : decode cX12_tree 141 = .ok (.aload_n 0, 1) := by decide +kernel
theorem dX12_tree_142 : decode cX12_tree 142 = .ok (.getfield 13, 3) := by decide +kernel
theorem dX12_tree_145 : decode cX12_tree 145 = .ok (.iload_n 2, 1) := by decide +kernel
theorem dX12_tree_146 : decode cX12_tree 146 = .ok (.iaload, 1) := by decide +kernel
theorem dX12_tree_147 : decode cX12_tree 147 = .ok (.iadd, 1) := by decide +kernel
theorem dX12_tree_148 : decode cX12_tree 148 = .ok (.iastore, 1) := by decide +kernel
theorem dX12_tree_149 : decode cX12_tree 149 = .ok (.iinc 1 1, 3) := by decide +kernel
theorem dX12_tree_152 : decode cX12_tree 152 = .ok (.aload_n 0, 1) := by decide +kernel
theorem dX12_tree_153 : decode cX12_tree 153 = .ok (.getfield 95, 3) := by decide +kernel
theorem dX12_tree_156 : decode cX12_tree 156 = .ok (.iload_n 1, 1) := by decide +kernel
theorem dX12_tree_157 : decode cX12_tree 157 = .ok (.iload_n 2, 1) := by decide +kernel
theorem dX12_tree_158 : decode cX12_tree 158 = .ok (.iastore, 1) := by decide +kernel
theorem dX12_tree_159 : decode cX12_tree 159 = .ok (.aload_n 0, 1) := by decide +kernel
theorem dX12_tree_160 : decode cX12_tree 160 = .ok (.getfield 98, 3) := by decide +kernel
theorem dX12_tree_163 : decode cX12_tree 163 = .ok (.iload_n 1, 1) := by decide +kernel
theorem dX12_tree_164 : decode cX12_tree 164 = .ok (.iconst (-1), 1) := by decide +kernel
theorem dX12_tree_165 : decode cX12_tree 165 = .ok (.iastore, 1) := by decide +kernel
theorem dX12_tree_166 : decode cX12_tree 166 = .ok (.goto (-150), 3) := by decide +kernel
theorem dX12_tree_169 : decode cX12_tree 169 = .ok (.return_, 1) := by decide +kernel
theorem dX12_ofKind_0 : decode cX12_ofKind 0 = .ok (.lconst 0, 1) := by decide +kernel
theorem dX12_ofKind_1 : decode cX12_ofKind 1 = .ok (.lstore_n 2, 1) := by decide +kernel
theorem dX12_ofKind_2 : decode cX12_ofKind 2 = .ok (.iconst 0, 1) := by decide +kernel
theorem dX12_ofKind_3 : decode cX12_ofKind 3 = .ok (.istore 4, 2) := by decide +kernel
theorem dX12_ofKind_5 : decode cX12_ofKind 5 = .ok (.iload 4, 2) := by decide +kernel
theorem dX12_ofKind_7 : decode cX12_ofKind 7 = .ok (.aload_n 0, 1) := by decide +kernel
theorem dX12_ofKind_8 : decode cX12_ofKind 8 = .ok (.getfield 113, 3) := by decide +kernel
theorem dX12_ofKind_11 : decode cX12_ofKind 11 = .ok (.if_icmp .ge 48, 3) := by decide +kernel
theorem dX12_ofKind_14 : decode cX12_ofKind 14 = .ok (.lload_n 2, 1) := by decide +kernel
theorem dX12_ofKind_15 : decode cX12_ofKind 15 = .ok (.aload_n 0, 1) := by decide +kernel
theorem dX12_ofKind_16 : decode cX12_ofKind 16 = .ok (.getfield 23, 3) := by decide +kernel
theorem dX12_ofKind_19 : decode cX12_ofKind 19 = .ok (.iload 4, 2) := by decide +kernel
theorem dX12_ofKind_21 : decode cX12_ofKind 21 = .ok (.baload, 1) := by decide +kernel
theorem dX12_ofKind_22 : decode cX12_ofKind 22 = .ok (.ifCond .ne 28, 3) := by decide +kernel
theorem dX12_ofKind_25 : decode cX12_ofKind 25 = .ok (.iload_n 1, 1) := by decide +kernel
theorem dX12_ofKind_26 : decode cX12_ofKind 26 = .ok (.ifCond .lt 14, 3) := by decide +kernel
theorem dX12_ofKind_29 : decode cX12_ofKind 29 = .ok (.aload_n 0, 1) := by decide +kernel
theorem dX12_ofKind_30 : decode cX12_ofKind 30 = .ok (.getfield 17, 3) := by decide +kernel
theorem dX12_ofKind_33 : decode cX12_ofKind 33 = .ok (.iload 4, 2) := by decide +kernel
theorem dX12_ofKind_35 : decode cX12_ofKind 35 = .ok (.iaload, 1) := by decide +kernel
theorem dX12_ofKind_36 : decode cX12_ofKind 36 = .ok (.iload_n 1, 1) := by decide +kernel
theorem dX12_ofKind_37 : decode cX12_ofKind 37 = .ok (.if_icmp .ne 13, 3) := by decide +kernel
theorem dX12_ofKind_40 : decode cX12_ofKind 40 = .ok (.aload_n 0, 1) := by decide +kernel
theorem dX12_ofKind_41 : decode cX12_ofKind 41 = .ok (.getfield 33, 3) := by decide +kernel
theorem dX12_ofKind_44 : decode cX12_ofKind 44 = .ok (.iload 4, 2) := by decide +kernel
theorem dX12_ofKind_46 : decode cX12_ofKind 46 = .ok (.laload, 1) := by decide +kernel
theorem dX12_ofKind_47 : decode cX12_ofKind 47 = .ok (.goto 4, 3) := by decide +kernel
theorem dX12_ofKind_50 : decode cX12_ofKind 50 = .ok (.lconst 0, 1) := by decide +kernel
theorem dX12_ofKind_51 : decode cX12_ofKind 51 = .ok (.ladd, 1) := by decide +kernel
theorem dX12_ofKind_52 : decode cX12_ofKind 52 = .ok (.lstore_n 2, 1) := by decide +kernel
theorem dX12_ofKind_53 : decode cX12_ofKind 53 = .ok (.iinc 4 1, 3) := by decide +kernel
theorem dX12_ofKind_56 : decode cX12_ofKind 56 = .ok (.goto (-51), 3) := by decide +kernel
theorem dX12_ofKind_59 : decode cX12_ofKind 59 = .ok (.lload_n 2, 1) := by decide +kernel
theorem dX12_ofKind_60 : decode cX12_ofKind 60 = .ok (.lreturn, 1) := by decide +kernel
theorem dX12_total_0 : decode cX12_total 0 = .ok (.aload_n 0, 1) := by decide +kernel
theorem dX12_total_1 : decode cX12_total 1 = .ok (.iload_n 1, 1) := by decide +kernel
theorem dX12_total_2 : decode cX12_total 2 = .ok (.invokevirtual 324, 3) := by decide +kernel
theorem dX12_total_5 : decode cX12_total 5 = .ok (.aload_n 0, 1) := by decide +kernel
theorem dX12_total_6 : decode cX12_total 6 = .ok (.bipush 32, 2) := by decide +kernel
theorem dX12_total_8 : decode cX12_total 8 = .ok (.invokevirtual 324, 3) := by decide +kernel
theorem dX12_total_11 : decode cX12_total 11 = .ok (.aload_n 0, 1) := by decide +kernel
theorem dX12_total_12 : decode cX12_total 12 = .ok (.aload_n 0, 1) := by decide +kernel
theorem dX12_total_13 : decode cX12_total 13 = .ok (.iload_n 2, 1) := by decide +kernel
theorem dX12_total_14 : decode cX12_total 14 = .ok (.invokevirtual 335, 3) := by decide +kernel
theorem dX12_total_17 : decode cX12_total 17 = .ok (.invokevirtual 329, 3) := by decide +kernel
theorem dX12_total_20 : decode cX12_total 20 = .ok (.aload_n 0, 1) := by decide +kernel
theorem dX12_total_21 : decode cX12_total 21 = .ok (.bipush 10, 2) := by decide +kernel
theorem dX12_total_23 : decode cX12_total 23 = .ok (.invokevirtual 324, 3) := by decide +kernel
theorem dX12_total_26 : decode cX12_total 26 = .ok (.return_, 1) := by decide +kernel
theorem dX12_sheet_0 : decode cX12_sheet 0 = .ok (.aload_n 0, 1) := by decide +kernel
theorem dX12_sheet_1 : decode cX12_sheet 1 = .ok (.getfield 7, 3) := by decide +kernel
theorem dX12_sheet_4 : decode cX12_sheet 4 = .ok (.ifCond .ne 6, 3) := by decide +kernel
theorem dX12_sheet_7 : decode cX12_sheet 7 = .ok (.bipush (-6), 2) := by decide +kernel
theorem dX12_sheet_9 : decode cX12_sheet 9 = .ok (.ireturn, 1) := by decide +kernel
theorem dX12_sheet_10 : decode cX12_sheet 10 = .ok (.iload_n 1, 1) := by decide +kernel
theorem dX12_sheet_11 : decode cX12_sheet 11 = .ok (.i2l, 1) := by decide +kernel
theorem dX12_sheet_12 : decode cX12_sheet 12 = .ok (.lconst 0, 1) := by decide +kernel
theorem dX12_sheet_13 : decode cX12_sheet 13 = .ok (.ldc2_w 125, 3) := by decide +kernel
theorem dX12_sheet_16 : decode cX12_sheet 16 = .ok (.invokestatic 116, 3) := by decide +kernel
theorem dX12_sheet_19 : decode cX12_sheet 19 = .ok (.ifCond .ne 6, 3) := by decide +kernel
theorem dX12_sheet_22 : decode cX12_sheet 22 = .ok (.bipush (-3), 2) := by decide +kernel
theorem dX12_sheet_24 : decode cX12_sheet 24 = .ok (.ireturn, 1) := by decide +kernel
theorem dX12_sheet_25 : decode cX12_sheet 25 = .ok (.aload_n 0, 1) := by decide +kernel
theorem dX12_sheet_26 : decode cX12_sheet 26 = .ok (.iconst 0, 1) := by decide +kernel
theorem dX12_sheet_27 : decode cX12_sheet 27 = .ok (.putfield 253, 3) := by decide +kernel
theorem dX12_sheet_30 : decode cX12_sheet 30 = .ok (.iload_n 1, 1) := by decide +kernel
theorem dX12_sheet_31 : decode cX12_sheet 31 = .ok (.ifCond .ne 56, 3) := by decide +kernel
theorem dX12_sheet_34 : decode cX12_sheet 34 = .ok (.aload_n 0, 1) := by decide +kernel
theorem dX12_sheet_35 : decode cX12_sheet 35 = .ok (.iconst 0, 1) := by decide +kernel
theorem dX12_sheet_36 : decode cX12_sheet 36 = .ok (.invokevirtual 227, 3) := by decide +kernel
theorem dX12_sheet_39 : decode cX12_sheet 39 = .ok (.istore_n 2, 1) := by decide +kernel
theorem dX12_sheet_40 : decode cX12_sheet 40 = .ok (.iload_n 2, 1) := by decide +kernel
theorem dX12_sheet_41 : decode cX12_sheet 41 = .ok (.iconst (-1), 1) := by decide +kernel
theorem dX12_sheet_42 : decode cX12_sheet 42 = .ok (.if_icmp .eq 42, 3) := by decide +kernel
theorem dX12_sheet_45 : decode cX12_sheet 45 = .ok (.aload_n 0, 1) := by decide +kernel
theorem dX12_sheet_46 : decode cX12_sheet 46 = .ok (.getfield 23, 3) := by decide +kernel
theorem dX12_sheet_49 : decode cX12_sheet 49 = .ok (.iload_n 2, 1) := by decide +kernel
theorem dX12_sheet_50 : decode cX12_sheet 50 = .ok (.baload, 1) := by decide +kernel
theorem dX12_sheet_51 : decode cX12_sheet 51 = .ok (.ifCond .ne 19, 3) := by decide +kernel
theorem dX12_sheet_54 : decode cX12_sheet 54 = .ok (.aload_n 0, 1) := by decide +kernel
theorem dX12_sheet_55 : decode cX12_sheet 55 = .ok (.getfield 33, 3) := by decide +kernel
theorem dX12_sheet_58 : decode cX12_sheet 58 = .ok (.iload_n 2, 1) := by decide +kernel
theorem dX12_sheet_59 : decode cX12_sheet 59 = .ok (.laload, 1) := by decide +kernel
theorem dX12_sheet_60 : decode cX12_sheet 60 = .ok (.lconst 0, 1) := by decide +kernel
theorem dX12_sheet_61 : decode cX12_sheet 61 = .ok (.lcmp, 1) := by decide +kernel
theorem dX12_sheet_62 : decode cX12_sheet 62 = .ok (.ifCond .eq 8, 3) := by decide +kernel
theorem dX12_sheet_65 : decode cX12_sheet 65 = .ok (.aload_n 0, 1) := by decide +kernel
theorem dX12_sheet_66 : decode cX12_sheet 66 = .ok (.iload_n 2, 1) := by decide +kernel
theorem dX12_sheet_67 : decode cX12_sheet 67 = .ok (.invokevirtual 332, 3) := by decide +kernel
theorem dX12_sheet_70 : decode cX12_sheet 70 = .ok (.aload_n 0, 1) := by decide +kernel
theorem dX12_sheet_71 : decode cX12_sheet 71 = .ok (.aload_n 0, 1) := by decide +kernel
theorem dX12_sheet_72 : decode cX12_sheet 72 = .ok (.getfield 13, 3) := by decide +kernel
theorem dX12_sheet_75 : decode cX12_sheet 75 = .ok (.iload_n 2, 1) := by decide +kernel
theorem dX12_sheet_76 : decode cX12_sheet 76 = .ok (.iaload, 1) := by decide +kernel
theorem dX12_sheet_77 : decode cX12_sheet 77 = .ok (.invokevirtual 227, 3) := by decide +kernel
theorem dX12_sheet_80 : decode cX12_sheet 80 = .ok (.istore_n 2, 1) := by decide +kernel
theorem dX12_sheet_81 : decode cX12_sheet 81 = .ok (.goto (-41), 3) := by decide +kernel
theorem dX12_sheet_84 : decode cX12_sheet 84 = .ok (.goto 57, 3) := by decide +kernel
theorem dX12_sheet_87 : decode cX12_sheet 87 = .ok (.iload_n 1, 1) := by decide +kernel
theorem dX12_sheet_88 : decode cX12_sheet 88 = .ok (.iconst 1, 1) := by decide +kernel
theorem dX12_sheet_89 : decode cX12_sheet 89 = .ok (.if_icmp .ne 10, 3) := by decide +kernel
theorem dX12_sheet_92 : decode cX12_sheet 92 = .ok (.aload_n 0, 1) := by decide +kernel
theorem dX12_sheet_93 : decode cX12_sheet 93 = .ok (.invokevirtual 338, 3) := by decide +kernel
theorem dX12_sheet_96 : decode cX12_sheet 96 = .ok (.goto 45, 3) := by decide +kernel
theorem dX12_sheet_99 : decode cX12_sheet 99 = .ok (.aload_n 0, 1) := by decide +kernel
theorem dX12_sheet_100 : decode cX12_sheet 100 = .ok (.bipush 65, 2) := by decide +kernel
theorem dX12_sheet_102 : decode cX12_sheet 102 = .ok (.iconst 0, 1) := by decide +kernel
theorem dX12_sheet_103 : decode cX12_sheet 103 = .ok (.invokevirtual 341, 3) := by decide +kernel
theorem dX12_sheet_106 : decode cX12_sheet 106 = .ok (.aload_n 0, 1) := by decide +kernel
theorem dX12_sheet_107 : decode cX12_sheet 107 = .ok (.bipush 68, 2) := by decide +kernel
theorem dX12_sheet_109 : decode cX12_sheet 109 = .ok (.iconst 1, 1) := by decide +kernel
theorem dX12_sheet_110 : decode cX12_sheet 110 = .ok (.invokevirtual 341, 3) := by decide +kernel
theorem dX12_sheet_113 : decode cX12_sheet 113 = .ok (.aload_n 0, 1) := by decide +kernel
theorem dX12_sheet_114 : decode cX12_sheet 114 = .ok (.bipush 79, 2) := by decide +kernel
theorem dX12_sheet_116 : decode cX12_sheet 116 = .ok (.iconst 2, 1) := by decide +kernel
theorem dX12_sheet_117 : decode cX12_sheet 117 = .ok (.invokevirtual 341, 3) := by decide +kernel
theorem dX12_sheet_120 : decode cX12_sheet 120 = .ok (.aload_n 0, 1) := by decide +kernel
theorem dX12_sheet_121 : decode cX12_sheet 121 = .ok (.bipush 73, 2) := by decide +kernel
theorem dX12_sheet_123 : decode cX12_sheet 123 = .ok (.iconst 3, 1) := by decide +kernel
theorem dX12_sheet_124 : decode cX12_sheet 124 = .ok (.invokevirtual 341, 3) := by decide +kernel
theorem dX12_sheet_127 : decode cX12_sheet 127 = .ok (.aload_n 0, 1) := by decide +kernel
theorem dX12_sheet_128 : decode cX12_sheet 128 = .ok (.bipush 67, 2) := by decide +kernel
theorem dX12_sheet_130 : decode cX12_sheet 130 = .ok (.iconst 4, 1) := by decide +kernel
theorem dX12_sheet_131 : decode cX12_sheet 131 = .ok (.invokevirtual 341, 3) := by decide +kernel
theorem dX12_sheet_134 : decode cX12_sheet 134 = .ok (.aload_n 0, 1) := by decide +kernel
theorem dX12_sheet_135 : decode cX12_sheet 135 = .ok (.bipush 61, 2) := by decide +kernel
theorem dX12_sheet_137 : decode cX12_sheet 137 = .ok (.iconst (-1), 1) := by decide +kernel
theorem dX12_sheet_138 : decode cX12_sheet 138 = .ok (.invokevirtual 341, 3) := by decide +kernel
theorem dX12_sheet_141 : decode cX12_sheet 141 = .ok (.aload_n 0, 1) := by decide +kernel
theorem dX12_sheet_142 : decode cX12_sheet 142 = .ok (.getfield 253, 3) := by decide +kernel
theorem dX12_sheet_145 : decode cX12_sheet 145 = .ok (.sipush 4000, 3) := by decide +kernel
theorem dX12_sheet_148 : decode cX12_sheet 148 = .ok (.if_icmp .le 11, 3) := by decide +kernel
theorem dX12_sheet_151 : decode cX12_sheet 151 = .ok (.aload_n 0, 1) := by decide +kernel
theorem dX12_sheet_152 : decode cX12_sheet 152 = .ok (.iconst 0, 1) := by decide +kernel
theorem dX12_sheet_153 : decode cX12_sheet 153 = .ok (.putfield 253, 3) := by decide +kernel
theorem dX12_sheet_156 : decode cX12_sheet 156 = .ok (.bipush (-13), 2) := by decide +kernel
theorem dX12_sheet_158 : decode cX12_sheet 158 = .ok (.ireturn, 1) := by decide +kernel
theorem dX12_sheet_159 : decode cX12_sheet 159 = .ok (.aload_n 0, 1) := by decide +kernel
theorem dX12_sheet_160 : decode cX12_sheet 160 = .ok (.getfield 253, 3) := by decide +kernel
theorem dX12_sheet_163 : decode cX12_sheet 163 = .ok (.ireturn, 1) := by decide +kernel
theorem dX12_shown_0 : decode cX12_shown 0 = .ok (.aload_n 0, 1) := by decide +kernel
theorem dX12_shown_1 : decode cX12_shown 1 = .ok (.getfield 7, 3) := by decide +kernel
theorem dX12_shown_4 : decode cX12_shown 4 = .ok (.ifCond .ne 6, 3) := by decide +kernel
theorem dX12_shown_7 : decode cX12_shown 7 = .ok (.bipush (-6), 2) := by decide +kernel
theorem dX12_shown_9 : decode cX12_shown 9 = .ok (.ireturn, 1) := by decide +kernel
theorem dX12_shown_10 : decode cX12_shown 10 = .ok (.iload_n 1, 1) := by decide +kernel
theorem dX12_shown_11 : decode cX12_shown 11 = .ok (.i2l, 1) := by decide +kernel
theorem dX12_shown_12 : decode cX12_shown 12 = .ok (.lconst 0, 1) := by decide +kernel
theorem dX12_shown_13 : decode cX12_shown 13 = .ok (.aload_n 0, 1) := by decide +kernel
theorem dX12_shown_14 : decode cX12_shown 14 = .ok (.getfield 253, 3) := by decide +kernel
theorem dX12_shown_17 : decode cX12_shown 17 = .ok (.iconst 1, 1) := by decide +kernel
theorem dX12_shown_18 : decode cX12_shown 18 = .ok (.isub, 1) := by decide +kernel
theorem dX12_shown_19 : decode cX12_shown 19 = .ok (.i2l, 1) := by decide +kernel
theorem dX12_shown_20 : decode cX12_shown 20 = .ok (.invokestatic 116, 3) := by decide +kernel
theorem dX12_shown_23 : decode cX12_shown 23 = .ok (.ifCond .eq 12, 3) := by decide +kernel
theorem dX12_shown_26 : decode cX12_shown 26 = .ok (.aload_n 0, 1) := by decide +kernel
theorem dX12_shown_27 : decode cX12_shown 27 = .ok (.getfield 89, 3) := by decide +kernel
theorem dX12_shown_30 : decode cX12_shown 30 = .ok (.iload_n 1, 1) := by decide +kernel
theorem dX12_shown_31 : decode cX12_shown 31 = .ok (.iaload, 1) := by decide +kernel
theorem dX12_shown_32 : decode cX12_shown 32 = .ok (.goto 5, 3) := by decide +kernel
theorem dX12_shown_35 : decode cX12_shown 35 = .ok (.bipush (-2), 2) := by decide +kernel
theorem dX12_shown_37 : decode cX12_shown 37 = .ok (.ireturn, 1) := by decide +kernel
theorem dX12_count_0 : decode cX12_count 0 = .ok (.iload_n 1, 1) := by decide +kernel
theorem dX12_count_1 : decode cX12_count 1 = .ok (.i2l, 1) := by decide +kernel
theorem dX12_count_2 : decode cX12_count 2 = .ok (.ldc2_w 344, 3) := by decide +kernel
theorem dX12_count_5 : decode cX12_count 5 = .ok (.ldc2_w 346, 3) := by decide +kernel
theorem dX12_count_8 : decode cX12_count 8 = .ok (.invokestatic 116, 3) := by decide +kernel
theorem dX12_count_11 : decode cX12_count 11 = .ok (.ifCond .ne 17, 3) := by decide +kernel
theorem dX12_count_14 : decode cX12_count 14 = .ok (.iload_n 1, 1) := by decide +kernel
theorem dX12_count_15 : decode cX12_count 15 = .ok (.i2l, 1) := by decide +kernel
theorem dX12_count_16 : decode cX12_count 16 = .ok (.ldc2_w 348, 3) := by decide +kernel
theorem dX12_count_19 : decode cX12_count 19 = .ok (.ldc2_w 327, 3) := by decide +kernel
theorem dX12_count_22 : decode cX12_count 22 = .ok (.invokestatic 116, 3) := by decide +kernel
theorem dX12_count_25 : decode cX12_count 25 = .ok (.ifCond .eq 7, 3) := by decide +kernel
theorem dX12_count_28 : decode cX12_count 28 = .ok (.iconst 1, 1) := by decide +kernel
theorem dX12_count_29 : decode cX12_count 29 = .ok (.goto 4, 3) := by decide +kernel
theorem dX12_count_32 : decode cX12_count 32 = .ok (.iconst 0, 1) := by decide +kernel
theorem dX12_count_33 : decode cX12_count 33 = .ok (.istore_n 2, 1) := by decide +kernel
theorem dX12_count_34 : decode cX12_count 34 = .ok (.iload_n 1, 1) := by decide +kernel
theorem dX12_count_35 : decode cX12_count 35 = .ok (.i2l, 1) := by decide +kernel
theorem dX12_count_36 : decode cX12_count 36 = .ok (.lconst 0, 1) := by decide +kernel
theorem dX12_count_37 : decode cX12_count 37 = .ok (.ldc2_w 327, 3) := by decide +kernel
theorem dX12_count_40 : decode cX12_count 40 = .ok (.invokestatic 116, 3) := by decide +kernel
theorem dX12_count_43 : decode cX12_count 43 = .ok (.ifCond .ne 6, 3) := by decide +kernel
theorem dX12_count_46 : decode cX12_count 46 = .ok (.bipush (-3), 2) := by decide +kernel
theorem dX12_count_48 : decode cX12_count 48 = .ok (.ireturn, 1) := by decide +kernel
theorem dX12_count_49 : decode cX12_count 49 = .ok (.aload_n 0, 1) := by decide +kernel
theorem dX12_count_50 : decode cX12_count 50 = .ok (.getfield 7, 3) := by decide +kernel
theorem dX12_count_53 : decode cX12_count 53 = .ok (.ifCond .ne 10, 3) := by decide +kernel
theorem dX12_count_56 : decode cX12_count 56 = .ok (.iload_n 2, 1) := by decide +kernel
theorem dX12_count_57 : decode cX12_count 57 = .ok (.ifCond .ne 6, 3) := by decide +kernel
theorem dX12_count_60 : decode cX12_count 60 = .ok (.bipush (-6), 2) := by decide +kernel
theorem dX12_count_62 : decode cX12_count 62 = .ok (.ireturn, 1) := by decide +kernel
theorem dX12_count_63 : decode cX12_count 63 = .ok (.iload_n 1, 1) := by decide +kernel
theorem dX12_count_64 : decode cX12_count 64 = .ok (.tableswitch 106 0 9 #[56, 61, 66, 71, 76, 81, 86, 91, 96, 101], 56) := by decide +kernel
theorem dX12_count_120 : decode cX12_count 120 = .ok (.aload_n 0, 1) := by decide +kernel
theorem dX12_count_121 : decode cX12_count 121 = .ok (.getfield 113, 3) := by decide +kernel
theorem dX12_count_124 : decode cX12_count 124 = .ok (.ireturn, 1) := by decide +kernel
theorem dX12_count_125 : decode cX12_count 125 = .ok (.aload_n 0, 1) := by decide +kernel
theorem dX12_count_126 : decode cX12_count 126 = .ok (.getfield 173, 3) := by decide +kernel
theorem dX12_count_129 : decode cX12_count 129 = .ok (.ireturn, 1) := by decide +kernel
theorem dX12_count_130 : decode cX12_count 130 = .ok (.aload_n 0, 1) := by decide +kernel
theorem dX12_count_131 : decode cX12_count 131 = .ok (.getfield 197, 3) := by decide +kernel
theorem dX12_count_134 : decode cX12_count 134 = .ok (.ireturn, 1) := by decide +kernel
theorem dX12_count_135 : decode cX12_count 135 = .ok (.aload_n 0, 1) := by decide +kernel
theorem dX12_count_136 : decode cX12_count 136 = .ok (.getfield 203, 3) := by decide +kernel
theorem dX12_count_139 : decode cX12_count 139 = .ok (.ireturn, 1) := by decide +kernel
theorem dX12_count_140 : decode cX12_count 140 = .ok (.aload_n 0, 1) := by decide +kernel
theorem dX12_count_141 : decode cX12_count 141 = .ok (.getfield 184, 3) := by decide +kernel
theorem dX12_count_144 : decode cX12_count 144 = .ok (.ireturn, 1) := by decide +kernel
theorem dX12_count_145 : decode cX12_count 145 = .ok (.aload_n 0, 1) := by decide +kernel
theorem dX12_count_146 : decode cX12_count 146 = .ok (.getfield 132, 3) := by decide +kernel
theorem dX12_count_149 : decode cX12_count 149 = .ok (.ireturn, 1) := by decide +kernel
theorem dX12_count_150 : decode cX12_count 150 = .ok (.aload_n 0, 1) := by decide +kernel
theorem dX12_count_151 : decode cX12_count 151 = .ok (.getfield 248, 3) := by decide +kernel
theorem dX12_count_154 : decode cX12_count 154 = .ok (.ireturn, 1) := by decide +kernel
theorem dX12_count_155 : decode cX12_count 155 = .ok (.aload_n 0, 1) := by decide +kernel
theorem dX12_count_156 : decode cX12_count 156 = .ok (.getfield 137, 3) := by decide +kernel
theorem dX12_count_159 : decode cX12_count 159 = .ok (.ireturn, 1) := by decide +kernel
theorem dX12_count_160 : decode cX12_count 160 = .ok (.aload_n 0, 1) := by decide +kernel
theorem dX12_count_161 : decode cX12_count 161 = .ok (.getfield 37, 3) := by decide +kernel
theorem dX12_count_164 : decode cX12_count 164 = .ok (.ireturn, 1) := by decide +kernel
theorem dX12_count_165 : decode cX12_count 165 = .ok (.aload_n 0, 1) := by decide +kernel
theorem dX12_count_166 : decode cX12_count 166 = .ok (.getfield 253, 3) := by decide +kernel
theorem dX12_count_169 : decode cX12_count 169 = .ok (.ireturn, 1) := by decide +kernel
theorem dX12_count_170 : decode cX12_count 170 = .ok (.aload_n 0, 1) := by decide +kernel
theorem dX12_count_171 : decode cX12_count 171 = .ok (.getfield 7, 3) := by decide +kernel
theorem dX12_count_174 : decode cX12_count 174 = .ok (.ifCond .eq 7, 3) := by decide +kernel
theorem dX12_count_177 : decode cX12_count 177 = .ok (.iconst 1, 1) := by decide +kernel
theorem dX12_count_178 : decode cX12_count 178 = .ok (.goto 4, 3) := by decide +kernel
theorem dX12_count_181 : decode cX12_count 181 = .ok (.iconst 0, 1) := by decide +kernel
theorem dX12_count_182 : decode cX12_count 182 = .ok (.ireturn, 1) := by decide +kernel
theorem dJ9_abs_067f4_0 : decode cJ9_abs_067f4 0 = .ok (.lload_n 0, 1) := by decide +kernel
theorem dJ9_abs_067f4_1 : decode cJ9_abs_067f4 1 = .ok (.lconst 0, 1) := by decide +kernel
theorem dJ9_abs_067f4_2 : decode cJ9_abs_067f4 2 = .ok (.lcmp, 1) := by decide +kernel
theorem dJ9_abs_067f4_3 : decode cJ9_abs_067f4 3 = .ok (.ifCond .ge 8, 3) := by decide +kernel
theorem dJ9_abs_067f4_6 : decode cJ9_abs_067f4 6 = .ok (.lload_n 0, 1) := by decide +kernel
theorem dJ9_abs_067f4_7 : decode cJ9_abs_067f4 7 = .ok (.lneg, 1) := by decide +kernel
theorem dJ9_abs_067f4_8 : decode cJ9_abs_067f4 8 = .ok (.goto 4, 3) := by decide +kernel
theorem dJ9_abs_067f4_11 : decode cJ9_abs_067f4 11 = .ok (.lload_n 0, 1) := by decide +kernel
theorem dJ9_abs_067f4_12 : decode cJ9_abs_067f4 12 = .ok (.lreturn, 1) := by decide +kernel
theorem dJ9_max_7cf53_0 : decode cJ9_max_7cf53 0 = .ok (.iload_n 0, 1) := by decide +kernel
theorem dJ9_max_7cf53_1 : decode cJ9_max_7cf53 1 = .ok (.iload_n 1, 1) := by decide +kernel
theorem dJ9_max_7cf53_2 : decode cJ9_max_7cf53 2 = .ok (.if_icmp .lt 7, 3) := by decide +kernel
theorem dJ9_max_7cf53_5 : decode cJ9_max_7cf53 5 = .ok (.iload_n 0, 1) := by decide +kernel
theorem dJ9_max_7cf53_6 : decode cJ9_max_7cf53 6 = .ok (.goto 4, 3) := by decide +kernel
theorem dJ9_max_7cf53_9 : decode cJ9_max_7cf53 9 = .ok (.iload_n 1, 1) := by decide +kernel
theorem dJ9_max_7cf53_10 : decode cJ9_max_7cf53 10 = .ok (.ireturn, 1) := by decide +kernel
theorem dJ9_min_7cf53_0 : decode cJ9_min_7cf53 0 = .ok (.iload_n 0, 1) := by decide +kernel
theorem dJ9_min_7cf53_1 : decode cJ9_min_7cf53 1 = .ok (.iload_n 1, 1) := by decide +kernel
theorem dJ9_min_7cf53_2 : decode cJ9_min_7cf53 2 = .ok (.if_icmp .gt 7, 3) := by decide +kernel
theorem dJ9_min_7cf53_5 : decode cJ9_min_7cf53 5 = .ok (.iload_n 0, 1) := by decide +kernel
theorem dJ9_min_7cf53_6 : decode cJ9_min_7cf53 6 = .ok (.goto 4, 3) := by decide +kernel
theorem dJ9_min_7cf53_9 : decode cJ9_min_7cf53 9 = .ok (.iload_n 1, 1) := by decide +kernel
theorem dJ9_min_7cf53_10 : decode cJ9_min_7cf53 10 = .ok (.ireturn, 1) := by decide +kernel
theorem dJ7_fill_d0a16_0 : decode cJ7_fill_d0a16 0 = .ok (.iconst 0, 1) := by decide +kernel
theorem dJ7_fill_d0a16_1 : decode cJ7_fill_d0a16 1 = .ok (.istore_n 3, 1) := by decide +kernel
theorem dJ7_fill_d0a16_2 : decode cJ7_fill_d0a16 2 = .ok (.aload_n 0, 1) := by decide +kernel
theorem dJ7_fill_d0a16_3 : decode cJ7_fill_d0a16 3 = .ok (.arraylength, 1) := by decide +kernel
theorem dJ7_fill_d0a16_4 : decode cJ7_fill_d0a16 4 = .ok (.istore 4, 2) := by decide +kernel
theorem dJ7_fill_d0a16_6 : decode cJ7_fill_d0a16 6 = .ok (.iload_n 3, 1) := by decide +kernel
theorem dJ7_fill_d0a16_7 : decode cJ7_fill_d0a16 7 = .ok (.iload 4, 2) := by decide +kernel
theorem dJ7_fill_d0a16_9 : decode cJ7_fill_d0a16 9 = .ok (.if_icmp .ge 13, 3) := by decide +kernel
theorem dJ7_fill_d0a16_12 : decode cJ7_fill_d0a16 12 = .ok (.aload_n 0, 1) := by decide +kernel
theorem dJ7_fill_d0a16_13 : decode cJ7_fill_d0a16 13 = .ok (.iload_n 3, 1) := by decide +kernel
theorem dJ7_fill_d0a16_14 : decode cJ7_fill_d0a16 14 = .ok (.lload_n 1, 1) := by decide +kernel
theorem dJ7_fill_d0a16_15 : decode cJ7_fill_d0a16 15 = .ok (.lastore, 1) := by decide +kernel
theorem dJ7_fill_d0a16_16 : decode cJ7_fill_d0a16 16 = .ok (.iinc 3 1, 3) := by decide +kernel
theorem dJ7_fill_d0a16_19 : decode cJ7_fill_d0a16 19 = .ok (.goto (-13), 3) := by decide +kernel
theorem dJ7_fill_d0a16_22 : decode cJ7_fill_d0a16 22 = .ok (.return_, 1) := by decide +kernel
theorem dJ7_copyOf_59c91_0 : decode cJ7_copyOf_59c91 0 = .ok (.iload_n 1, 1) := by decide +kernel
theorem dJ7_copyOf_59c91_1 : decode cJ7_copyOf_59c91 1 = .ok (.aload_n 0, 1) := by decide +kernel
theorem dJ7_copyOf_59c91_2 : decode cJ7_copyOf_59c91 2 = .ok (.arraylength, 1) := by decide +kernel
theorem dJ7_copyOf_59c91_3 : decode cJ7_copyOf_59c91 3 = .ok (.if_icmp .ne 11, 3) := by decide +kernel
theorem dJ7_copyOf_59c91_6 : decode cJ7_copyOf_59c91 6 = .ok (.aload_n 0, 1) := by decide +kernel
theorem dJ7_copyOf_59c91_7 : decode cJ7_copyOf_59c91 7 = .ok (.invokevirtual 316, 3) := by decide +kernel
theorem dJ7_copyOf_59c91_10 : decode cJ7_copyOf_59c91 10 = .ok (.checkcast 317, 3) := by decide +kernel
theorem dJ7_copyOf_59c91_13 : decode cJ7_copyOf_59c91 13 = .ok (.areturn, 1) := by decide +kernel
theorem dJ7_copyOf_59c91_14 : decode cJ7_copyOf_59c91 14 = .ok (.iload_n 1, 1) := by decide +kernel
theorem dJ7_copyOf_59c91_15 : decode cJ7_copyOf_59c91 15 = .ok (.newarray .int, 2) := by decide +kernel
theorem dJ7_copyOf_59c91_17 : decode cJ7_copyOf_59c91 17 = .ok (.astore_n 2, 1) := by decide +kernel
theorem dJ7_copyOf_59c91_18 : decode cJ7_copyOf_59c91 18 = .ok (.aload_n 0, 1) := by decide +kernel
theorem dJ7_copyOf_59c91_19 : decode cJ7_copyOf_59c91 19 = .ok (.iconst 0, 1) := by decide +kernel
theorem dJ7_copyOf_59c91_20 : decode cJ7_copyOf_59c91 20 = .ok (.aload_n 2, 1) := by decide +kernel
theorem dJ7_copyOf_59c91_21 : decode cJ7_copyOf_59c91 21 = .ok (.iconst 0, 1) := by decide +kernel
theorem dJ7_copyOf_59c91_22 : decode cJ7_copyOf_59c91 22 = .ok (.aload_n 0, 1) := by decide +kernel
theorem dJ7_copyOf_59c91_23 : decode cJ7_copyOf_59c91 23 = .ok (.arraylength, 1) := by decide +kernel
theorem dJ7_copyOf_59c91_24 : decode cJ7_copyOf_59c91 24 = .ok (.iload_n 1, 1) := by decide +kernel
theorem dJ7_copyOf_59c91_25 : decode cJ7_copyOf_59c91 25 = .ok (.invokestatic 304, 3) := by decide +kernel
theorem dJ7_copyOf_59c91_28 : decode cJ7_copyOf_59c91 28 = .ok (.invokestatic 150, 3) := by decide +kernel
theorem dJ7_copyOf_59c91_31 : decode cJ7_copyOf_59c91 31 = .ok (.aload_n 2, 1) := by decide +kernel
theorem dJ7_copyOf_59c91_32 : decode cJ7_copyOf_59c91 32 = .ok (.areturn, 1) := by decide +kernel
theorem dJ7_copyOf_c38d5_0 : decode cJ7_copyOf_c38d5 0 = .ok (.iload_n 1, 1) := by decide +kernel
theorem dJ7_copyOf_c38d5_1 : decode cJ7_copyOf_c38d5 1 = .ok (.aload_n 0, 1) := by decide +kernel
theorem dJ7_copyOf_c38d5_2 : decode cJ7_copyOf_c38d5 2 = .ok (.arraylength, 1) := by decide +kernel
theorem dJ7_copyOf_c38d5_3 : decode cJ7_copyOf_c38d5 3 = .ok (.if_icmp .ne 11, 3) := by decide +kernel
theorem dJ7_copyOf_c38d5_6 : decode cJ7_copyOf_c38d5 6 = .ok (.aload_n 0, 1) := by decide +kernel
theorem dJ7_copyOf_c38d5_7 : decode cJ7_copyOf_c38d5 7 = .ok (.invokevirtual 319, 3) := by decide +kernel
theorem dJ7_copyOf_c38d5_10 : decode cJ7_copyOf_c38d5 10 = .ok (.checkcast 320, 3) := by decide +kernel
theorem dJ7_copyOf_c38d5_13 : decode cJ7_copyOf_c38d5 13 = .ok (.areturn, 1) := by decide +kernel
theorem dJ7_copyOf_c38d5_14 : decode cJ7_copyOf_c38d5 14 = .ok (.iload_n 1, 1) := by decide +kernel
theorem dJ7_copyOf_c38d5_15 : decode cJ7_copyOf_c38d5 15 = .ok (.newarray .long, 2) := by decide +kernel
theorem dJ7_copyOf_c38d5_17 : decode cJ7_copyOf_c38d5 17 = .ok (.astore_n 2, 1) := by decide +kernel
theorem dJ7_copyOf_c38d5_18 : decode cJ7_copyOf_c38d5 18 = .ok (.aload_n 0, 1) := by decide +kernel
theorem dJ7_copyOf_c38d5_19 : decode cJ7_copyOf_c38d5 19 = .ok (.iconst 0, 1) := by decide +kernel
theorem dJ7_copyOf_c38d5_20 : decode cJ7_copyOf_c38d5 20 = .ok (.aload_n 2, 1) := by decide +kernel
theorem dJ7_copyOf_c38d5_21 : decode cJ7_copyOf_c38d5 21 = .ok (.iconst 0, 1) := by decide +kernel
theorem dJ7_copyOf_c38d5_22 : decode cJ7_copyOf_c38d5 22 = .ok (.aload_n 0, 1) := by decide +kernel
theorem dJ7_copyOf_c38d5_23 : decode cJ7_copyOf_c38d5 23 = .ok (.arraylength, 1) := by decide +kernel
theorem dJ7_copyOf_c38d5_24 : decode cJ7_copyOf_c38d5 24 = .ok (.iload_n 1, 1) := by decide +kernel
theorem dJ7_copyOf_c38d5_25 : decode cJ7_copyOf_c38d5 25 = .ok (.invokestatic 304, 3) := by decide +kernel
theorem dJ7_copyOf_c38d5_28 : decode cJ7_copyOf_c38d5 28 = .ok (.invokestatic 150, 3) := by decide +kernel
theorem dJ7_copyOf_c38d5_31 : decode cJ7_copyOf_c38d5 31 = .ok (.aload_n 2, 1) := by decide +kernel
theorem dJ7_copyOf_c38d5_32 : decode cJ7_copyOf_c38d5 32 = .ok (.areturn, 1) := by decide +kernel
theorem dL_law_0 : decode cL_law 0 = .ok (.new 7, 3) := by decide +kernel
theorem dL_law_3 : decode cL_law 3 = .ok (.dup, 1) := by decide +kernel
theorem dL_law_4 : decode cL_law 4 = .ok (.invokespecial 9, 3) := by decide +kernel
theorem dL_law_7 : decode cL_law 7 = .ok (.astore_n 1, 1) := by decide +kernel
theorem dL_law_8 : decode cL_law 8 = .ok (.new 10, 3) := by decide +kernel
theorem dL_law_11 : decode cL_law 11 = .ok (.dup, 1) := by decide +kernel
theorem dL_law_12 : decode cL_law 12 = .ok (.invokespecial 12, 3) := by decide +kernel
theorem dL_law_15 : decode cL_law 15 = .ok (.astore_n 2, 1) := by decide +kernel
theorem dL_law_16 : decode cL_law 16 = .ok (.iconst 0, 1) := by decide +kernel
theorem dL_law_17 : decode cL_law 17 = .ok (.istore_n 3, 1) := by decide +kernel
theorem dL_law_18 : decode cL_law 18 = .ok (.iload_n 3, 1) := by decide +kernel
theorem dL_law_19 : decode cL_law 19 = .ok (.aload_n 0, 1) := by decide +kernel
theorem dL_law_20 : decode cL_law 20 = .ok (.arraylength, 1) := by decide +kernel
theorem dL_law_21 : decode cL_law 21 = .ok (.bipush 8, 2) := by decide +kernel
theorem dL_law_23 : decode cL_law 23 = .ok (.isub, 1) := by decide +kernel
theorem dL_law_24 : decode cL_law 24 = .ok (.if_icmp .gt 1063, 3) := by decide +kernel
theorem dL_law_27 : decode cL_law 27 = .ok (.aload_n 0, 1) := by decide +kernel
theorem dL_law_28 : decode cL_law 28 = .ok (.iload_n 3, 1) := by decide +kernel
theorem dL_law_29 : decode cL_law 29 = .ok (.iaload, 1) := by decide +kernel
theorem dL_law_30 : decode cL_law 30 = .ok (.bipush 31, 2) := by decide +kernel
theorem dL_law_32 : decode cL_law 32 = .ok (.iand, 1) := by decide +kernel
theorem dL_law_33 : decode cL_law 33 = .ok (.tableswitch 1048 0 25 #[119, 188, 237, 260, 283, 346, 359, 392, 425, 438, 451, 534, 547, 580, 593, 616, 649, 673, 717, 750, 794, 838, 871, 894, 917, 1025], 119) := by decide +kernel
theorem dL_law_152 : decode cL_law 152 = .ok (.aload_n 1, 1) := by decide +kernel
theorem dL_law_153 : decode cL_law 153 = .ok (.aload_n 0, 1) := by decide +kernel
theorem dL_law_154 : decode cL_law 154 = .ok (.iload_n 3, 1) := by decide +kernel
theorem dL_law_155 : decode cL_law 155 = .ok (.iconst 1, 1) := by decide +kernel
theorem dL_law_156 : decode cL_law 156 = .ok (.iadd, 1) := by decide +kernel
theorem dL_law_157 : decode cL_law 157 = .ok (.iaload, 1) := by decide +kernel
theorem dL_law_158 : decode cL_law 158 = .ok (.aload_n 0, 1) := by decide +kernel
theorem dL_law_159 : decode cL_law 159 = .ok (.iload_n 3, 1) := by decide +kernel
theorem dL_law_160 : decode cL_law 160 = .ok (.iconst 2, 1) := by decide +kernel
theorem dL_law_161 : decode cL_law 161 = .ok (.iadd, 1) := by decide +kernel
theorem dL_law_162 : decode cL_law 162 = .ok (.iaload, 1) := by decide +kernel
theorem dL_law_163 : decode cL_law 163 = .ok (.aload_n 0, 1) := by decide +kernel
theorem dL_law_164 : decode cL_law 164 = .ok (.iload_n 3, 1) := by decide +kernel
theorem dL_law_165 : decode cL_law 165 = .ok (.iconst 3, 1) := by decide +kernel
theorem dL_law_166 : decode cL_law 166 = .ok (.iadd, 1) := by decide +kernel
theorem dL_law_167 : decode cL_law 167 = .ok (.iaload, 1) := by decide +kernel
theorem dL_law_168 : decode cL_law 168 = .ok (.aload_n 0, 1) := by decide +kernel
theorem dL_law_169 : decode cL_law 169 = .ok (.iload_n 3, 1) := by decide +kernel
theorem dL_law_170 : decode cL_law 170 = .ok (.iconst 4, 1) := by decide +kernel
theorem dL_law_171 : decode cL_law 171 = .ok (.iadd, 1) := by decide +kernel
theorem dL_law_172 : decode cL_law 172 = .ok (.iaload, 1) := by decide +kernel
theorem dL_law_173 : decode cL_law 173 = .ok (.ifCond .eq 7, 3) := by decide +kernel
theorem dL_law_176 : decode cL_law 176 = .ok (.iconst 1, 1) := by decide +kernel
theorem dL_law_177 : decode cL_law 177 = .ok (.goto 4, 3) := by decide +kernel
theorem dL_law_180 : decode cL_law 180 = .ok (.iconst 0, 1) := by decide +kernel
theorem dL_law_181 : decode cL_law 181 = .ok (.invokevirtual 13, 3) := by decide +kernel
theorem dL_law_184 : decode cL_law 184 = .ok (.aload_n 2, 1) := by decide +kernel
theorem dL_law_185 : decode cL_law 185 = .ok (.aload_n 0, 1) := by decide +kernel
theorem dL_law_186 : decode cL_law 186 = .ok (.iload_n 3, 1) := by decide +kernel
theorem dL_law_187 : decode cL_law 187 = .ok (.iconst 1, 1) := by decide +kernel
theorem dL_law_188 : decode cL_law 188 = .ok (.iadd, 1) := by decide +kernel
theorem dL_law_189 : decode cL_law 189 = .ok (.iaload, 1) := by decide +kernel
theorem dL_law_190 : decode cL_law 190 = .ok (.aload_n 0, 1) := by decide +kernel
theorem dL_law_191 : decode cL_law 191 = .ok (.iload_n 3, 1) := by decide +kernel
theorem dL_law_192 : decode cL_law 192 = .ok (.iconst 2, 1) := by decide +kernel
theorem dL_law_193 : decode cL_law 193 = .ok (.iadd, 1) := by decide +kernel
theorem dL_law_194 : decode cL_law 194 = .ok (.iaload, 1) := by decide +kernel
theorem dL_law_195 : decode cL_law 195 = .ok (.aload_n 0, 1) := by decide +kernel
theorem dL_law_196 : decode cL_law 196 = .ok (.iload_n 3, 1) := by decide +kernel
theorem dL_law_197 : decode cL_law 197 = .ok (.iconst 3, 1) := by decide +kernel
theorem dL_law_198 : decode cL_law 198 = .ok (.iadd, 1) := by decide +kernel
theorem dL_law_199 : decode cL_law 199 = .ok (.iaload, 1) := by decide +kernel
theorem dL_law_200 : decode cL_law 200 = .ok (.aload_n 0, 1) := by decide +kernel
theorem dL_law_201 : decode cL_law 201 = .ok (.iload_n 3, 1) := by decide +kernel
theorem dL_law_202 : decode cL_law 202 = .ok (.iconst 4, 1) := by decide +kernel
theorem dL_law_203 : decode cL_law 203 = .ok (.iadd, 1) := by decide +kernel
theorem dL_law_204 : decode cL_law 204 = .ok (.iaload, 1) := by decide +kernel
theorem dL_law_205 : decode cL_law 205 = .ok (.ifCond .eq 7, 3) := by decide +kernel
theorem dL_law_208 : decode cL_law 208 = .ok (.iconst 1, 1) := by decide +kernel
theorem dL_law_209 : decode cL_law 209 = .ok (.goto 4, 3) := by decide +kernel
theorem dL_law_212 : decode cL_law 212 = .ok (.iconst 0, 1) := by decide +kernel
theorem dL_law_213 : decode cL_law 213 = .ok (.invokevirtual 17, 3) := by decide +kernel
theorem dL_law_216 : decode cL_law 216 = .ok (.if_icmp .eq 865, 3) := by decide +kernel
theorem dL_law_219 : decode cL_law 219 = .ok (.iconst 0, 1) := by decide +kernel
theorem dL_law_220 : decode cL_law 220 = .ok (.ireturn, 1) := by decide +kernel
theorem dL_law_221 : decode cL_law 221 = .ok (.aload_n 1, 1) := by decide +kernel
theorem dL_law_222 : decode cL_law 222 = .ok (.aload_n 0, 1) := by decide +kernel
theorem dL_law_223 : decode cL_law 223 = .ok (.iload_n 3, 1) := by decide +kernel
theorem dL_law_224 : decode cL_law 224 = .ok (.iconst 1, 1) := by decide +kernel
theorem dL_law_225 : decode cL_law 225 = .ok (.iadd, 1) := by decide +kernel
theorem dL_law_226 : decode cL_law 226 = .ok (.iaload, 1) := by decide +kernel
theorem dL_law_227 : decode cL_law 227 = .ok (.aload_n 0, 1) := by decide +kernel
theorem dL_law_228 : decode cL_law 228 = .ok (.iload_n 3, 1) := by decide +kernel
theorem dL_law_229 : decode cL_law 229 = .ok (.iconst 2, 1) := by decide +kernel
theorem dL_law_230 : decode cL_law 230 = .ok (.iadd, 1) := by decide +kernel
theorem dL_law_231 : decode cL_law 231 = .ok (.iaload, 1) := by decide +kernel
theorem dL_law_232 : decode cL_law 232 = .ok (.ifCond .eq 7, 3) := by decide +kernel
theorem dL_law_235 : decode cL_law 235 = .ok (.iconst 1, 1) := by decide +kernel
theorem dL_law_236 : decode cL_law 236 = .ok (.goto 4, 3) := by decide +kernel
theorem dL_law_239 : decode cL_law 239 = .ok (.iconst 0, 1) := by decide +kernel
theorem dL_law_240 : decode cL_law 240 = .ok (.invokevirtual 18, 3) := by decide +kernel
theorem dL_law_243 : decode cL_law 243 = .ok (.aload_n 2, 1) := by decide +kernel
theorem dL_law_244 : decode cL_law 244 = .ok (.aload_n 0, 1) := by decide +kernel
theorem dL_law_245 : decode cL_law 245 = .ok (.iload_n 3, 1) := by decide +kernel
theorem dL_law_246 : decode cL_law 246 = .ok (.iconst 1, 1) := by decide +kernel
theorem dL_law_247 : decode cL_law 247 = .ok (.iadd, 1) := by decide +kernel
theorem dL_law_248 : decode cL_law 248 = .ok (.iaload, 1) := by decide +kernel
theorem dL_law_249 : decode cL_law 249 = .ok (.aload_n 0, 1) := by decide +kernel
theorem dL_law_250 : decode cL_law 250 = .ok (.iload_n 3, 1) := by decide +kernel
theorem dL_law_251 : decode cL_law 251 = .ok (.iconst 2, 1) := by decide +kernel
theorem dL_law_252 : decode cL_law 252 = .ok (.iadd, 1) := by decide +kernel
theorem dL_law_253 : decode cL_law 253 = .ok (.iaload, 1) := by decide +kernel
theorem dL_law_254 : decode cL_law 254 = .ok (.ifCond .eq 7, 3) := by decide +kernel
theorem dL_law_257 : decode cL_law 257 = .ok (.iconst 1, 1) := by decide +kernel
theorem dL_law_258 : decode cL_law 258 = .ok (.goto 4, 3) := by decide +kernel
theorem dL_law_261 : decode cL_law 261 = .ok (.iconst 0, 1) := by decide +kernel
theorem dL_law_262 : decode cL_law 262 = .ok (.invokevirtual 22, 3) := by decide +kernel
theorem dL_law_265 : decode cL_law 265 = .ok (.if_icmp .eq 816, 3) := by decide +kernel
theorem dL_law_268 : decode cL_law 268 = .ok (.iconst 0, 1) := by decide +kernel
theorem dL_law_269 : decode cL_law 269 = .ok (.ireturn, 1) := by decide +kernel
theorem dL_law_270 : decode cL_law 270 = .ok (.aload_n 1, 1) := by decide +kernel
theorem dL_law_271 : decode cL_law 271 = .ok (.aload_n 0, 1) := by decide +kernel
theorem dL_law_272 : decode cL_law 272 = .ok (.iload_n 3, 1) := by decide +kernel
theorem dL_law_273 : decode cL_law 273 = .ok (.iconst 1, 1) := by decide +kernel
theorem dL_law_274 : decode cL_law 274 = .ok (.iadd, 1) := by decide +kernel
theorem dL_law_275 : decode cL_law 275 = .ok (.iaload, 1) := by decide +kernel
theorem dL_law_276 : decode cL_law 276 = .ok (.invokevirtual 23, 3) := by decide +kernel
theorem dL_law_279 : decode cL_law 279 = .ok (.aload_n 2, 1) := by decide +kernel
theorem dL_law_280 : decode cL_law 280 = .ok (.aload_n 0, 1) := by decide +kernel
theorem dL_law_281 : decode cL_law 281 = .ok (.iload_n 3, 1) := by decide +kernel
theorem dL_law_282 : decode cL_law 282 = .ok (.iconst 1, 1) := by decide +kernel
theorem dL_law_283 : decode cL_law 283 = .ok (.iadd, 1) := by decide +kernel
theorem dL_law_284 : decode cL_law 284 = .ok (.iaload, 1) := by decide +kernel
theorem dL_law_285 : decode cL_law 285 = .ok (.invokevirtual 27, 3) := by decide +kernel
theorem dL_law_288 : decode cL_law 288 = .ok (.if_icmp .eq 793, 3) := by decide +kernel
theorem dL_law_291 : decode cL_law 291 = .ok (.iconst 0, 1) := by decide +kernel
theorem dL_law_292 : decode cL_law 292 = .ok (.ireturn, 1) := by decide +kernel
theorem dL_law_293 : decode cL_law 293 = .ok (.aload_n 1, 1) := by decide +kernel
theorem dL_law_294 : decode cL_law 294 = .ok (.aload_n 0, 1) := by decide +kernel
theorem dL_law_295 : decode cL_law 295 = .ok (.iload_n 3, 1) := by decide +kernel
theorem dL_law_296 : decode cL_law 296 = .ok (.iconst 1, 1) := by decide +kernel
theorem dL_law_297 : decode cL_law 297 = .ok (.iadd, 1) := by decide +kernel
theorem dL_law_298 : decode cL_law 298 = .ok (.iaload, 1) := by decide +kernel
theorem dL_law_299 : decode cL_law 299 = .ok (.invokevirtual 28, 3) := by decide +kernel
theorem dL_law_302 : decode cL_law 302 = .ok (.aload_n 2, 1) := by decide +kernel
theorem dL_law_303 : decode cL_law 303 = .ok (.aload_n 0, 1) := by decide +kernel
theorem dL_law_304 : decode cL_law 304 = .ok (.iload_n 3, 1) := by decide +kernel
theorem dL_law_305 : decode cL_law 305 = .ok (.iconst 1, 1) := by decide +kernel
theorem dL_law_306 : decode cL_law 306 = .ok (.iadd, 1) := by decide +kernel
theorem dL_law_307 : decode cL_law 307 = .ok (.iaload, 1) := by decide +kernel
theorem dL_law_308 : decode cL_law 308 = .ok (.invokevirtual 31, 3) := by decide +kernel
theorem dL_law_311 : decode cL_law 311 = .ok (.if_icmp .eq 770, 3) := by decide +kernel
theorem dL_law_314 : decode cL_law 314 = .ok (.iconst 0, 1) := by decide +kernel
theorem dL_law_315 : decode cL_law 315 = .ok (.ireturn, 1) := by decide +kernel
theorem dL_law_316 : decode cL_law 316 = .ok (.aload_n 1, 1) := by decide +kernel
theorem dL_law_317 : decode cL_law 317 = .ok (.aload_n 0, 1) := by decide +kernel
theorem dL_law_318 : decode cL_law 318 = .ok (.iload_n 3, 1) := by decide +kernel
theorem dL_law_319 : decode cL_law 319 = .ok (.iconst 1, 1) := by decide +kernel
theorem dL_law_320 : decode cL_law 320 = .ok (.iadd, 1) := by decide +kernel
theorem dL_law_321 : decode cL_law 321 = .ok (.iaload, 1) := by decide +kernel
theorem dL_law_322 : decode cL_law 322 = .ok (.aload_n 0, 1) := by decide +kernel
theorem dL_law_323 : decode cL_law 323 = .ok (.iload_n 3, 1) := by decide +kernel
theorem dL_law_324 : decode cL_law 324 = .ok (.iconst 2, 1) := by decide +kernel
theorem dL_law_325 : decode cL_law 325 = .ok (.iadd, 1) := by decide +kernel
theorem dL_law_326 : decode cL_law 326 = .ok (.iaload, 1) := by decide +kernel
theorem dL_law_327 : decode cL_law 327 = .ok (.i2l, 1) := by decide +kernel
theorem dL_law_328 : decode cL_law 328 = .ok (.bipush 32, 2) := by decide +kernel
theorem dL_law_330 : decode cL_law 330 = .ok (.lshl, 1) := by decide +kernel
theorem dL_law_331 : decode cL_law 331 = .ok (.aload_n 0, 1) := by decide +kernel
theorem dL_law_332 : decode cL_law 332 = .ok (.iload_n 3, 1) := by decide +kernel
theorem dL_law_333 : decode cL_law 333 = .ok (.iconst 3, 1) := by decide +kernel
theorem dL_law_334 : decode cL_law 334 = .ok (.iadd, 1) := by decide +kernel
theorem dL_law_335 : decode cL_law 335 = .ok (.iaload, 1) := by decide +kernel
theorem dL_law_336 : decode cL_law 336 = .ok (.i2l, 1) := by decide +kernel
theorem dL_law_337 : decode cL_law 337 = .ok (.ldc2_w 32, 3) := by decide +kernel
theorem dL_law_340 : decode cL_law 340 = .ok (.land, 1) := by decide +kernel
theorem dL_law_341 : decode cL_law 341 = .ok (.lor, 1) := by decide +kernel
theorem dL_law_342 : decode cL_law 342 = .ok (.invokevirtual 34, 3) := by decide +kernel
theorem dL_law_345 : decode cL_law 345 = .ok (.aload_n 2, 1) := by decide +kernel
theorem dL_law_346 : decode cL_law 346 = .ok (.aload_n 0, 1) := by decide +kernel
theorem dL_law_347 : decode cL_law 347 = .ok (.iload_n 3, 1) := by decide +kernel
theorem dL_law_348 : decode cL_law 348 = .ok (.iconst 1, 1) := by decide +kernel
theorem dL_law_349 : decode cL_law 349 = .ok (.iadd, 1) := by decide +kernel
theorem dL_law_350 : decode cL_law 350 = .ok (.iaload, 1) := by decide +kernel
theorem dL_law_351 : decode cL_law 351 = .ok (.aload_n 0, 1) := by decide +kernel
theorem dL_law_352 : decode cL_law 352 = .ok (.iload_n 3, 1) := by decide +kernel
theorem dL_law_353 : decode cL_law 353 = .ok (.iconst 2, 1) := by decide +kernel
theorem dL_law_354 : decode cL_law 354 = .ok (.iadd, 1) := by decide +kernel
theorem dL_law_355 : decode cL_law 355 = .ok (.iaload, 1) := by decide +kernel
theorem dL_law_356 : decode cL_law 356 = .ok (.i2l, 1) := by decide +kernel
theorem dL_law_357 : decode cL_law 357 = .ok (.bipush 32, 2) := by decide +kernel
theorem dL_law_359 : decode cL_law 359 = .ok (.lshl, 1) := by decide +kernel
theorem dL_law_360 : decode cL_law 360 = .ok (.aload_n 0, 1) := by decide +kernel
theorem dL_law_361 : decode cL_law 361 = .ok (.iload_n 3, 1) := by decide +kernel
theorem dL_law_362 : decode cL_law 362 = .ok (.iconst 3, 1) := by decide +kernel
theorem dL_law_363 : decode cL_law 363 = .ok (.iadd, 1) := by decide +kernel
theorem dL_law_364 : decode cL_law 364 = .ok (.iaload, 1) := by decide +kernel
theorem dL_law_365 : decode cL_law 365 = .ok (.i2l, 1) := by decide +kernel
theorem dL_law_366 : decode cL_law 366 = .ok (.ldc2_w 32, 3) := by decide +kernel
theorem dL_law_369 : decode cL_law 369 = .ok (.land, 1) := by decide +kernel
theorem dL_law_370 : decode cL_law 370 = .ok (.lor, 1) := by decide +kernel
theorem dL_law_371 : decode cL_law 371 = .ok (.invokevirtual 38, 3) := by decide +kernel
theorem dL_law_374 : decode cL_law 374 = .ok (.if_icmp .eq 707, 3) := by decide +kernel
theorem dL_law_377 : decode cL_law 377 = .ok (.iconst 0, 1) := by decide +kernel
theorem dL_law_378 : decode cL_law 378 = .ok (.ireturn, 1) := by decide +kernel
theorem dL_law_379 : decode cL_law 379 = .ok (.aload_n 1, 1) := by decide +kernel
theorem dL_law_380 : decode cL_law 380 = .ok (.invokevirtual 39, 3) := by decide +kernel
theorem dL_law_383 : decode cL_law 383 = .ok (.aload_n 2, 1) := by decide +kernel
theorem dL_law_384 : decode cL_law 384 = .ok (.invokevirtual 43, 3) := by decide +kernel
theorem dL_law_387 : decode cL_law 387 = .ok (.if_icmp .eq 694, 3) := by decide +kernel
theorem dL_law_390 : decode cL_law 390 = .ok (.iconst 0, 1) := by decide +kernel
theorem dL_law_391 : decode cL_law 391 = .ok (.ireturn, 1) := by decide +kernel
theorem dL_law_392 : decode cL_law 392 = .ok (.aload_n 1, 1) := by decide +kernel
theorem dL_law_393 : decode cL_law 393 = .ok (.aload_n 0, 1) := by decide +kernel
theorem dL_law_394 : decode cL_law 394 = .ok (.iload_n 3, 1) := by decide +kernel
theorem dL_law_395 : decode cL_law 395 = .ok (.iconst 1, 1) := by decide +kernel
theorem dL_law_396 : decode cL_law 396 = .ok (.iadd, 1) := by decide +kernel
theorem dL_law_397 : decode cL_law 397 = .ok (.iaload, 1) := by decide +kernel
theorem dL_law_398 : decode cL_law 398 = .ok (.aload_n 0, 1) := by decide +kernel
theorem dL_law_399 : decode cL_law 399 = .ok (.iload_n 3, 1) := by decide +kernel
theorem dL_law_400 : decode cL_law 400 = .ok (.iconst 2, 1) := by decide +kernel
theorem dL_law_401 : decode cL_law 401 = .ok (.iadd, 1) := by decide +kernel
theorem dL_law_402 : decode cL_law 402 = .ok (.iaload, 1) := by decide +kernel
theorem dL_law_403 : decode cL_law 403 = .ok (.invokevirtual 44, 3) := by decide +kernel
theorem dL_law_406 : decode cL_law 406 = .ok (.aload_n 2, 1) := by decide +kernel
theorem dL_law_407 : decode cL_law 407 = .ok (.aload_n 0, 1) := by decide +kernel
theorem dL_law_408 : decode cL_law 408 = .ok (.iload_n 3, 1) := by decide +kernel
theorem dL_law_409 : decode cL_law 409 = .ok (.iconst 1, 1) := by decide +kernel
theorem dL_law_410 : decode cL_law 410 = .ok (.iadd, 1) := by decide +kernel
theorem dL_law_411 : decode cL_law 411 = .ok (.iaload, 1) := by decide +kernel
theorem dL_law_412 : decode cL_law 412 = .ok (.aload_n 0, 1) := by decide +kernel
theorem dL_law_413 : decode cL_law 413 = .ok (.iload_n 3, 1) := by decide +kernel
theorem dL_law_414 : decode cL_law 414 = .ok (.iconst 2, 1) := by decide +kernel
theorem dL_law_415 : decode cL_law 415 = .ok (.iadd, 1) := by decide +kernel
theorem dL_law_416 : decode cL_law 416 = .ok (.iaload, 1) := by decide +kernel
theorem dL_law_417 : decode cL_law 417 = .ok (.invokevirtual 48, 3) := by decide +kernel
theorem dL_law_420 : decode cL_law 420 = .ok (.if_icmp .eq 661, 3) := by decide +kernel
theorem dL_law_423 : decode cL_law 423 = .ok (.iconst 0, 1) := by decide +kernel
theorem dL_law_424 : decode cL_law 424 = .ok (.ireturn, 1) := by decide +kernel
theorem dL_law_425 : decode cL_law 425 = .ok (.aload_n 1, 1) := by decide +kernel
theorem dL_law_426 : decode cL_law 426 = .ok (.aload_n 0, 1) := by decide +kernel
theorem dL_law_427 : decode cL_law 427 = .ok (.iload_n 3, 1) := by decide +kernel
theorem dL_law_428 : decode cL_law 428 = .ok (.iconst 1, 1) := by decide +kernel
theorem dL_law_429 : decode cL_law 429 = .ok (.iadd, 1) := by decide +kernel
theorem dL_law_430 : decode cL_law 430 = .ok (.iaload, 1) := by decide +kernel
theorem dL_law_431 : decode cL_law 431 = .ok (.aload_n 0, 1) := by decide +kernel
theorem dL_law_432 : decode cL_law 432 = .ok (.iload_n 3, 1) := by decide +kernel
theorem dL_law_433 : decode cL_law 433 = .ok (.iconst 2, 1) := by decide +kernel
theorem dL_law_434 : decode cL_law 434 = .ok (.iadd, 1) := by decide +kernel
theorem dL_law_435 : decode cL_law 435 = .ok (.iaload, 1) := by decide +kernel
theorem dL_law_436 : decode cL_law 436 = .ok (.invokevirtual 49, 3) := by decide +kernel
theorem dL_law_439 : decode cL_law 439 = .ok (.aload_n 2, 1) := by decide +kernel
theorem dL_law_440 : decode cL_law 440 = .ok (.aload_n 0, 1) := by decide +kernel
theorem dL_law_441 : decode cL_law 441 = .ok (.iload_n 3, 1) := by decide +kernel
theorem dL_law_442 : decode cL_law 442 = .ok (.iconst 1, 1) := by decide +kernel
theorem dL_law_443 : decode cL_law 443 = .ok (.iadd, 1) := by decide +kernel
theorem dL_law_444 : decode cL_law 444 = .ok (.iaload, 1) := by decide +kernel
theorem dL_law_445 : decode cL_law 445 = .ok (.aload_n 0, 1) := by decide +kernel
theorem dL_law_446 : decode cL_law 446 = .ok (.iload_n 3, 1) := by decide +kernel
theorem dL_law_447 : decode cL_law 447 = .ok (.iconst 2, 1) := by decide +kernel
theorem dL_law_448 : decode cL_law 448 = .ok (.iadd, 1) := by decide +kernel
theorem dL_law_449 : decode cL_law 449 = .ok (.iaload, 1) := by decide +kernel
theorem dL_law_450 : decode cL_law 450 = .ok (.invokevirtual 52, 3) := by decide +kernel
theorem dL_law_453 : decode cL_law 453 = .ok (.if_icmp .eq 628, 3) := by decide +kernel
theorem dL_law_456 : decode cL_law 456 = .ok (.iconst 0, 1) := by decide +kernel
theorem dL_law_457 : decode cL_law 457 = .ok (.ireturn, 1) := by decide +kernel
theorem dL_law_458 : decode cL_law 458 = .ok (.aload_n 1, 1) := by decide +kernel
theorem dL_law_459 : decode cL_law 459 = .ok (.invokevirtual 53, 3) := by decide +kernel
theorem dL_law_462 : decode cL_law 462 = .ok (.aload_n 2, 1) := by decide +kernel
theorem dL_law_463 : decode cL_law 463 = .ok (.invokevirtual 56, 3) := by decide +kernel
theorem dL_law_466 : decode cL_law 466 = .ok (.if_icmp .eq 615, 3) := by decide +kernel
theorem dL_law_469 : decode cL_law 469 = .ok (.iconst 0, 1) := by decide +kernel
theorem dL_law_470 : decode cL_law 470 = .ok (.ireturn, 1) := by decide +kernel
theorem dL_law_471 : decode cL_law 471 = .ok (.aload_n 1, 1) := by decide +kernel
theorem dL_law_472 : decode cL_law 472 = .ok (.invokevirtual 57, 3) := by decide +kernel
theorem dL_law_475 : decode cL_law 475 = .ok (.aload_n 2, 1) := by decide +kernel
theorem dL_law_476 : decode cL_law 476 = .ok (.invokevirtual 60, 3) := by decide +kernel
theorem dL_law_479 : decode cL_law 479 = .ok (.if_icmp .eq 602, 3) := by decide +kernel
theorem dL_law_482 : decode cL_law 482 = .ok (.iconst 0, 1) := by decide +kernel
theorem dL_law_483 : decode cL_law 483 = .ok (.ireturn, 1) := by decide +kernel
theorem dL_law_484 : decode cL_law 484 = .ok (.aload_n 1, 1) := by decide +kernel
theorem dL_law_485 : decode cL_law 485 = .ok (.aload_n 0, 1) := by decide +kernel
theorem dL_law_486 : decode cL_law 486 = .ok (.iload_n 3, 1) := by decide +kernel
theorem dL_law_487 : decode cL_law 487 = .ok (.iconst 1, 1) := by decide +kernel
theorem dL_law_488 : decode cL_law 488 = .ok (.iadd, 1) := by decide +kernel
theorem dL_law_489 : decode cL_law 489 = .ok (.iaload, 1) := by decide +kernel
theorem dL_law_490 : decode cL_law 490 = .ok (.aload_n 0, 1) := by decide +kernel
theorem dL_law_491 : decode cL_law 491 = .ok (.iload_n 3, 1) := by decide +kernel
theorem dL_law_492 : decode cL_law 492 = .ok (.iconst 2, 1) := by decide +kernel
theorem dL_law_493 : decode cL_law 493 = .ok (.iadd, 1) := by decide +kernel
theorem dL_law_494 : decode cL_law 494 = .ok (.iaload, 1) := by decide +kernel
theorem dL_law_495 : decode cL_law 495 = .ok (.i2l, 1) := by decide +kernel
theorem dL_law_496 : decode cL_law 496 = .ok (.bipush 32, 2) := by decide +kernel
theorem dL_law_498 : decode cL_law 498 = .ok (.lshl, 1) := by decide +kernel
theorem dL_law_499 : decode cL_law 499 = .ok (.aload_n 0, 1) := by decide +kernel
theorem dL_law_500 : decode cL_law 500 = .ok (.iload_n 3, 1) := by decide +kernel
theorem dL_law_501 : decode cL_law 501 = .ok (.iconst 3, 1) := by decide +kernel
theorem dL_law_502 : decode cL_law 502 = .ok (.iadd, 1) := by decide +kernel
theorem dL_law_503 : decode cL_law 503 = .ok (.iaload, 1) := by decide +kernel
theorem dL_law_504 : decode cL_law 504 = .ok (.i2l, 1) := by decide +kernel
theorem dL_law_505 : decode cL_law 505 = .ok (.ldc2_w 32, 3) := by decide +kernel
theorem dL_law_508 : decode cL_law 508 = .ok (.land, 1) := by decide +kernel
theorem dL_law_509 : decode cL_law 509 = .ok (.lor, 1) := by decide +kernel
theorem dL_law_510 : decode cL_law 510 = .ok (.aload_n 0, 1) := by decide +kernel
theorem dL_law_511 : decode cL_law 511 = .ok (.iload_n 3, 1) := by decide +kernel
theorem dL_law_512 : decode cL_law 512 = .ok (.iconst 4, 1) := by decide +kernel
theorem dL_law_513 : decode cL_law 513 = .ok (.iadd, 1) := by decide +kernel
theorem dL_law_514 : decode cL_law 514 = .ok (.iaload, 1) := by decide +kernel
theorem dL_law_515 : decode cL_law 515 = .ok (.aload_n 0, 1) := by decide +kernel
theorem dL_law_516 : decode cL_law 516 = .ok (.iload_n 3, 1) := by decide +kernel
theorem dL_law_517 : decode cL_law 517 = .ok (.iconst 5, 1) := by decide +kernel
theorem dL_law_518 : decode cL_law 518 = .ok (.iadd, 1) := by decide +kernel
theorem dL_law_519 : decode cL_law 519 = .ok (.iaload, 1) := by decide +kernel
theorem dL_law_520 : decode cL_law 520 = .ok (.invokevirtual 61, 3) := by decide +kernel
theorem dL_law_523 : decode cL_law 523 = .ok (.aload_n 2, 1) := by decide +kernel
theorem dL_law_524 : decode cL_law 524 = .ok (.aload_n 0, 1) := by decide +kernel
theorem dL_law_525 : decode cL_law 525 = .ok (.iload_n 3, 1) := by decide +kernel
theorem dL_law_526 : decode cL_law 526 = .ok (.iconst 1, 1) := by decide +kernel
theorem dL_law_527 : decode cL_law 527 = .ok (.iadd, 1) := by decide +kernel
theorem dL_law_528 : decode cL_law 528 = .ok (.iaload, 1) := by decide +kernel
theorem dL_law_529 : decode cL_law 529 = .ok (.aload_n 0, 1) := by decide +kernel
theorem dL_law_530 : decode cL_law 530 = .ok (.iload_n 3, 1) := by decide +kernel
theorem dL_law_531 : decode cL_law 531 = .ok (.iconst 2, 1) := by decide +kernel
theorem dL_law_532 : decode cL_law 532 = .ok (.iadd, 1) := by decide +kernel
theorem dL_law_533 : decode cL_law 533 = .ok (.iaload, 1) := by decide +kernel
theorem dL_law_534 : decode cL_law 534 = .ok (.i2l, 1) := by decide +kernel
theorem dL_law_535 : decode cL_law 535 = .ok (.bipush 32, 2) := by decide +kernel
theorem dL_law_537 : decode cL_law 537 = .ok (.lshl, 1) := by decide +kernel
theorem dL_law_538 : decode cL_law 538 = .ok (.aload_n 0, 1) := by decide +kernel
theorem dL_law_539 : decode cL_law 539 = .ok (.iload_n 3, 1) := by decide +kernel
theorem dL_law_540 : decode cL_law 540 = .ok (.iconst 3, 1) := by decide +kernel
theorem dL_law_541 : decode cL_law 541 = .ok (.iadd, 1) := by decide +kernel
theorem dL_law_542 : decode cL_law 542 = .ok (.iaload, 1) := by decide +kernel
theorem dL_law_543 : decode cL_law 543 = .ok (.i2l, 1) := by decide +kernel
theorem dL_law_544 : decode cL_law 544 = .ok (.ldc2_w 32, 3) := by decide +kernel
theorem dL_law_547 : decode cL_law 547 = .ok (.land, 1) := by decide +kernel
theorem dL_law_548 : decode cL_law 548 = .ok (.lor, 1) := by decide +kernel
theorem dL_law_549 : decode cL_law 549 = .ok (.aload_n 0, 1) := by decide +kernel
theorem dL_law_550 : decode cL_law 550 = .ok (.iload_n 3, 1) := by decide +kernel
theorem dL_law_551 : decode cL_law 551 = .ok (.iconst 4, 1) := by decide +kernel
theorem dL_law_552 : decode cL_law 552 = .ok (.iadd, 1) := by decide +kernel
theorem dL_law_553 : decode cL_law 553 = .ok (.iaload, 1) := by decide +kernel
theorem dL_law_554 : decode cL_law 554 = .ok (.aload_n 0, 1) := by decide +kernel
theorem dL_law_555 : decode cL_law 555 = .ok (.iload_n 3, 1) := by decide +kernel
theorem dL_law_556 : decode cL_law 556 = .ok (.iconst 5, 1) := by decide +kernel
theorem dL_law_557 : decode cL_law 557 = .ok (.iadd, 1) := by decide +kernel
theorem dL_law_558 : decode cL_law 558 = .ok (.iaload, 1) := by decide +kernel
theorem dL_law_559 : decode cL_law 559 = .ok (.invokevirtual 65, 3) := by decide +kernel
theorem dL_law_562 : decode cL_law 562 = .ok (.if_icmp .eq 519, 3) := by decide +kernel
theorem dL_law_565 : decode cL_law 565 = .ok (.iconst 0, 1) := by decide +kernel
theorem dL_law_566 : decode cL_law 566 = .ok (.ireturn, 1) := by decide +kernel
theorem dL_law_567 : decode cL_law 567 = .ok (.aload_n 1, 1) := by decide +kernel
theorem dL_law_568 : decode cL_law 568 = .ok (.invokevirtual 66, 3) := by decide +kernel
theorem dL_law_571 : decode cL_law 571 = .ok (.aload_n 2, 1) := by decide +kernel
theorem dL_law_572 : decode cL_law 572 = .ok (.invokevirtual 69, 3) := by decide +kernel
theorem dL_law_575 : decode cL_law 575 = .ok (.if_icmp .eq 506, 3) := by decide +kernel
theorem dL_law_578 : decode cL_law 578 = .ok (.iconst 0, 1) := by decide +kernel
theorem dL_law_579 : decode cL_law 579 = .ok (.ireturn, 1) := by decide +kernel
theorem dL_law_580 : decode cL_law 580 = .ok (.aload_n 1, 1) := by decide +kernel
theorem dL_law_581 : decode cL_law 581 = .ok (.aload_n 0, 1) := by decide +kernel
theorem dL_law_582 : decode cL_law 582 = .ok (.iload_n 3, 1) := by decide +kernel
theorem dL_law_583 : decode cL_law 583 = .ok (.iconst 1, 1) := by decide +kernel
theorem dL_law_584 : decode cL_law 584 = .ok (.iadd, 1) := by decide +kernel
theorem dL_law_585 : decode cL_law 585 = .ok (.iaload, 1) := by decide +kernel
theorem dL_law_586 : decode cL_law 586 = .ok (.aload_n 0, 1) := by decide +kernel
theorem dL_law_587 : decode cL_law 587 = .ok (.iload_n 3, 1) := by decide +kernel
theorem dL_law_588 : decode cL_law 588 = .ok (.iconst 2, 1) := by decide +kernel
theorem dL_law_589 : decode cL_law 589 = .ok (.iadd, 1) := by decide +kernel
theorem dL_law_590 : decode cL_law 590 = .ok (.iaload, 1) := by decide +kernel
theorem dL_law_591 : decode cL_law 591 = .ok (.invokevirtual 70, 3) := by decide +kernel
theorem dL_law_594 : decode cL_law 594 = .ok (.aload_n 2, 1) := by decide +kernel
theorem dL_law_595 : decode cL_law 595 = .ok (.aload_n 0, 1) := by decide +kernel
theorem dL_law_596 : decode cL_law 596 = .ok (.iload_n 3, 1) := by decide +kernel
theorem dL_law_597 : decode cL_law 597 = .ok (.iconst 1, 1) := by decide +kernel
theorem dL_law_598 : decode cL_law 598 = .ok (.iadd, 1) := by decide +kernel
theorem dL_law_599 : decode cL_law 599 = .ok (.iaload, 1) := by decide +kernel
theorem dL_law_600 : decode cL_law 600 = .ok (.aload_n 0, 1) := by decide +kernel
theorem dL_law_601 : decode cL_law 601 = .ok (.iload_n 3, 1) := by decide +kernel
theorem dL_law_602 : decode cL_law 602 = .ok (.iconst 2, 1) := by decide +kernel
theorem dL_law_603 : decode cL_law 603 = .ok (.iadd, 1) := by decide +kernel
theorem dL_law_604 : decode cL_law 604 = .ok (.iaload, 1) := by decide +kernel
theorem dL_law_605 : decode cL_law 605 = .ok (.invokevirtual 73, 3) := by decide +kernel
theorem dL_law_608 : decode cL_law 608 = .ok (.if_icmp .eq 473, 3) := by decide +kernel
theorem dL_law_611 : decode cL_law 611 = .ok (.iconst 0, 1) := by decide +kernel
theorem dL_law_612 : decode cL_law 612 = .ok (.ireturn, 1) := by decide +kernel
theorem dL_law_613 : decode cL_law 613 = .ok (.aload_n 1, 1) := by decide +kernel
theorem dL_law_614 : decode cL_law 614 = .ok (.invokevirtual 74, 3) := by decide +kernel
theorem dL_law_617 : decode cL_law 617 = .ok (.aload_n 2, 1) := by decide +kernel
theorem dL_law_618 : decode cL_law 618 = .ok (.invokevirtual 77, 3) := by decide +kernel
theorem dL_law_621 : decode cL_law 621 = .ok (.if_icmp .eq 460, 3) := by decide +kernel
theorem dL_law_624 : decode cL_law 624 = .ok (.iconst 0, 1) := by decide +kernel
theorem dL_law_625 : decode cL_law 625 = .ok (.ireturn, 1) := by decide +kernel
theorem dL_law_626 : decode cL_law 626 = .ok (.aload_n 1, 1) := by decide +kernel
theorem dL_law_627 : decode cL_law 627 = .ok (.aload_n 0, 1) := by decide +kernel
theorem dL_law_628 : decode cL_law 628 = .ok (.iload_n 3, 1) := by decide +kernel
theorem dL_law_629 : decode cL_law 629 = .ok (.iconst 1, 1) := by decide +kernel
theorem dL_law_630 : decode cL_law 630 = .ok (.iadd, 1) := by decide +kernel
theorem dL_law_631 : decode cL_law 631 = .ok (.iaload, 1) := by decide +kernel
theorem dL_law_632 : decode cL_law 632 = .ok (.invokevirtual 78, 3) := by decide +kernel
theorem dL_law_635 : decode cL_law 635 = .ok (.aload_n 2, 1) := by decide +kernel
theorem dL_law_636 : decode cL_law 636 = .ok (.aload_n 0, 1) := by decide +kernel
theorem dL_law_637 : decode cL_law 637 = .ok (.iload_n 3, 1) := by decide +kernel
theorem dL_law_638 : decode cL_law 638 = .ok (.iconst 1, 1) := by decide +kernel
theorem dL_law_639 : decode cL_law 639 = .ok (.iadd, 1) := by decide +kernel
theorem dL_law_640 : decode cL_law 640 = .ok (.iaload, 1) := by decide +kernel
theorem dL_law_641 : decode cL_law 641 = .ok (.invokevirtual 81, 3) := by decide +kernel
theorem dL_law_644 : decode cL_law 644 = .ok (.if_icmp .eq 437, 3) := by decide +kernel
theorem dL_law_647 : decode cL_law 647 = .ok (.iconst 0, 1) := by decide +kernel
theorem dL_law_648 : decode cL_law 648 = .ok (.ireturn, 1) := by decide +kernel
theorem dL_law_649 : decode cL_law 649 = .ok (.aload_n 1, 1) := by decide +kernel
theorem dL_law_650 : decode cL_law 650 = .ok (.aload_n 0, 1) := by decide +kernel
theorem dL_law_651 : decode cL_law 651 = .ok (.iload_n 3, 1) := by decide +kernel
theorem dL_law_652 : decode cL_law 652 = .ok (.iconst 1, 1) := by decide +kernel
theorem dL_law_653 : decode cL_law 653 = .ok (.iadd, 1) := by decide +kernel
theorem dL_law_654 : decode cL_law 654 = .ok (.iaload, 1) := by decide +kernel
theorem dL_law_655 : decode cL_law 655 = .ok (.aload_n 0, 1) := by decide +kernel
theorem dL_law_656 : decode cL_law 656 = .ok (.iload_n 3, 1) := by decide +kernel
theorem dL_law_657 : decode cL_law 657 = .ok (.iconst 2, 1) := by decide +kernel
theorem dL_law_658 : decode cL_law 658 = .ok (.iadd, 1) := by decide +kernel
theorem dL_law_659 : decode cL_law 659 = .ok (.iaload, 1) := by decide +kernel
theorem dL_law_660 : decode cL_law 660 = .ok (.invokevirtual 82, 3) := by decide +kernel
theorem dL_law_663 : decode cL_law 663 = .ok (.aload_n 2, 1) := by decide +kernel
theorem dL_law_664 : decode cL_law 664 = .ok (.aload_n 0, 1) := by decide +kernel
theorem dL_law_665 : decode cL_law 665 = .ok (.iload_n 3, 1) := by decide +kernel
theorem dL_law_666 : decode cL_law 666 = .ok (.iconst 1, 1) := by decide +kernel
theorem dL_law_667 : decode cL_law 667 = .ok (.iadd, 1) := by decide +kernel
theorem dL_law_668 : decode cL_law 668 = .ok (.iaload, 1) := by decide +kernel
theorem dL_law_669 : decode cL_law 669 = .ok (.aload_n 0, 1) := by decide +kernel
theorem dL_law_670 : decode cL_law 670 = .ok (.iload_n 3, 1) := by decide +kernel
theorem dL_law_671 : decode cL_law 671 = .ok (.iconst 2, 1) := by decide +kernel
theorem dL_law_672 : decode cL_law 672 = .ok (.iadd, 1) := by decide +kernel
theorem dL_law_673 : decode cL_law 673 = .ok (.iaload, 1) := by decide +kernel
theorem dL_law_674 : decode cL_law 674 = .ok (.invokevirtual 85, 3) := by decide +kernel
theorem dL_law_677 : decode cL_law 677 = .ok (.if_icmp .eq 404, 3) := by decide +kernel
theorem dL_law_680 : decode cL_law 680 = .ok (.iconst 0, 1) := by decide +kernel
theorem dL_law_681 : decode cL_law 681 = .ok (.ireturn, 1) := by decide +kernel
theorem dL_law_682 : decode cL_law 682 = .ok (.aload_n 1, 1) := by decide +kernel
theorem dL_law_683 : decode cL_law 683 = .ok (.aload_n 0, 1) := by decide +kernel
theorem dL_law_684 : decode cL_law 684 = .ok (.iload_n 3, 1) := by decide +kernel
theorem dL_law_685 : decode cL_law 685 = .ok (.iconst 1, 1) := by decide +kernel
theorem dL_law_686 : decode cL_law 686 = .ok (.iadd, 1) := by decide +kernel
theorem dL_law_687 : decode cL_law 687 = .ok (.iaload, 1) := by decide +kernel
theorem dL_law_688 : decode cL_law 688 = .ok (.invokevirtual 86, 3) := by decide +kernel
theorem dL_law_691 : decode cL_law 691 = .ok (.aload_n 2, 1) := by decide +kernel
theorem dL_law_692 : decode cL_law 692 = .ok (.aload_n 0, 1) := by decide +kernel
theorem dL_law_693 : decode cL_law 693 = .ok (.iload_n 3, 1) := by decide +kernel
theorem dL_law_694 : decode cL_law 694 = .ok (.iconst 1, 1) := by decide +kernel
theorem dL_law_695 : decode cL_law 695 = .ok (.iadd, 1) := by decide +kernel
theorem dL_law_696 : decode cL_law 696 = .ok (.iaload, 1) := by decide +kernel
theorem dL_law_697 : decode cL_law 697 = .ok (.invokevirtual 90, 3) := by decide +kernel
theorem dL_law_700 : decode cL_law 700 = .ok (.lcmp, 1) := by decide +kernel
theorem dL_law_701 : decode cL_law 701 = .ok (.ifCond .eq 380, 3) := by decide +kernel
theorem dL_law_704 : decode cL_law 704 = .ok (.iconst 0, 1) := by decide +kernel
theorem dL_law_705 : decode cL_law 705 = .ok (.ireturn, 1) := by decide +kernel
theorem dL_law_706 : decode cL_law 706 = .ok (.aload_n 1, 1) := by decide +kernel
theorem dL_law_707 : decode cL_law 707 = .ok (.aload_n 0, 1) := by decide +kernel
theorem dL_law_708 : decode cL_law 708 = .ok (.iload_n 3, 1) := by decide +kernel
theorem dL_law_709 : decode cL_law 709 = .ok (.iconst 1, 1) := by decide +kernel
theorem dL_law_710 : decode cL_law 710 = .ok (.iadd, 1) := by decide +kernel
theorem dL_law_711 : decode cL_law 711 = .ok (.iaload, 1) := by decide +kernel
theorem dL_law_712 : decode cL_law 712 = .ok (.aload_n 0, 1) := by decide +kernel
theorem dL_law_713 : decode cL_law 713 = .ok (.iload_n 3, 1) := by decide +kernel
theorem dL_law_714 : decode cL_law 714 = .ok (.iconst 2, 1) := by decide +kernel
theorem dL_law_715 : decode cL_law 715 = .ok (.iadd, 1) := by decide +kernel
theorem dL_law_716 : decode cL_law 716 = .ok (.iaload, 1) := by decide +kernel
theorem dL_law_717 : decode cL_law 717 = .ok (.aload_n 0, 1) := by decide +kernel
theorem dL_law_718 : decode cL_law 718 = .ok (.iload_n 3, 1) := by decide +kernel
theorem dL_law_719 : decode cL_law 719 = .ok (.iconst 3, 1) := by decide +kernel
theorem dL_law_720 : decode cL_law 720 = .ok (.iadd, 1) := by decide +kernel
theorem dL_law_721 : decode cL_law 721 = .ok (.iaload, 1) := by decide +kernel
theorem dL_law_722 : decode cL_law 722 = .ok (.invokevirtual 91, 3) := by decide +kernel
theorem dL_law_725 : decode cL_law 725 = .ok (.aload_n 2, 1) := by decide +kernel
theorem dL_law_726 : decode cL_law 726 = .ok (.aload_n 0, 1) := by decide +kernel
theorem dL_law_727 : decode cL_law 727 = .ok (.iload_n 3, 1) := by decide +kernel
theorem dL_law_728 : decode cL_law 728 = .ok (.iconst 1, 1) := by decide +kernel
theorem dL_law_729 : decode cL_law 729 = .ok (.iadd, 1) := by decide +kernel
theorem dL_law_730 : decode cL_law 730 = .ok (.iaload, 1) := by decide +kernel
theorem dL_law_731 : decode cL_law 731 = .ok (.aload_n 0, 1) := by decide +kernel
theorem dL_law_732 : decode cL_law 732 = .ok (.iload_n 3, 1) := by decide +kernel
theorem dL_law_733 : decode cL_law 733 = .ok (.iconst 2, 1) := by decide +kernel
theorem dL_law_734 : decode cL_law 734 = .ok (.iadd, 1) := by decide +kernel
theorem dL_law_735 : decode cL_law 735 = .ok (.iaload, 1) := by decide +kernel
theorem dL_law_736 : decode cL_law 736 = .ok (.aload_n 0, 1) := by decide +kernel
theorem dL_law_737 : decode cL_law 737 = .ok (.iload_n 3, 1) := by decide +kernel
theorem dL_law_738 : decode cL_law 738 = .ok (.iconst 3, 1) := by decide +kernel
theorem dL_law_739 : decode cL_law 739 = .ok (.iadd, 1) := by decide +kernel
theorem dL_law_740 : decode cL_law 740 = .ok (.iaload, 1) := by decide +kernel
theorem dL_law_741 : decode cL_law 741 = .ok (.invokevirtual 95, 3) := by decide +kernel
theorem dL_law_744 : decode cL_law 744 = .ok (.lcmp, 1) := by decide +kernel
theorem dL_law_745 : decode cL_law 745 = .ok (.ifCond .eq 336, 3) := by decide +kernel
theorem dL_law_748 : decode cL_law 748 = .ok (.iconst 0, 1) := by decide +kernel
theorem dL_law_749 : decode cL_law 749 = .ok (.ireturn, 1) := by decide +kernel
theorem dL_law_750 : decode cL_law 750 = .ok (.aload_n 1, 1) := by decide +kernel
theorem dL_law_751 : decode cL_law 751 = .ok (.aload_n 0, 1) := by decide +kernel
theorem dL_law_752 : decode cL_law 752 = .ok (.iload_n 3, 1) := by decide +kernel
theorem dL_law_753 : decode cL_law 753 = .ok (.iconst 1, 1) := by decide +kernel
theorem dL_law_754 : decode cL_law 754 = .ok (.iadd, 1) := by decide +kernel
theorem dL_law_755 : decode cL_law 755 = .ok (.iaload, 1) := by decide +kernel
theorem dL_law_756 : decode cL_law 756 = .ok (.aload_n 0, 1) := by decide +kernel
theorem dL_law_757 : decode cL_law 757 = .ok (.iload_n 3, 1) := by decide +kernel
theorem dL_law_758 : decode cL_law 758 = .ok (.iconst 2, 1) := by decide +kernel
theorem dL_law_759 : decode cL_law 759 = .ok (.iadd, 1) := by decide +kernel
theorem dL_law_760 : decode cL_law 760 = .ok (.iaload, 1) := by decide +kernel
theorem dL_law_761 : decode cL_law 761 = .ok (.invokevirtual 96, 3) := by decide +kernel
theorem dL_law_764 : decode cL_law 764 = .ok (.aload_n 2, 1) := by decide +kernel
theorem dL_law_765 : decode cL_law 765 = .ok (.aload_n 0, 1) := by decide +kernel
theorem dL_law_766 : decode cL_law 766 = .ok (.iload_n 3, 1) := by decide +kernel
theorem dL_law_767 : decode cL_law 767 = .ok (.iconst 1, 1) := by decide +kernel
theorem dL_law_768 : decode cL_law 768 = .ok (.iadd, 1) := by decide +kernel
theorem dL_law_769 : decode cL_law 769 = .ok (.iaload, 1) := by decide +kernel
theorem dL_law_770 : decode cL_law 770 = .ok (.aload_n 0, 1) := by decide +kernel
theorem dL_law_771 : decode cL_law 771 = .ok (.iload_n 3, 1) := by decide +kernel
theorem dL_law_772 : decode cL_law 772 = .ok (.iconst 2, 1) := by decide +kernel
theorem dL_law_773 : decode cL_law 773 = .ok (.iadd, 1) := by decide +kernel
theorem dL_law_774 : decode cL_law 774 = .ok (.iaload, 1) := by decide +kernel
theorem dL_law_775 : decode cL_law 775 = .ok (.invokevirtual 99, 3) := by decide +kernel
theorem dL_law_778 : decode cL_law 778 = .ok (.if_icmp .eq 303, 3) := by decide +kernel
theorem dL_law_781 : decode cL_law 781 = .ok (.iconst 0, 1) := by decide +kernel
theorem dL_law_782 : decode cL_law 782 = .ok (.ireturn, 1) := by decide +kernel
theorem dL_law_783 : decode cL_law 783 = .ok (.aload_n 1, 1) := by decide +kernel
theorem dL_law_784 : decode cL_law 784 = .ok (.aload_n 0, 1) := by decide +kernel
theorem dL_law_785 : decode cL_law 785 = .ok (.iload_n 3, 1) := by decide +kernel
theorem dL_law_786 : decode cL_law 786 = .ok (.iconst 1, 1) := by decide +kernel
theorem dL_law_787 : decode cL_law 787 = .ok (.iadd, 1) := by decide +kernel
theorem dL_law_788 : decode cL_law 788 = .ok (.iaload, 1) := by decide +kernel
theorem dL_law_789 : decode cL_law 789 = .ok (.aload_n 0, 1) := by decide +kernel
theorem dL_law_790 : decode cL_law 790 = .ok (.iload_n 3, 1) := by decide +kernel
theorem dL_law_791 : decode cL_law 791 = .ok (.iconst 2, 1) := by decide +kernel
theorem dL_law_792 : decode cL_law 792 = .ok (.iadd, 1) := by decide +kernel
theorem dL_law_793 : decode cL_law 793 = .ok (.iaload, 1) := by decide +kernel
theorem dL_law_794 : decode cL_law 794 = .ok (.aload_n 0, 1) := by decide +kernel
theorem dL_law_795 : decode cL_law 795 = .ok (.iload_n 3, 1) := by decide +kernel
theorem dL_law_796 : decode cL_law 796 = .ok (.iconst 3, 1) := by decide +kernel
theorem dL_law_797 : decode cL_law 797 = .ok (.iadd, 1) := by decide +kernel
theorem dL_law_798 : decode cL_law 798 = .ok (.iaload, 1) := by decide +kernel
theorem dL_law_799 : decode cL_law 799 = .ok (.invokevirtual 100, 3) := by decide +kernel
theorem dL_law_802 : decode cL_law 802 = .ok (.aload_n 2, 1) := by decide +kernel
theorem dL_law_803 : decode cL_law 803 = .ok (.aload_n 0, 1) := by decide +kernel
theorem dL_law_804 : decode cL_law 804 = .ok (.iload_n 3, 1) := by decide +kernel
theorem dL_law_805 : decode cL_law 805 = .ok (.iconst 1, 1) := by decide +kernel
theorem dL_law_806 : decode cL_law 806 = .ok (.iadd, 1) := by decide +kernel
theorem dL_law_807 : decode cL_law 807 = .ok (.iaload, 1) := by decide +kernel
theorem dL_law_808 : decode cL_law 808 = .ok (.aload_n 0, 1) := by decide +kernel
theorem dL_law_809 : decode cL_law 809 = .ok (.iload_n 3, 1) := by decide +kernel
theorem dL_law_810 : decode cL_law 810 = .ok (.iconst 2, 1) := by decide +kernel
theorem dL_law_811 : decode cL_law 811 = .ok (.iadd, 1) := by decide +kernel
theorem dL_law_812 : decode cL_law 812 = .ok (.iaload, 1) := by decide +kernel
theorem dL_law_813 : decode cL_law 813 = .ok (.aload_n 0, 1) := by decide +kernel
theorem dL_law_814 : decode cL_law 814 = .ok (.iload_n 3, 1) := by decide +kernel
theorem dL_law_815 : decode cL_law 815 = .ok (.iconst 3, 1) := by decide +kernel
theorem dL_law_816 : decode cL_law 816 = .ok (.iadd, 1) := by decide +kernel
theorem dL_law_817 : decode cL_law 817 = .ok (.iaload, 1) := by decide +kernel
theorem dL_law_818 : decode cL_law 818 = .ok (.invokevirtual 103, 3) := by decide +kernel
theorem dL_law_821 : decode cL_law 821 = .ok (.lcmp, 1) := by decide +kernel
theorem dL_law_822 : decode cL_law 822 = .ok (.ifCond .eq 259, 3) := by decide +kernel
theorem dL_law_825 : decode cL_law 825 = .ok (.iconst 0, 1) := by decide +kernel
theorem dL_law_826 : decode cL_law 826 = .ok (.ireturn, 1) := by decide +kernel
theorem dL_law_827 : decode cL_law 827 = .ok (.aload_n 1, 1) := by decide +kernel
theorem dL_law_828 : decode cL_law 828 = .ok (.aload_n 0, 1) := by decide +kernel
theorem dL_law_829 : decode cL_law 829 = .ok (.iload_n 3, 1) := by decide +kernel
theorem dL_law_830 : decode cL_law 830 = .ok (.iconst 1, 1) := by decide +kernel
theorem dL_law_831 : decode cL_law 831 = .ok (.iadd, 1) := by decide +kernel
theorem dL_law_832 : decode cL_law 832 = .ok (.iaload, 1) := by decide +kernel
theorem dL_law_833 : decode cL_law 833 = .ok (.aload_n 0, 1) := by decide +kernel
theorem dL_law_834 : decode cL_law 834 = .ok (.iload_n 3, 1) := by decide +kernel
theorem dL_law_835 : decode cL_law 835 = .ok (.iconst 2, 1) := by decide +kernel
theorem dL_law_836 : decode cL_law 836 = .ok (.iadd, 1) := by decide +kernel
theorem dL_law_837 : decode cL_law 837 = .ok (.iaload, 1) := by decide +kernel
theorem dL_law_838 : decode cL_law 838 = .ok (.aload_n 0, 1) := by decide +kernel
theorem dL_law_839 : decode cL_law 839 = .ok (.iload_n 3, 1) := by decide +kernel
theorem dL_law_840 : decode cL_law 840 = .ok (.iconst 3, 1) := by decide +kernel
theorem dL_law_841 : decode cL_law 841 = .ok (.iadd, 1) := by decide +kernel
theorem dL_law_842 : decode cL_law 842 = .ok (.iaload, 1) := by decide +kernel
theorem dL_law_843 : decode cL_law 843 = .ok (.invokevirtual 104, 3) := by decide +kernel
theorem dL_law_846 : decode cL_law 846 = .ok (.aload_n 2, 1) := by decide +kernel
theorem dL_law_847 : decode cL_law 847 = .ok (.aload_n 0, 1) := by decide +kernel
theorem dL_law_848 : decode cL_law 848 = .ok (.iload_n 3, 1) := by decide +kernel
theorem dL_law_849 : decode cL_law 849 = .ok (.iconst 1, 1) := by decide +kernel
theorem dL_law_850 : decode cL_law 850 = .ok (.iadd, 1) := by decide +kernel
theorem dL_law_851 : decode cL_law 851 = .ok (.iaload, 1) := by decide +kernel
theorem dL_law_852 : decode cL_law 852 = .ok (.aload_n 0, 1) := by decide +kernel
theorem dL_law_853 : decode cL_law 853 = .ok (.iload_n 3, 1) := by decide +kernel
theorem dL_law_854 : decode cL_law 854 = .ok (.iconst 2, 1) := by decide +kernel
theorem dL_law_855 : decode cL_law 855 = .ok (.iadd, 1) := by decide +kernel
theorem dL_law_856 : decode cL_law 856 = .ok (.iaload, 1) := by decide +kernel
theorem dL_law_857 : decode cL_law 857 = .ok (.aload_n 0, 1) := by decide +kernel
theorem dL_law_858 : decode cL_law 858 = .ok (.iload_n 3, 1) := by decide +kernel
theorem dL_law_859 : decode cL_law 859 = .ok (.iconst 3, 1) := by decide +kernel
theorem dL_law_860 : decode cL_law 860 = .ok (.iadd, 1) := by decide +kernel
theorem dL_law_861 : decode cL_law 861 = .ok (.iaload, 1) := by decide +kernel
theorem dL_law_862 : decode cL_law 862 = .ok (.invokevirtual 107, 3) := by decide +kernel
theorem dL_law_865 : decode cL_law 865 = .ok (.lcmp, 1) := by decide +kernel
theorem dL_law_866 : decode cL_law 866 = .ok (.ifCond .eq 215, 3) := by decide +kernel
theorem dL_law_869 : decode cL_law 869 = .ok (.iconst 0, 1) := by decide +kernel
theorem dL_law_870 : decode cL_law 870 = .ok (.ireturn, 1) := by decide +kernel
theorem dL_law_871 : decode cL_law 871 = .ok (.aload_n 1, 1) := by decide +kernel
theorem dL_law_872 : decode cL_law 872 = .ok (.aload_n 0, 1) := by decide +kernel
theorem dL_law_873 : decode cL_law 873 = .ok (.iload_n 3, 1) := by decide +kernel
theorem dL_law_874 : decode cL_law 874 = .ok (.iconst 1, 1) := by decide +kernel
theorem dL_law_875 : decode cL_law 875 = .ok (.iadd, 1) := by decide +kernel
theorem dL_law_876 : decode cL_law 876 = .ok (.iaload, 1) := by decide +kernel
theorem dL_law_877 : decode cL_law 877 = .ok (.aload_n 0, 1) := by decide +kernel
theorem dL_law_878 : decode cL_law 878 = .ok (.iload_n 3, 1) := by decide +kernel
theorem dL_law_879 : decode cL_law 879 = .ok (.iconst 2, 1) := by decide +kernel
theorem dL_law_880 : decode cL_law 880 = .ok (.iadd, 1) := by decide +kernel
theorem dL_law_881 : decode cL_law 881 = .ok (.iaload, 1) := by decide +kernel
theorem dL_law_882 : decode cL_law 882 = .ok (.invokevirtual 108, 3) := by decide +kernel
theorem dL_law_885 : decode cL_law 885 = .ok (.aload_n 2, 1) := by decide +kernel
theorem dL_law_886 : decode cL_law 886 = .ok (.aload_n 0, 1) := by decide +kernel
theorem dL_law_887 : decode cL_law 887 = .ok (.iload_n 3, 1) := by decide +kernel
theorem dL_law_888 : decode cL_law 888 = .ok (.iconst 1, 1) := by decide +kernel
theorem dL_law_889 : decode cL_law 889 = .ok (.iadd, 1) := by decide +kernel
theorem dL_law_890 : decode cL_law 890 = .ok (.iaload, 1) := by decide +kernel
theorem dL_law_891 : decode cL_law 891 = .ok (.aload_n 0, 1) := by decide +kernel
theorem dL_law_892 : decode cL_law 892 = .ok (.iload_n 3, 1) := by decide +kernel
theorem dL_law_893 : decode cL_law 893 = .ok (.iconst 2, 1) := by decide +kernel
theorem dL_law_894 : decode cL_law 894 = .ok (.iadd, 1) := by decide +kernel
theorem dL_law_895 : decode cL_law 895 = .ok (.iaload, 1) := by decide +kernel
theorem dL_law_896 : decode cL_law 896 = .ok (.invokevirtual 111, 3) := by decide +kernel
theorem dL_law_899 : decode cL_law 899 = .ok (.if_icmp .eq 182, 3) := by decide +kernel
theorem dL_law_902 : decode cL_law 902 = .ok (.iconst 0, 1) := by decide +kernel
theorem dL_law_903 : decode cL_law 903 = .ok (.ireturn, 1) := by decide +kernel
theorem dL_law_904 : decode cL_law 904 = .ok (.aload_n 1, 1) := by decide +kernel
theorem dL_law_905 : decode cL_law 905 = .ok (.aload_n 0, 1) := by decide +kernel
theorem dL_law_906 : decode cL_law 906 = .ok (.iload_n 3, 1) := by decide +kernel
theorem dL_law_907 : decode cL_law 907 = .ok (.iconst 1, 1) := by decide +kernel
theorem dL_law_908 : decode cL_law 908 = .ok (.iadd, 1) := by decide +kernel
theorem dL_law_909 : decode cL_law 909 = .ok (.iaload, 1) := by decide +kernel
theorem dL_law_910 : decode cL_law 910 = .ok (.invokevirtual 112, 3) := by decide +kernel
theorem dL_law_913 : decode cL_law 913 = .ok (.aload_n 2, 1) := by decide +kernel
theorem dL_law_914 : decode cL_law 914 = .ok (.aload_n 0, 1) := by decide +kernel
theorem dL_law_915 : decode cL_law 915 = .ok (.iload_n 3, 1) := by decide +kernel
theorem dL_law_916 : decode cL_law 916 = .ok (.iconst 1, 1) := by decide +kernel
theorem dL_law_917 : decode cL_law 917 = .ok (.iadd, 1) := by decide +kernel
theorem dL_law_918 : decode cL_law 918 = .ok (.iaload, 1) := by decide +kernel
theorem dL_law_919 : decode cL_law 919 = .ok (.invokevirtual 115, 3) := by decide +kernel
theorem dL_law_922 : decode cL_law 922 = .ok (.if_icmp .eq 159, 3) := by decide +kernel
theorem dL_law_925 : decode cL_law 925 = .ok (.iconst 0, 1) := by decide +kernel
theorem dL_law_926 : decode cL_law 926 = .ok (.ireturn, 1) := by decide +kernel
theorem dL_law_927 : decode cL_law 927 = .ok (.aload_n 1, 1) := by decide +kernel
theorem dL_law_928 : decode cL_law 928 = .ok (.aload_n 0, 1) := by decide +kernel
theorem dL_law_929 : decode cL_law 929 = .ok (.iload_n 3, 1) := by decide +kernel
theorem dL_law_930 : decode cL_law 930 = .ok (.iconst 1, 1) := by decide +kernel
theorem dL_law_931 : decode cL_law 931 = .ok (.iadd, 1) := by decide +kernel
theorem dL_law_932 : decode cL_law 932 = .ok (.iaload, 1) := by decide +kernel
theorem dL_law_933 : decode cL_law 933 = .ok (.invokevirtual 116, 3) := by decide +kernel
theorem dL_law_936 : decode cL_law 936 = .ok (.aload_n 2, 1) := by decide +kernel
theorem dL_law_937 : decode cL_law 937 = .ok (.aload_n 0, 1) := by decide +kernel
theorem dL_law_938 : decode cL_law 938 = .ok (.iload_n 3, 1) := by decide +kernel
theorem dL_law_939 : decode cL_law 939 = .ok (.iconst 1, 1) := by decide +kernel
theorem dL_law_940 : decode cL_law 940 = .ok (.iadd, 1) := by decide +kernel
theorem dL_law_941 : decode cL_law 941 = .ok (.iaload, 1) := by decide +kernel
theorem dL_law_942 : decode cL_law 942 = .ok (.invokevirtual 119, 3) := by decide +kernel
theorem dL_law_945 : decode cL_law 945 = .ok (.if_icmp .eq 136, 3) := by decide +kernel
theorem dL_law_948 : decode cL_law 948 = .ok (.iconst 0, 1) := by decide +kernel
theorem dL_law_949 : decode cL_law 949 = .ok (.ireturn, 1) := by decide +kernel
theorem dL_law_950 : decode cL_law 950 = .ok (.aload_n 1, 1) := by decide +kernel
theorem dL_law_951 : decode cL_law 951 = .ok (.aload_n 0, 1) := by decide +kernel
theorem dL_law_952 : decode cL_law 952 = .ok (.iload_n 3, 1) := by decide +kernel
theorem dL_law_953 : decode cL_law 953 = .ok (.iconst 1, 1) := by decide +kernel
theorem dL_law_954 : decode cL_law 954 = .ok (.iadd, 1) := by decide +kernel
theorem dL_law_955 : decode cL_law 955 = .ok (.iaload, 1) := by decide +kernel
theorem dL_law_956 : decode cL_law 956 = .ok (.i2l, 1) := by decide +kernel
theorem dL_law_957 : decode cL_law 957 = .ok (.bipush 32, 2) := by decide +kernel
theorem dL_law_959 : decode cL_law 959 = .ok (.lshl, 1) := by decide +kernel
theorem dL_law_960 : decode cL_law 960 = .ok (.aload_n 0, 1) := by decide +kernel
theorem dL_law_961 : decode cL_law 961 = .ok (.iload_n 3, 1) := by decide +kernel
theorem dL_law_962 : decode cL_law 962 = .ok (.iconst 2, 1) := by decide +kernel
theorem dL_law_963 : decode cL_law 963 = .ok (.iadd, 1) := by decide +kernel
theorem dL_law_964 : decode cL_law 964 = .ok (.iaload, 1) := by decide +kernel
theorem dL_law_965 : decode cL_law 965 = .ok (.i2l, 1) := by decide +kernel
theorem dL_law_966 : decode cL_law 966 = .ok (.ldc2_w 32, 3) := by decide +kernel
theorem dL_law_969 : decode cL_law 969 = .ok (.land, 1) := by decide +kernel
theorem dL_law_970 : decode cL_law 970 = .ok (.lor, 1) := by decide +kernel
theorem dL_law_971 : decode cL_law 971 = .ok (.aload_n 0, 1) := by decide +kernel
theorem dL_law_972 : decode cL_law 972 = .ok (.iload_n 3, 1) := by decide +kernel
theorem dL_law_973 : decode cL_law 973 = .ok (.iconst 3, 1) := by decide +kernel
theorem dL_law_974 : decode cL_law 974 = .ok (.iadd, 1) := by decide +kernel
theorem dL_law_975 : decode cL_law 975 = .ok (.iaload, 1) := by decide +kernel
theorem dL_law_976 : decode cL_law 976 = .ok (.aload_n 0, 1) := by decide +kernel
theorem dL_law_977 : decode cL_law 977 = .ok (.iload_n 3, 1) := by decide +kernel
theorem dL_law_978 : decode cL_law 978 = .ok (.iconst 4, 1) := by decide +kernel
theorem dL_law_979 : decode cL_law 979 = .ok (.iadd, 1) := by decide +kernel
theorem dL_law_980 : decode cL_law 980 = .ok (.iaload, 1) := by decide +kernel
theorem dL_law_981 : decode cL_law 981 = .ok (.aload_n 0, 1) := by decide +kernel
theorem dL_law_982 : decode cL_law 982 = .ok (.iload_n 3, 1) := by decide +kernel
theorem dL_law_983 : decode cL_law 983 = .ok (.iconst 5, 1) := by decide +kernel
theorem dL_law_984 : decode cL_law 984 = .ok (.iadd, 1) := by decide +kernel
theorem dL_law_985 : decode cL_law 985 = .ok (.iaload, 1) := by decide +kernel
theorem dL_law_986 : decode cL_law 986 = .ok (.aload_n 0, 1) := by decide +kernel
theorem dL_law_987 : decode cL_law 987 = .ok (.iload_n 3, 1) := by decide +kernel
theorem dL_law_988 : decode cL_law 988 = .ok (.bipush 6, 2) := by decide +kernel
theorem dL_law_990 : decode cL_law 990 = .ok (.iadd, 1) := by decide +kernel
theorem dL_law_991 : decode cL_law 991 = .ok (.iaload, 1) := by decide +kernel
theorem dL_law_992 : decode cL_law 992 = .ok (.aload_n 0, 1) := by decide +kernel
theorem dL_law_993 : decode cL_law 993 = .ok (.iload_n 3, 1) := by decide +kernel
theorem dL_law_994 : decode cL_law 994 = .ok (.bipush 7, 2) := by decide +kernel
theorem dL_law_996 : decode cL_law 996 = .ok (.iadd, 1) := by decide +kernel
theorem dL_law_997 : decode cL_law 997 = .ok (.iaload, 1) := by decide +kernel
theorem dL_law_998 : decode cL_law 998 = .ok (.invokevirtual 120, 3) := by decide +kernel
theorem dL_law_1001 : decode cL_law 1001 = .ok (.aload_n 2, 1) := by decide +kernel
theorem dL_law_1002 : decode cL_law 1002 = .ok (.aload_n 0, 1) := by decide +kernel
theorem dL_law_1003 : decode cL_law 1003 = .ok (.iload_n 3, 1) := by decide +kernel
theorem dL_law_1004 : decode cL_law 1004 = .ok (.iconst 1, 1) := by decide +kernel
theorem dL_law_1005 : decode cL_law 1005 = .ok (.iadd, 1) := by decide +kernel
theorem dL_law_1006 : decode cL_law 1006 = .ok (.iaload, 1) := by decide +kernel
theorem dL_law_1007 : decode cL_law 1007 = .ok (.i2l, 1) := by decide +kernel
theorem dL_law_1008 : decode cL_law 1008 = .ok (.bipush 32, 2) := by decide +kernel
theorem dL_law_1010 : decode cL_law 1010 = .ok (.lshl, 1) := by decide +kernel
theorem dL_law_1011 : decode cL_law 1011 = .ok (.aload_n 0, 1) := by decide +kernel
theorem dL_law_1012 : decode cL_law 1012 = .ok (.iload_n 3, 1) := by decide +kernel
theorem dL_law_1013 : decode cL_law 1013 = .ok (.iconst 2, 1) := by decide +kernel
theorem dL_law_1014 : decode cL_law 1014 = .ok (.iadd, 1) := by decide +kernel
theorem dL_law_1015 : decode cL_law 1015 = .ok (.iaload, 1) := by decide +kernel
theorem dL_law_1016 : decode cL_law 1016 = .ok (.i2l, 1) := by decide +kernel
theorem dL_law_1017 : decode cL_law 1017 = .ok (.ldc2_w 32, 3) := by decide +kernel
theorem dL_law_1020 : decode cL_law 1020 = .ok (.land, 1) := by decide +kernel
theorem dL_law_1021 : decode cL_law 1021 = .ok (.lor, 1) := by decide +kernel
theorem dL_law_1022 : decode cL_law 1022 = .ok (.aload_n 0, 1) := by decide +kernel
theorem dL_law_1023 : decode cL_law 1023 = .ok (.iload_n 3, 1) := by decide +kernel
theorem dL_law_1024 : decode cL_law 1024 = .ok (.iconst 3, 1) := by decide +kernel
theorem dL_law_1025 : decode cL_law 1025 = .ok (.iadd, 1) := by decide +kernel
theorem dL_law_1026 : decode cL_law 1026 = .ok (.iaload, 1) := by decide +kernel
theorem dL_law_1027 : decode cL_law 1027 = .ok (.aload_n 0, 1) := by decide +kernel
theorem dL_law_1028 : decode cL_law 1028 = .ok (.iload_n 3, 1) := by decide +kernel
theorem dL_law_1029 : decode cL_law 1029 = .ok (.iconst 4, 1) := by decide +kernel
theorem dL_law_1030 : decode cL_law 1030 = .ok (.iadd, 1) := by decide +kernel
theorem dL_law_1031 : decode cL_law 1031 = .ok (.iaload, 1) := by decide +kernel
theorem dL_law_1032 : decode cL_law 1032 = .ok (.aload_n 0, 1) := by decide +kernel
theorem dL_law_1033 : decode cL_law 1033 = .ok (.iload_n 3, 1) := by decide +kernel
theorem dL_law_1034 : decode cL_law 1034 = .ok (.iconst 5, 1) := by decide +kernel
theorem dL_law_1035 : decode cL_law 1035 = .ok (.iadd, 1) := by decide +kernel
theorem dL_law_1036 : decode cL_law 1036 = .ok (.iaload, 1) := by decide +kernel
theorem dL_law_1037 : decode cL_law 1037 = .ok (.aload_n 0, 1) := by decide +kernel
theorem dL_law_1038 : decode cL_law 1038 = .ok (.iload_n 3, 1) := by decide +kernel
theorem dL_law_1039 : decode cL_law 1039 = .ok (.bipush 6, 2) := by decide +kernel
theorem dL_law_1041 : decode cL_law 1041 = .ok (.iadd, 1) := by decide +kernel
theorem dL_law_1042 : decode cL_law 1042 = .ok (.iaload, 1) := by decide +kernel
theorem dL_law_1043 : decode cL_law 1043 = .ok (.aload_n 0, 1) := by decide +kernel
theorem dL_law_1044 : decode cL_law 1044 = .ok (.iload_n 3, 1) := by decide +kernel
theorem dL_law_1045 : decode cL_law 1045 = .ok (.bipush 7, 2) := by decide +kernel
theorem dL_law_1047 : decode cL_law 1047 = .ok (.iadd, 1) := by decide +kernel
theorem dL_law_1048 : decode cL_law 1048 = .ok (.iaload, 1) := by decide +kernel
theorem dL_law_1049 : decode cL_law 1049 = .ok (.invokevirtual 124, 3) := by decide +kernel
theorem dL_law_1052 : decode cL_law 1052 = .ok (.lcmp, 1) := by decide +kernel
theorem dL_law_1053 : decode cL_law 1053 = .ok (.ifCond .eq 28, 3) := by decide +kernel
theorem dL_law_1056 : decode cL_law 1056 = .ok (.iconst 0, 1) := by decide +kernel
theorem dL_law_1057 : decode cL_law 1057 = .ok (.ireturn, 1) := by decide +kernel
theorem dL_law_1058 : decode cL_law 1058 = .ok (.aload_n 1, 1) := by decide +kernel
theorem dL_law_1059 : decode cL_law 1059 = .ok (.aload_n 0, 1) := by decide +kernel
theorem dL_law_1060 : decode cL_law 1060 = .ok (.iload_n 3, 1) := by decide +kernel
theorem dL_law_1061 : decode cL_law 1061 = .ok (.iconst 1, 1) := by decide +kernel
theorem dL_law_1062 : decode cL_law 1062 = .ok (.iadd, 1) := by decide +kernel
theorem dL_law_1063 : decode cL_law 1063 = .ok (.iaload, 1) := by decide +kernel
theorem dL_law_1064 : decode cL_law 1064 = .ok (.invokevirtual 125, 3) := by decide +kernel
theorem dL_law_1067 : decode cL_law 1067 = .ok (.aload_n 2, 1) := by decide +kernel
theorem dL_law_1068 : decode cL_law 1068 = .ok (.aload_n 0, 1) := by decide +kernel
theorem dL_law_1069 : decode cL_law 1069 = .ok (.iload_n 3, 1) := by decide +kernel
theorem dL_law_1070 : decode cL_law 1070 = .ok (.iconst 1, 1) := by decide +kernel
theorem dL_law_1071 : decode cL_law 1071 = .ok (.iadd, 1) := by decide +kernel
theorem dL_law_1072 : decode cL_law 1072 = .ok (.iaload, 1) := by decide +kernel
theorem dL_law_1073 : decode cL_law 1073 = .ok (.invokevirtual 128, 3) := by decide +kernel
theorem dL_law_1076 : decode cL_law 1076 = .ok (.if_icmp .eq 5, 3) := by decide +kernel
theorem dL_law_1079 : decode cL_law 1079 = .ok (.iconst 0, 1) := by decide +kernel
theorem dL_law_1080 : decode cL_law 1080 = .ok (.ireturn, 1) := by decide +kernel
theorem dL_law_1081 : decode cL_law 1081 = .ok (.iinc 3 8, 3) := by decide +kernel
theorem dL_law_1084 : decode cL_law 1084 = .ok (.goto (-1066), 3) := by decide +kernel
theorem dL_law_1087 : decode cL_law 1087 = .ok (.iconst 1, 1) := by decide +kernel
theorem dL_law_1088 : decode cL_law 1088 = .ok (.ireturn, 1) := by decide +kernel
end
section
/-! the tables of the small machine: own classes 0 .. 12, the law 13; own methods by numbers -/
def mi_RX : Nat → String := fun k => ([RX0, RX1, RX2, RX3, RX4, RX5, RX6, RX7, RX8, RX9, RX10, RX11, RX12, RL] : List String).getD k ""
def mi_T : Nat → u_T := fun k => ([TX0, TX1, TX2, TX3, TX4, TX5, TX6, TX7, TX8, TX9, TX10, TX11, TX12] : List u_T).getD k TX0
def mi_Ty : Nat → Nat → FieldType := fun k => ([tyX0, tyX1, tyX2, tyX3, tyX4, tyX5, tyX6, tyX7, tyX8, tyX9, tyX10, tyX11, tyX12] : List (Nat → FieldType)).getD k tyX0
def mi_n : Nat → Nat := fun k => ([10, 5, 11, 2, 7, 3, 2, 4, 6, 4, 4, 8, 49] : List Nat).getD k 0
abbrev mi_Mt : Type := MethodName × ByteArray × Nat × Option FieldType × Nat × Bool
def mi_M0 : List mi_Mt := [(yX0_init, cX0_init, 1, none, 0, true), (yX0_clear, cX0_clear, 1, none, 0, false), (yX0_has, cX0_has, 2, (some .boolean), 0, false), (yX0_isLeaf, cX0_isLeaf, 2, (some .boolean), 0, false), (yX0_isShut, cX0_isShut, 2, (some .boolean), 0, false), (yX0_setShut, cX0_setShut, 3, none, 0, false), (yX0_takesChild, cX0_takesChild, 3, (some .boolean), 0, false), (yX0_hasCode, cX0_hasCode, 3, (some .boolean), 0, false), (yX0_add, cX0_add, 6, (some .int), 0, false), (yX0_putByCode, cX0_putByCode, 3, none, 0, false), (yX0_enterLine, cX0_enterLine, 4, none, 0, false), (yX0_totalUnder, cX0_totalUnder, 6, (some .long), 0, false), (yX0_isUnder, cX0_isUnder, 5, (some .boolean), 0, false), (yX0_totalOfKind, cX0_totalOfKind, 5, (some .long), 0, false), (yX0_told, cX0_told, 3, (some .int), 0, false), (yX1_init, cX1_init, 1, none, 1, true), (yX1_clear, cX1_clear, 1, none, 1, false), (yX1_refusesAccount, cX1_refusesAccount, 4, (some .int), 1, false), (yX1_refusesShut, cX1_refusesShut, 3, (some .int), 1, false), (yX1_refusesPeriod, cX1_refusesPeriod, 2, (some .int), 1, false), (yX1_refusesOwner, cX1_refusesOwner, 2, (some .int), 1, false), (yX1_changeOwner, cX1_changeOwner, 3, (some .int), 1, false), (yX1_refusesLine, cX1_refusesLine, 4, (some .int), 1, false), (yX1_judge, cX1_judge, 4, (some .int), 1, false), (yX1_refusesUnjudged, cX1_refusesUnjudged, 2, (some .int), 1, false), (yX1_hasShut, cX1_hasShut, 3, (some .boolean), 1, false), (yX1_goesOver, cX1_goesOver, 4, (some .boolean), 1, false), (yX1_enter, cX1_enter, 7, (some .int), 1, false), (yX1_refusesBack, cX1_refusesBack, 4, (some .int), 1, false), (yX1_turnBack, cX1_turnBack, 5, (some .int), 1, false), (yX1_refusesClose, cX1_refusesClose, 2, (some .int), 1, false), (yX1_fillClosing, cX1_fillClosing, 5, none, 1, false), (yX1_isClosedOut, cX1_isClosedOut, 3, (some .boolean), 1, false), (yX1_closePeriod, cX1_closePeriod, 4, (some .int), 1, false), (yX1_refusesReopen, cX1_refusesReopen, 3, (some .int), 1, false), (yX1_reopenPeriod, cX1_reopenPeriod, 3, (some .int), 1, false), (yX1_sumInDays, cX1_sumInDays, 4, (some .long), 1, false), (yX2_init, cX2_init, 1, none, 2, true), (yX2_clear, cX2_clear, 1, none, 2, false), (yX2_has, cX2_has, 2, (some .boolean), 2, false)]
def mi_M1 : List mi_Mt := [(yX2_add, cX2_add, 8, (some .int), 2, false), (yX2_accountOf, cX2_accountOf, 3, (some .int), 2, false), (yX2_amountOf, cX2_amountOf, 3, (some .long), 2, false), (yX2_turn, cX2_turn, 4, none, 2, false), (yX2_gather, cX2_gather, 6, none, 2, false), (yX2_ledgerLine, cX2_ledgerLine, 9, (some .long), 2, false), (yX2_toldOfLedger, cX2_toldOfLedger, 6, (some .long), 2, false), (yX2_told, cX2_told, 3, (some .int), 2, false), (yX3_init, cX3_init, 2, none, 3, true), (yX3_at, cX3_at, 2, (some .int), 3, false), (yX3_put, cX3_put, 3, none, 3, false), (yX4_init, cX4_init, 1, none, 4, true), (yX4_begin, cX4_begin, 2, none, 4, false), (yX4_number, cX4_number, 7, none, 4, false), (yX4_write, cX4_write, 3, (some .boolean), 4, false), (yX4_put, cX4_put, 2, none, 4, false), (yX4_checkOf, cX4_checkOf, 6, (some .int), 4, false), (yX4_recordAt, cX4_recordAt, 5, (some .int), 4, false), (yX4_makeDurable, cX4_makeDurable, 2, (some .int), 4, false), (yX4_tear, cX4_tear, 4, none, 4, false), (yX4_cut, cX4_cut, 3, none, 4, false), (yX5_init, cX5_init, 2, none, 5, true), (yX5_clear, cX5_clear, 1, none, 5, false), (yX5_add, cX5_add, 4, none, 5, false), (yX5_total, cX5_total, 4, (some .long), 5, false), (yX6_init, cX6_init, 2, none, 6, true), (yX6_at, cX6_at, 2, (some .long), 6, false), (yX6_put, cX6_put, 4, none, 6, false), (yX6_addTo, cX6_addTo, 4, none, 6, false), (yX6_clear, cX6_clear, 1, none, 6, false), (yX7_init, cX7_init, 1, none, 7, true), (yX7_clear, cX7_clear, 1, none, 7, false), (yX7_has, cX7_has, 2, (some .boolean), 7, false), (yX7_add, cX7_add, 3, (some .int), 7, false), (yX7_firstDay, cX7_firstDay, 2, (some .int), 7, false), (yX7_lastDay, cX7_lastDay, 2, (some .int), 7, false), (yX7_firstFreeDay, cX7_firstFreeDay, 1, (some .int), 7, false), (yX7_withDay, cX7_withDay, 3, (some .int), 7, false), (yX7_closingOf, cX7_closingOf, 2, (some .int), 7, false), (yX7_closeFirstOpen, cX7_closeFirstOpen, 2, none, 7, false)]
def mi_M2 : List mi_Mt := [(yX7_openLastClosed, cX7_openLastClosed, 1, none, 7, false), (yX7_told, cX7_told, 3, (some .int), 7, false), (yX8_init, cX8_init, 3, none, 8, true), (yX8_redoAll, cX8_redoAll, 4, none, 8, false), (yX8_redo, cX8_redo, 3, (some .boolean), 8, false), (yX8_redoAccount, cX8_redoAccount, 5, (some .boolean), 8, false), (yX8_redoShut, cX8_redoShut, 3, (some .boolean), 8, false), (yX8_redoPeriod, cX8_redoPeriod, 2, (some .boolean), 8, false), (yX8_redoOwner, cX8_redoOwner, 2, (some .boolean), 8, false), (yX8_redoPost, cX8_redoPost, 3, (some .boolean), 8, false), (yX8_readLines, cX8_readLines, 6, (some .boolean), 8, false), (yX8_redoBack, cX8_redoBack, 3, (some .boolean), 8, false), (yX8_redoClose, cX8_redoClose, 1, (some .boolean), 8, false), (yX8_redoReopen, cX8_redoReopen, 1, (some .boolean), 8, false), (yX8_isReadWhole, cX8_isReadWhole, 1, (some .boolean), 8, false), (yX8_nextFlag, cX8_nextFlag, 3, (some .boolean), 8, false), (yX8_nextInt, cX8_nextInt, 3, (some .int), 8, false), (yX8_nextNumber, cX8_nextNumber, 5, (some .long), 8, false), (yX9_init, cX9_init, 1, none, 9, true), (yX9_clear, cX9_clear, 1, none, 9, false), (yX9_add, cX9_add, 2, none, 9, false), (yX9_divide, cX9_divide, 10, (some .boolean), 9, false), (yX9_giveRest, cX9_giveRest, 9, none, 9, false), (yX9_withGreatestRemainder, cX9_withGreatestRemainder, 3, (some .int), 9, false), (yX10_init, cX10_init, 2, none, 10, true), (yX10_clear, cX10_clear, 1, none, 10, false), (yX10_write, cX10_write, 3, (some .boolean), 10, false), (yX10_writeLeaves, cX10_writeLeaves, 3, none, 10, false), (yX10_writeUnder, cX10_writeUnder, 6, none, 10, false), (yX10_writeKinds, cX10_writeKinds, 6, none, 10, false), (yX10_writeTotal, cX10_writeTotal, 4, none, 10, false), (yX10_writeRow, cX10_writeRow, 3, none, 10, false), (yX10_putMoney, cX10_putMoney, 7, none, 10, false), (yX10_put, cX10_put, 2, none, 10, false), (yX11_init, cX11_init, 1, none, 11, true), (yX11_account, cX11_account, 6, (some .int), 11, false), (yX11_shut, cX11_shut, 4, (some .int), 11, false), (yX11_period, cX11_period, 3, (some .int), 11, false), (yX11_owner, cX11_owner, 3, (some .int), 11, false), (yX11_line, cX11_line, 5, (some .int), 11, false)]
def mi_M3 : List mi_Mt := [(yX11_drop, cX11_drop, 2, (some .int), 11, false), (yX11_post, cX11_post, 3, (some .int), 11, false), (yX11_back, cX11_back, 4, (some .int), 11, false), (yX11_close, cX11_close, 2, (some .int), 11, false), (yX11_reopen, cX11_reopen, 2, (some .int), 11, false), (yX11_share, cX11_share, 7, (some .int), 11, false), (yX11_sync, cX11_sync, 1, (some .int), 11, false), (yX11_crash, cX11_crash, 3, (some .int), 11, false), (yX11_recover, cX11_recover, 1, (some .int), 11, false), (yX11_byteAt, cX11_byteAt, 2, (some .int), 11, false), (yX11_of, cX11_of, 3, (some .int), 11, false), (yX11_balance, cX11_balance, 2, (some .long), 11, false), (yX11_sum, cX11_sum, 4, (some .long), 11, false), (yX11_entry, cX11_entry, 3, (some .int), 11, false), (yX11_lineOf, cX11_lineOf, 4, (some .long), 11, false), (yX11_ledger, cX11_ledger, 4, (some .long), 11, false), (yX11_periodOf, cX11_periodOf, 3, (some .int), 11, false), (yX11_sheet, cX11_sheet, 2, (some .int), 11, false), (yX11_shown, cX11_shown, 2, (some .int), 11, false), (yX11_part, cX11_part, 8, (some .long), 11, false), (yX11_count, cX11_count, 2, (some .int), 11, false), (yX11_countOfBooks, cX11_countOfBooks, 2, (some .int), 11, false), (yX11_writePlain, cX11_writePlain, 6, (some .int), 11, false), (yX11_refusesShare, cX11_refusesShare, 4, (some .int), 11, false), (yX11_shareOut, cX11_shareOut, 5, none, 11, false), (yX11_areWeights, cX11_areWeights, 4, (some .boolean), 11, false), (yX11_isPartWeight, cX11_isPartWeight, 1, (some .boolean), 11, false), (yX11_isAmount, cX11_isAmount, 2, (some .boolean), 11, false), (yX11_isWithin, cX11_isWithin, 4, (some .boolean), 11, false), (yX12_init, cX12_init, 1, none, 12, true), (yX12_in, cX12_in, 6, (some .boolean), 12, false), (yX12_isAccount, cX12_isAccount, 2, (some .boolean), 12, false), (yX12_begin, cX12_begin, 1, none, 12, false), (yX12_say, cX12_say, 5, none, 12, false), (yX12_hasRoom, cX12_hasRoom, 1, (some .boolean), 12, false), (yX12_checked, cX12_checked, 4, (some .int), 12, false), (yX12_append, cX12_append, 2, none, 12, false), (yX12_write, cX12_write, 4, none, 12, false), (yX12_isTold, cX12_isTold, 4, (some .boolean), 12, false), (yX12_account, cX12_account, 6, (some .int), 12, false)]
def mi_M4 : List mi_Mt := [(yX12_shut, cX12_shut, 3, (some .int), 12, false), (yX12_firstDay, cX12_firstDay, 2, (some .int), 12, false), (yX12_period, cX12_period, 2, (some .int), 12, false), (yX12_owner, cX12_owner, 3, (some .int), 12, false), (yX12_line, cX12_line, 4, (some .int), 12, false), (yX12_drop, cX12_drop, 2, (some .int), 12, false), (yX12_hand, cX12_hand, 4, none, 12, false), (yX12_periodAt, cX12_periodAt, 4, (some .int), 12, false), (yX12_isOver, cX12_isOver, 5, (some .boolean), 12, false), (yX12_judged, cX12_judged, 6, (some .int), 12, false), (yX12_enter, cX12_enter, 7, (some .int), 12, false), (yX12_sayPost, cX12_sayPost, 4, none, 12, false), (yX12_posted, cX12_posted, 5, (some .int), 12, false), (yX12_post, cX12_post, 4, (some .int), 12, false), (yX12_back, cX12_back, 5, (some .int), 12, false), (yX12_turned, cX12_turned, 3, none, 12, false), (yX12_sumOf, cX12_sumOf, 8, (some .long), 12, false), (yX12_nextCode, cX12_nextCode, 4, (some .int), 12, false), (yX12_close, cX12_close, 7, (some .int), 12, false), (yX12_reopen, cX12_reopen, 3, (some .int), 12, false), (yX12_shares, cX12_shares, 10, none, 12, false), (yX12_share, cX12_share, 8, (some .int), 12, false), (yX12_part, cX12_part, 8, (some .long), 12, false), (yX12_sync, cX12_sync, 2, (some .int), 12, false), (yX12_crash, cX12_crash, 4, (some .int), 12, false), (yX12_number, cX12_number, 7, (some .long), 12, false), (yX12_whole, cX12_whole, 3, (some .int), 12, false), (yX12_truth, cX12_truth, 2, (some .boolean), 12, false), (yX12_isEnded, cX12_isEnded, 1, (some .boolean), 12, false), (yX12_isDone, cX12_isDone, 12, (some .boolean), 12, false), (yX12_isPosted, cX12_isPosted, 9, (some .boolean), 12, false), (yX12_isNext, cX12_isNext, 5, (some .boolean), 12, false), (yX12_recover, cX12_recover, 2, (some .int), 12, false), (yX12_byteAt, cX12_byteAt, 2, (some .int), 12, false), (yX12_of, cX12_of, 5, (some .int), 12, false), (yX12_isUnder, cX12_isUnder, 4, (some .boolean), 12, false), (yX12_balanceOf, cX12_balanceOf, 5, (some .long), 12, false), (yX12_balance, cX12_balance, 2, (some .long), 12, false), (yX12_sum, cX12_sum, 7, (some .long), 12, false), (yX12_entry, cX12_entry, 3, (some .int), 12, false)]
def mi_M5 : List mi_Mt := [(yX12_lineOf, cX12_lineOf, 4, (some .long), 12, false), (yX12_ledger, cX12_ledger, 9, (some .long), 12, false), (yX12_periodOf, cX12_periodOf, 3, (some .int), 12, false), (yX12_put, cX12_put, 2, none, 12, false), (yX12_money, cX12_money, 7, none, 12, false), (yX12_row, cX12_row, 3, none, 12, false), (yX12_tree, cX12_tree, 5, none, 12, false), (yX12_ofKind, cX12_ofKind, 5, (some .long), 12, false), (yX12_total, cX12_total, 3, none, 12, false), (yX12_sheet, cX12_sheet, 3, (some .int), 12, false), (yX12_shown, cX12_shown, 2, (some .int), 12, false), (yX12_count, cX12_count, 3, (some .int), 12, false), (yL_law, cL_law, maxLocals, ret, 13, false)]
def mi_M : List mi_Mt := mi_M0 ++ (mi_M1 ++ (mi_M2 ++ (mi_M3 ++ (mi_M4 ++ (mi_M5)))))
def mi_M_0 : mi_Mt := (yL_law, cL_law, 0, none, 99, false)
def mi_m (y : Nat) : mi_Mt := mi_M.getD y mi_M_0
def mi_N (y : Nat) : MethodName := (mi_m y).1
def mi_B (y : Nat) : ByteArray := (mi_m y).2.1
def mi_L (y : Nat) : Nat := (mi_m y).2.2.1
def mi_R (y : Nat) : Option FieldType := (mi_m y).2.2.2.1
def mi_O (y : Nat) : Nat := (mi_m y).2.2.2.2.1
def mi_X (y : Nat) : Bool := (mi_m y).2.2.2.2.2
/-- own class, pool place; method, how many values it takes, kind (0 virtual, 1 static, 2 ctor, 3 ctor of a nest mate, 4 static of a nest mate); places of the words -/
def mi_tC : List (Nat × Nat × Nat × Nat × Nat × Nat × Nat × Nat × Nat × Nat) := [(13, 9, 114, 1, 2, 89, 90, 0, 71, 91), (11, 25, 82, 3, 2, 316, 317, 0, 79, 318), (8, 11, 61, 2, 2, 322, 323, 0, 80, 324), (11, 34, 61, 2, 2, 369, 323, 0, 80, 324), (11, 57, 104, 2, 2, 396, 397, 0, 82, 398), (13, 13, 115, 5, 0, 442, 443, 444, 71, 445), (11, 68, 17, 4, 0, 446, 447, 448, 72, 449), (1, 50, 2, 2, 0, 450, 451, 452, 73, 453), (1, 54, 6, 3, 0, 454, 455, 456, 73, 457), (1, 58, 7, 2, 0, 462, 463, 464, 73, 465), (11, 72, 52, 2, 0, 466, 467, 468, 78, 469), (11, 75, 53, 2, 0, 470, 471, 472, 78, 473), (11, 79, 54, 1, 0, 499, 500, 501, 78, 502), (4, 39, 55, 2, 0, 503, 505, 0, 78, 506), (4, 45, 56, 3, 0, 508, 510, 1, 78, 511), (11, 83, 8, 5, 0, 514, 515, 516, 73, 517), (0, 67, 9, 2, 0, 533, 535, 2, 73, 536), (13, 18, 116, 3, 0, 537, 538, 539, 71, 540), (11, 89, 18, 3, 0, 541, 542, 543, 72, 544), (1, 64, 3, 2, 0, 545, 546, 547, 73, 548), (0, 52, 2, 2, 0, 549, 451, 452, 73, 453), (1, 67, 4, 2, 0, 550, 551, 552, 73, 553), (11, 93, 5, 3, 0, 554, 555, 556, 73, 557), (13, 23, 117, 2, 0, 558, 559, 560, 71, 561), (11, 97, 19, 2, 0, 562, 563, 564, 72, 565), (1, 70, 76, 1, 0, 566, 567, 568, 76, 569), (7, 38, 74, 2, 0, 570, 571, 572, 76, 573), (11, 105, 73, 2, 0, 575, 576, 577, 76, 578), (13, 28, 118, 2, 0, 580, 581, 582, 71, 583), (11, 109, 20, 2, 0, 584, 585, 586, 72, 587), (11, 112, 21, 2, 0, 589, 590, 591, 72, 592), (13, 34, 119, 3, 0, 593, 594, 595, 71, 596), (11, 115, 22, 3, 0, 597, 598, 599, 72, 600), (11, 239, 148, 2, 1, 605, 606, 0, 71, 607), (11, 123, 63, 3, 0, 608, 609, 610, 80, 611), (13, 39, 120, 1, 0, 614, 615, 616, 71, 617), (11, 126, 62, 1, 0, 618, 619, 620, 80, 621), (13, 44, 121, 3, 0, 622, 623, 624, 71, 625), (11, 129, 142, 4, 0, 626, 628, 3, 71, 629), (11, 276, 23, 3, 0, 630, 631, 632, 72, 633), (1, 92, 64, 1, 0, 634, 635, 636, 80, 637), (1, 96, 77, 2, 0, 642, 643, 644, 76, 645), (1, 102, 25, 2, 0, 646, 648, 4, 72, 649), (1, 106, 24, 2, 0, 650, 652, 5, 72, 653), (1, 110, 26, 2, 0, 654, 656, 6, 72, 657), (11, 285, 27, 6, 0, 676, 677, 678, 72, 679), (1, 136, 10, 3, 0, 680, 681, 682, 73, 683), (1, 139, 40, 6, 0, 685, 686, 687, 77, 688), (13, 49, 122, 3, 0, 693, 694, 695, 71, 696), (11, 133, 28, 4, 0, 697, 698, 699, 72, 700), (1, 143, 39, 2, 0, 701, 702, 703, 77, 704), (1, 150, 43, 3, 0, 705, 706, 707, 77, 708), (2, 78, 62, 1, 0, 709, 619, 620, 80, 621), (2, 81, 41, 3, 0, 710, 711, 712, 77, 713), (2, 85, 42, 3, 0, 714, 715, 716, 77, 717), (2, 89, 63, 3, 0, 718, 609, 610, 80, 611), (1, 154, 23, 3, 0, 719, 631, 632, 72, 633), (11, 137, 29, 4, 0, 720, 721, 722, 72, 723), (1, 161, 27, 6, 0, 724, 677, 678, 72, 679), (13, 53, 123, 1, 0, 726, 727, 728, 71, 729), (11, 140, 30, 2, 0, 730, 731, 732, 72, 733), (1, 168, 31, 3, 0, 734, 736, 7, 72, 737), (1, 171, 74, 2, 0, 738, 571, 572, 76, 573), (1, 174, 75, 2, 0, 739, 740, 741, 76, 742), (1, 177, 44, 4, 0, 743, 744, 745, 77, 746), (1, 181, 62, 1, 0, 749, 619, 620, 80, 621), (1, 185, 32, 2, 0, 750, 752, 8, 72, 753), (1, 188, 63, 3, 0, 754, 609, 610, 80, 611), (11, 144, 33, 2, 0, 755, 756, 757, 72, 758), (1, 190, 79, 2, 0, 759, 760, 761, 76, 762), (13, 57, 124, 1, 0, 763, 764, 765, 71, 766), (11, 147, 34, 2, 0, 767, 768, 769, 72, 770), (1, 193, 78, 2, 0, 771, 772, 773, 76, 774), (11, 150, 35, 2, 0, 775, 776, 777, 72, 778), (1, 196, 80, 1, 0, 779, 780, 781, 76, 782), (13, 61, 125, 5, 0, 783, 784, 785, 71, 786), (11, 153, 143, 3, 0, 787, 789, 9, 71, 790), (11, 184, 2, 2, 0, 791, 451, 452, 73, 453), (11, 289, 147, 1, 1, 792, 602, 0, 71, 603), (11, 292, 145, 1, 1, 793, 794, 0, 71, 795), (11, 224, 3, 2, 0, 797, 546, 547, 73, 548), (11, 156, 144, 3, 0, 798, 800, 10, 71, 801), (11, 246, 99, 1, 0, 802, 803, 804, 81, 805), (11, 247, 100, 2, 0, 806, 807, 808, 81, 809), (11, 249, 101, 2, 0, 811, 812, 813, 81, 814), (9, 54, 102, 2, 0, 821, 823, 11, 81, 824), (9, 60, 103, 1, 0, 826, 828, 12, 81, 829), (13, 66, 126, 1, 0, 831, 832, 833, 71, 834), (11, 159, 58, 1, 0, 835, 836, 837, 78, 838), (13, 70, 127, 3, 0, 839, 840, 841, 71, 842), (11, 163, 59, 3, 0, 843, 844, 845, 78, 846), (11, 167, 105, 1, 0, 848, 849, 850, 82, 851), (13, 74, 128, 1, 0, 852, 853, 854, 71, 855), (11, 169, 83, 1, 0, 856, 857, 858, 79, 859), (8, 28, 16, 1, 0, 860, 861, 862, 72, 863), (1, 45, 1, 1, 0, 864, 865, 866, 73, 867), (1, 48, 71, 1, 0, 868, 869, 870, 76, 871), (1, 49, 38, 1, 0, 872, 873, 874, 77, 875), (8, 33, 57, 2, 0, 876, 877, 878, 78, 879), (8, 39, 84, 3, 0, 880, 882, 13, 79, 883), (8, 66, 85, 1, 0, 885, 887, 14, 79, 888), (8, 91, 96, 1, 0, 889, 891, 15, 79, 892), (8, 152, 97, 1, 0, 893, 895, 16, 79, 896), (8, 95, 95, 1, 0, 897, 899, 17, 79, 900), (8, 98, 94, 1, 0, 901, 903, 18, 79, 904), (8, 101, 17, 4, 0, 905, 447, 448, 72, 449), (8, 109, 8, 5, 0, 906, 515, 516, 73, 517), (8, 70, 86, 1, 0, 907, 909, 19, 79, 910), (8, 115, 18, 3, 0, 911, 542, 543, 72, 544), (8, 119, 5, 3, 0, 912, 555, 556, 73, 557), (8, 73, 87, 1, 0, 913, 915, 20, 79, 916), (8, 123, 19, 2, 0, 917, 563, 564, 72, 565), (8, 130, 73, 2, 0, 918, 576, 577, 76, 578), (8, 76, 88, 1, 0, 919, 921, 21, 79, 922), (8, 134, 20, 2, 0, 923, 585, 586, 72, 587), (8, 137, 21, 2, 0, 924, 590, 591, 72, 592), (8, 79, 89, 1, 0, 925, 927, 22, 79, 928), (8, 140, 90, 1, 0, 929, 931, 23, 79, 932), (8, 151, 62, 1, 0, 933, 619, 620, 80, 621), (8, 156, 22, 3, 0, 934, 598, 599, 72, 600), (8, 160, 63, 3, 0, 935, 609, 610, 80, 611), (8, 143, 23, 3, 0, 936, 631, 632, 72, 633), (8, 147, 27, 6, 0, 937, 677, 678, 72, 679), (8, 82, 91, 1, 0, 938, 940, 24, 79, 941), (8, 163, 28, 4, 0, 942, 698, 699, 72, 700), (8, 167, 29, 4, 0, 943, 721, 722, 72, 723), (8, 85, 92, 1, 0, 944, 946, 25, 79, 947), (8, 170, 30, 2, 0, 948, 731, 732, 72, 733), (8, 174, 33, 2, 0, 949, 756, 757, 72, 758), (8, 88, 93, 1, 0, 950, 952, 26, 79, 953), (8, 177, 34, 2, 0, 954, 768, 769, 72, 770), (8, 180, 35, 2, 0, 955, 776, 777, 72, 778), (8, 43, 60, 3, 0, 956, 957, 958, 78, 959), (13, 78, 129, 2, 0, 960, 961, 962, 71, 963), (13, 82, 130, 3, 0, 964, 965, 966, 71, 967), (11, 188, 14, 3, 0, 968, 969, 970, 73, 971), (13, 86, 131, 2, 0, 972, 973, 974, 71, 975), (11, 198, 11, 3, 0, 977, 978, 979, 73, 980), (0, 73, 3, 2, 0, 981, 546, 547, 73, 548), (0, 79, 12, 3, 0, 983, 985, 27, 73, 986), (13, 91, 132, 4, 0, 987, 988, 989, 71, 990), (11, 202, 36, 4, 0, 991, 992, 993, 72, 994), (1, 199, 11, 3, 0, 995, 978, 979, 73, 980), (13, 96, 133, 3, 0, 996, 997, 998, 71, 999), (11, 210, 39, 2, 0, 1000, 702, 703, 77, 704), (11, 213, 47, 3, 0, 1001, 1002, 1003, 77, 1004), (13, 100, 134, 4, 0, 1005, 1006, 1007, 71, 1008), (11, 217, 41, 3, 0, 1009, 711, 712, 77, 713), (11, 220, 42, 3, 0, 1010, 715, 716, 77, 717), (13, 104, 135, 4, 0, 1011, 1012, 1013, 71, 1014), (11, 228, 45, 4, 0, 1015, 1016, 1017, 77, 1018), (2, 96, 46, 4, 1, 1019, 1020, 0, 77, 1021), (13, 108, 136, 3, 0, 1023, 1024, 1025, 71, 1026), (11, 231, 72, 2, 0, 1027, 1028, 1029, 76, 1030), (11, 232, 81, 3, 0, 1031, 1032, 1033, 76, 1034), (7, 41, 75, 2, 0, 1035, 740, 741, 76, 742), (7, 44, 78, 2, 0, 1036, 772, 773, 76, 774), (13, 112, 137, 2, 0, 1037, 1038, 1039, 71, 1040), (11, 233, 106, 2, 0, 1041, 1042, 1043, 82, 1044), (10, 31, 105, 1, 0, 1045, 849, 850, 82, 851), (10, 34, 107, 1, 0, 1046, 1048, 28, 82, 1049), (10, 54, 3, 2, 0, 1051, 546, 547, 73, 548), (10, 67, 111, 2, 0, 1053, 1055, 29, 82, 1056), (10, 87, 113, 2, 0, 1057, 1059, 30, 82, 1060), (10, 100, 11, 3, 0, 1062, 978, 979, 73, 980), (10, 90, 112, 2, 0, 1063, 1065, 31, 82, 1066), (10, 37, 108, 4, 0, 1069, 1071, 32, 82, 1072), (10, 41, 109, 1, 0, 1073, 1075, 33, 82, 1076), (10, 76, 13, 2, 0, 1077, 1078, 1079, 73, 1080), (10, 83, 110, 3, 0, 1083, 1085, 34, 82, 1086), (13, 116, 138, 2, 0, 1087, 1088, 1089, 71, 1090), (13, 120, 139, 7, 0, 1091, 1092, 1093, 71, 1094), (11, 243, 146, 1, 1, 1095, 1096, 0, 71, 1097), (13, 125, 140, 2, 0, 1098, 1099, 1100, 71, 1101), (11, 264, 141, 2, 0, 1102, 1104, 35, 71, 1105), (13, 12, 149, 1, 2, 1108, 1109, 0, 83, 1110), (13, 17, 159, 5, 0, 1261, 1262, 1263, 83, 1264), (12, 148, 151, 2, 0, 1265, 1267, 36, 83, 1268), (12, 116, 150, 3, 1, 1269, 1270, 0, 83, 1271), (12, 156, 158, 2, 0, 1274, 1276, 37, 83, 1277), (12, 159, 152, 1, 0, 1278, 1280, 38, 83, 1281), (12, 162, 153, 2, 0, 1282, 1284, 39, 83, 1285), (12, 166, 154, 1, 0, 1289, 1291, 40, 83, 1292), (12, 170, 157, 2, 0, 1293, 1295, 41, 83, 1296), (12, 140, 155, 2, 1, 1298, 1299, 0, 83, 1300), (12, 144, 156, 2, 0, 1302, 1304, 42, 83, 1305), (13, 22, 160, 3, 0, 1306, 1307, 1308, 83, 1309), (13, 27, 162, 2, 0, 1310, 1311, 1312, 83, 1313), (12, 176, 161, 2, 0, 1314, 1316, 43, 83, 1317), (13, 31, 163, 2, 0, 1318, 1319, 1320, 83, 1321), (13, 38, 164, 3, 0, 1322, 1323, 1324, 83, 1325), (13, 43, 165, 1, 0, 1328, 1329, 1330, 83, 1331), (13, 48, 173, 3, 0, 1332, 1333, 1334, 83, 1335), (12, 217, 166, 3, 0, 1336, 1338, 44, 83, 1339), (12, 221, 172, 3, 0, 1340, 1342, 45, 83, 1343), (12, 206, 171, 3, 0, 1344, 1346, 46, 83, 1347), (12, 210, 169, 2, 0, 1348, 1350, 47, 83, 1351), (12, 194, 167, 2, 0, 1352, 1354, 48, 83, 1355), (12, 200, 168, 1, 0, 1356, 1358, 49, 83, 1359), (12, 213, 170, 5, 0, 1362, 1364, 50, 83, 1365), (13, 52, 174, 3, 0, 1366, 1367, 1368, 83, 1369), (12, 224, 175, 2, 0, 1370, 1372, 51, 83, 1373), (13, 56, 178, 1, 0, 1374, 1375, 1376, 83, 1377), (12, 227, 177, 2, 0, 1378, 1380, 52, 83, 1381), (12, 230, 176, 4, 0, 1382, 1384, 53, 83, 1385), (13, 60, 179, 1, 0, 1386, 1387, 1388, 83, 1389), (13, 65, 181, 5, 0, 1390, 1391, 1392, 83, 1393), (12, 241, 180, 2, 0, 1395, 1397, 54, 83, 1398), (13, 124, 182, 7, 0, 1400, 1401, 1402, 83, 1403), (13, 69, 183, 1, 0, 1406, 1407, 1408, 83, 1409), (13, 73, 184, 3, 0, 1410, 1411, 1412, 83, 1413), (13, 77, 192, 1, 0, 1415, 1416, 1417, 83, 1418), (12, 313, 191, 1, 0, 1419, 1421, 55, 83, 1422), (12, 310, 189, 2, 0, 1423, 1425, 56, 83, 1426), (12, 273, 186, 1, 0, 1427, 1429, 57, 83, 1430), (12, 265, 185, 1, 0, 1431, 1433, 58, 83, 1434), (12, 277, 187, 1, 0, 1437, 1439, 59, 83, 1440), (12, 280, 188, 1, 0, 1441, 1443, 60, 83, 1444), (12, 283, 159, 5, 0, 1445, 1262, 1263, 83, 1264), (12, 287, 160, 3, 0, 1446, 1307, 1308, 83, 1309), (12, 291, 162, 2, 0, 1447, 1311, 1312, 83, 1313), (12, 294, 163, 2, 0, 1448, 1319, 1320, 83, 1321), (12, 296, 190, 1, 0, 1449, 1451, 61, 83, 1452), (12, 299, 174, 3, 0, 1454, 1367, 1368, 83, 1369), (12, 302, 178, 1, 0, 1455, 1375, 1376, 83, 1377), (12, 305, 179, 1, 0, 1456, 1387, 1388, 83, 1389), (13, 81, 193, 2, 0, 1457, 1458, 1459, 83, 1460), (13, 85, 194, 3, 0, 1461, 1462, 1463, 83, 1464), (13, 90, 197, 2, 0, 1465, 1466, 1467, 83, 1468), (12, 320, 196, 2, 0, 1469, 1471, 62, 83, 1472), (12, 316, 195, 3, 0, 1473, 1475, 63, 83, 1476), (13, 95, 198, 4, 0, 1477, 1478, 1479, 83, 1480), (13, 99, 199, 3, 0, 1481, 1482, 1483, 83, 1484), (13, 103, 200, 4, 0, 1485, 1486, 1487, 83, 1488), (13, 107, 201, 4, 0, 1489, 1490, 1491, 83, 1492), (13, 111, 202, 3, 0, 1493, 1494, 1495, 83, 1496), (13, 115, 209, 2, 0, 1497, 1498, 1499, 83, 1500), (12, 332, 205, 2, 0, 1501, 1503, 64, 83, 1504), (12, 324, 203, 2, 0, 1505, 1507, 65, 83, 1508), (12, 329, 204, 2, 0, 1509, 1511, 66, 83, 1512), (12, 338, 206, 1, 0, 1514, 1516, 67, 83, 1517), (12, 341, 208, 3, 0, 1518, 1520, 68, 83, 1521), (12, 335, 207, 2, 0, 1522, 1524, 69, 83, 1525), (13, 119, 210, 2, 0, 1526, 1527, 1528, 83, 1529), (13, 128, 211, 2, 0, 1530, 1531, 1532, 83, 1533), (11, 9, 15, 1, 3, 97, 98, 0, 72, 99), (1, 11, 0, 1, 3, 103, 104, 0, 73, 105), (1, 20, 70, 1, 3, 182, 183, 0, 76, 184), (1, 27, 37, 1, 3, 207, 208, 0, 77, 209), (11, 18, 51, 1, 3, 281, 282, 0, 78, 283), (11, 46, 98, 1, 3, 372, 373, 0, 81, 374), (1, 85, 147, 1, 4, 601, 602, 0, 71, 603), (1, 132, 148, 2, 4, 673, 606, 0, 71, 607)]
/-- own class, pool place; which of the rows given for whole (0 .. 11); place of the word -/
def mi_tQ : List (Nat × Nat × Nat × Nat) := [(11, 1, 11, 92), (1, 3, 11, 100), (0, 3, 11, 106), (0, 11, 0, 109), (3, 1, 11, 112), (0, 37, 3, 123), (6, 1, 11, 126), (7, 3, 11, 185), (7, 11, 0, 187), (2, 3, 11, 210), (2, 11, 0, 212), (2, 43, 3, 214), (1, 38, 3, 256), (4, 3, 11, 284), (4, 11, 0, 286), (8, 3, 11, 319), (5, 1, 11, 325), (5, 9, 0, 327), (5, 20, 3, 329), (9, 3, 11, 375), (9, 11, 3, 377), (9, 22, 0, 379), (10, 3, 11, 399), (10, 11, 0, 401), (0, 56, 1, 458), (4, 32, 2, 475), (3, 17, 9, 479), (3, 23, 10, 482), (4, 41, 1, 507), (0, 60, 2, 518), (0, 64, 5, 519), (6, 17, 9, 523), (6, 23, 10, 524), (7, 34, 1, 574), (7, 30, 2, 579), (1, 79, 1, 588), (5, 29, 2, 612), (5, 33, 5, 613), (5, 36, 4, 638), (1, 116, 7, 658), (1, 120, 4, 665), (1, 123, 6, 666), (6, 32, 4, 670), (6, 36, 5, 671), (11, 179, 1, 674), (11, 256, 4, 675), (0, 70, 6, 684), (2, 55, 2, 689), (2, 65, 1, 690), (2, 72, 4, 691), (2, 75, 5, 692), (1, 164, 2, 725), (2, 92, 7, 747), (2, 93, 6, 748), (9, 34, 2, 810), (9, 38, 1, 815), (9, 42, 5, 816), (9, 45, 8, 817), (9, 51, 4, 820), (9, 64, 6, 830), (4, 57, 9, 847), (8, 62, 1, 884), (0, 76, 4, 982), (10, 50, 1, 1050), (10, 62, 4, 1052), (10, 112, 2, 1061), (10, 104, 8, 1067), (12, 1, 11, 1111)]
def mi_tF : List (Nat × Nat × Nat × Nat × Nat) := [(0, 14, 0, 0, 135), (10, 97, 0, 0, 136), (0, 20, 0, 1, 137), (10, 73, 0, 1, 138), (1, 75, 0, 1, 139), (0, 23, 0, 2, 140), (10, 70, 0, 2, 141), (0, 26, 0, 3, 142), (10, 94, 0, 3, 143), (0, 29, 0, 4, 144), (11, 227, 0, 4, 145), (0, 32, 0, 5, 146), (10, 47, 0, 5, 147), (1, 182, 0, 5, 148), (0, 38, 0, 6, 149), (10, 58, 0, 6, 150), (1, 127, 0, 6, 151), (11, 194, 0, 6, 152), (0, 42, 0, 7, 153), (0, 45, 0, 8, 154), (0, 48, 0, 9, 155), (1, 61, 0, 9, 156), (10, 44, 0, 9, 157), (11, 267, 0, 9, 158), (7, 14, 7, 0, 188), (7, 20, 7, 1, 189), (7, 23, 7, 2, 190), (1, 74, 7, 2, 191), (11, 268, 7, 2, 192), (7, 27, 7, 3, 193), (1, 99, 7, 3, 194), (11, 269, 7, 3, 195), (2, 14, 2, 0, 215), (2, 20, 2, 1, 216), (1, 158, 2, 1, 217), (2, 23, 2, 2, 218), (1, 144, 2, 2, 219), (2, 26, 2, 3, 220), (11, 214, 2, 3, 221), (2, 29, 2, 4, 222), (1, 147, 2, 4, 223), (2, 32, 2, 5, 224), (2, 35, 2, 6, 225), (2, 38, 2, 7, 226), (2, 44, 2, 8, 227), (2, 48, 2, 9, 228), (1, 113, 2, 9, 229), (11, 272, 2, 9, 230), (2, 52, 2, 10, 231), (1, 12, 1, 0, 257), (11, 53, 1, 0, 258), (8, 105, 1, 0, 259), (1, 21, 1, 1, 260), (11, 101, 1, 1, 261), (8, 126, 1, 1, 262), (1, 28, 1, 2, 263), (11, 206, 1, 2, 264), (1, 32, 1, 3, 265), (11, 273, 1, 3, 266), (1, 41, 1, 4, 267), (4, 14, 4, 0, 287), (8, 58, 4, 0, 288), (11, 175, 4, 0, 289), (4, 20, 4, 1, 290), (4, 27, 4, 2, 291), (4, 23, 4, 3, 292), (4, 36, 4, 4, 293), (11, 168, 4, 4, 294), (4, 54, 4, 5, 295), (11, 261, 4, 5, 296), (4, 49, 4, 6, 297), (11, 172, 4, 6, 298), (5, 12, 5, 0, 330), (2, 62, 5, 0, 331), (1, 114, 5, 0, 332), (11, 280, 5, 0, 333), (5, 21, 5, 1, 334), (2, 69, 5, 1, 335), (1, 117, 5, 1, 336), (11, 282, 5, 1, 337), (5, 25, 5, 2, 338), (2, 59, 5, 2, 339), (11, 119, 5, 2, 340), (1, 89, 5, 2, 341), (8, 20, 8, 0, 349), (8, 24, 8, 1, 350), (8, 14, 8, 2, 351), (8, 47, 8, 3, 352), (8, 51, 8, 4, 353), (8, 54, 8, 5, 354), (9, 14, 9, 0, 380), (11, 253, 9, 0, 381), (9, 23, 9, 1, 382), (9, 27, 9, 2, 383), (9, 30, 9, 3, 384), (10, 14, 10, 0, 402), (11, 236, 10, 0, 403), (10, 23, 10, 1, 404), (10, 20, 10, 2, 405), (10, 27, 10, 3, 406), (11, 235, 10, 3, 407), (11, 10, 11, 0, 417), (11, 19, 11, 1, 418), (11, 28, 11, 2, 419), (11, 37, 11, 3, 420), (11, 41, 11, 4, 421), (11, 47, 11, 5, 422), (11, 60, 11, 6, 423), (11, 64, 11, 7, 424), (12, 7, 12, 0, 1112), (12, 129, 12, 1, 1113), (12, 113, 12, 2, 1114), (12, 13, 12, 3, 1115), (12, 17, 12, 4, 1116), (12, 20, 12, 5, 1117), (12, 23, 12, 6, 1118), (12, 27, 12, 7, 1119), (12, 30, 12, 8, 1120), (12, 33, 12, 9, 1121), (12, 37, 12, 10, 1122), (12, 173, 12, 11, 1123), (12, 197, 12, 12, 1124), (12, 41, 12, 13, 1125), (12, 44, 12, 14, 1126), (12, 203, 12, 15, 1127), (12, 47, 12, 16, 1128), (12, 50, 12, 17, 1129), (12, 53, 12, 18, 1130), (12, 56, 12, 19, 1131), (12, 59, 12, 20, 1132), (12, 62, 12, 21, 1133), (12, 65, 12, 22, 1134), (12, 68, 12, 23, 1135), (12, 184, 12, 24, 1136), (12, 71, 12, 25, 1137), (12, 74, 12, 26, 1138), (12, 187, 12, 27, 1139), (12, 77, 12, 28, 1140), (12, 80, 12, 29, 1141), (12, 132, 12, 30, 1142), (12, 248, 12, 31, 1143), (12, 137, 12, 32, 1144), (12, 83, 12, 33, 1145), (12, 120, 12, 34, 1146), (12, 86, 12, 35, 1147), (12, 253, 12, 36, 1148), (12, 89, 12, 37, 1149), (12, 92, 12, 38, 1150), (12, 95, 12, 39, 1151), (12, 98, 12, 40, 1152), (12, 234, 12, 41, 1153), (12, 101, 12, 42, 1154), (12, 104, 12, 43, 1155), (12, 107, 12, 44, 1156), (12, 110, 12, 45, 1157), (12, 259, 12, 46, 1158), (12, 262, 12, 47, 1159), (12, 256, 12, 48, 1160)]
def mi_tW : List (Nat × Nat × Nat × Nat × Nat × Nat) := [(13, 7, 11, 87, 88, 71), (11, 7, 1, 95, 96, 72), (1, 9, 0, 101, 102, 73), (0, 9, 3, 107, 108, 74), (0, 35, 6, 121, 122, 75), (1, 18, 7, 180, 181, 76), (7, 9, 3, 186, 108, 74), (1, 25, 2, 205, 206, 77), (2, 9, 3, 211, 108, 74), (2, 41, 6, 213, 122, 75), (1, 36, 6, 255, 122, 75), (11, 16, 4, 279, 280, 78), (4, 9, 3, 285, 108, 74), (11, 23, 8, 314, 315, 79), (8, 9, 5, 320, 321, 80), (5, 7, 3, 326, 108, 74), (5, 18, 6, 328, 122, 75), (11, 32, 5, 368, 321, 80), (11, 44, 9, 370, 371, 81), (9, 9, 6, 376, 122, 75), (9, 20, 3, 378, 108, 74), (11, 51, 10, 394, 395, 82), (10, 9, 3, 400, 108, 74), (13, 10, 12, 1106, 1107, 83)]
def mi_tKL : List (Nat × Nat × Int64 × Nat) := [(4, 30, 127, 474), (11, 237, 1000000000000000, 604), (1, 130, 10000000000000000, 672), (11, 296, 1000, 796), (9, 58, -1, 825), (11, 192, -9223372036854775808, 976), (2, 100, -9223372036854775808, 1022), (10, 110, 10, 1068), (12, 152, 9999, 1272), (12, 154, 4, 1273), (12, 123, -2, 1286), (12, 125, 2, 1287), (12, 127, 127, 1288), (12, 180, -1000000000000000, 1326), (12, 182, 1000000000000000, 1327), (12, 190, -10000000000000000, 1360), (12, 192, 10000000000000000, 1361), (12, 239, 1000, 1394), (12, 237, -1, 1399), (12, 244, 3, 1404), (12, 246, -9223372036854775808, 1405), (12, 251, 255, 1414), (12, 269, -2147483648, 1435), (12, 271, 2147483647, 1436), (12, 308, 8, 1453), (12, 327, 10, 1513), (12, 344, 5, 1534), (12, 346, 7, 1535), (12, 348, 9, 1536), (13, 32, 4294967295, 1537)]
def mi_tKI : List (Nat × Nat × Int32 × Nat) := [(4, 52, 65535, 512), (4, 53, 32768, 513), (12, 136, 65535, 1297), (12, 135, 32768, 1301)]
def mi_C (o i : Nat) : Option (Nat × Nat × Nat) := (mi_tC.find? (fun e => e.1 == o && e.2.1 == i)).map (fun e => (e.2.2.1, e.2.2.2.1, e.2.2.2.2.1))
def mi_Q (o i : Nat) : Option Nat := (mi_tQ.find? (fun e => e.1 == o && e.2.1 == i)).map (fun e => e.2.2.1)
def mi_F (o i : Nat) : Option (Nat × Nat) := (mi_tF.find? (fun e => e.1 == o && e.2.1 == i)).map (fun e => (e.2.2.1, e.2.2.2.1))
def mi_W (o i : Nat) : Option Nat := (mi_tW.find? (fun e => e.1 == o && e.2.1 == i)).map (fun e => e.2.2.1)
def mi_KL (o i : Nat) : Option Int64 := (mi_tKL.find? (fun e => e.1 == o && e.2.1 == i)).map (fun e => e.2.2.1)
def mi_KI (o i : Nat) : Option Int32 := (mi_tKI.find? (fun e => e.1 == o && e.2.1 == i)).map (fun e => e.2.2.1)
def mi_let : Nat × Nat := (10, 79)
def mi_law : Nat := 212
def mi_ws : List Cond := lw_tbl.filter goodWord
theorem mi_ws_tbl {w : Cond} (h : w ∈ mi_ws) : w ∈ lw_tbl := (List.mem_filter.mp h).1
theorem mi_ws_good {w : Cond} (h : w ∈ mi_ws) : (w.onTables && w.keeps) = true ∨ ∃ ty, w = .arrayClass ty := good_of_word (List.mem_filter.mp h).2
theorem mi_ws_of {w : Cond} (p : Nat) (h : lw_tbl[p]? = some w) (g : goodWord w = true) : w ∈ mi_ws := List.mem_filter.mpr ⟨List.mem_of_getElem? h, g⟩
def mi_PC : Nat × Nat × Nat × Nat × Nat × Nat × Nat × Nat × Nat × Nat → Prop := fun e => match e with
  | (o, i, z, n, kd, p1, p2, p3, p4, p5) =>
    (kd < 3 → lw_tbl[p1]? = some (Cond.methodLink (mi_RX o) i (mi_N z))) ∧ (¬ kd < 3 → lw_tbl[p1]? = some (Cond.methodLinkNest (mi_RX o) i (mi_N z) "LedgerTwice"))
    ∧ (kd = 1 ∨ kd = 4 → lw_tbl[p2]? = some (Cond.static (mi_N z))) ∧ (¬ (kd = 1 ∨ kd = 4) → lw_tbl[p2]? = some (Cond.instanceMethod (mi_N z)))
    ∧ (kd = 0 → lw_tbl[p3]? = some (Cond.selects (mi_RX (mi_O z)) (mi_N z) (mi_N z)))
    ∧ lw_tbl[p4]? = some (Cond.initialized (mi_RX (mi_O z)))
    ∧ lw_tbl[p5]? = some (Cond.code (mi_N z) (mi_B z) (mi_L z) (mi_R z))
    ∧ (mi_N z).cls = mi_RX (mi_O z)
    ∧ (parseMethodDescriptor (mi_N z).desc).map (fun d => d.parameters.length) = some (if kd = 1 ∨ kd = 4 then n else n - 1)
    ∧ (mi_L z).ble 40 = true ∧ (1 ≤ n ∨ kd = 1 ∨ kd = 4) ∧ kd < 5
    ∧ (kd = 2 ∨ kd = 3 → (mi_N z).name = "<init>" ∧ mi_R z = none)
set_option maxRecDepth 100000 in
theorem mi_pc0 : mi_PC (13, 9, 114, 1, 2, 89, 90, 0, 71, 91) := ⟨(fun _ => rfl), (fun h => absurd h (by decide)), (fun h => absurd h (by decide)), (fun _ => rfl), (fun h => absurd h (by decide)), rfl, rfl, rfl, (by decide +kernel), rfl, (by decide), (by decide), (fun _ => ⟨rfl, rfl⟩)⟩
set_option maxRecDepth 100000 in
theorem mi_pc1 : mi_PC (11, 25, 82, 3, 2, 316, 317, 0, 79, 318) := ⟨(fun _ => rfl), (fun h => absurd h (by decide)), (fun h => absurd h (by decide)), (fun _ => rfl), (fun h => absurd h (by decide)), rfl, rfl, rfl, (by decide +kernel), rfl, (by decide), (by decide), (fun _ => ⟨rfl, rfl⟩)⟩
set_option maxRecDepth 100000 in
theorem mi_pc2 : mi_PC (8, 11, 61, 2, 2, 322, 323, 0, 80, 324) := ⟨(fun _ => rfl), (fun h => absurd h (by decide)), (fun h => absurd h (by decide)), (fun _ => rfl), (fun h => absurd h (by decide)), rfl, rfl, rfl, (by decide +kernel), rfl, (by decide), (by decide), (fun _ => ⟨rfl, rfl⟩)⟩
set_option maxRecDepth 100000 in
theorem mi_pc3 : mi_PC (11, 34, 61, 2, 2, 369, 323, 0, 80, 324) := ⟨(fun _ => rfl), (fun h => absurd h (by decide)), (fun h => absurd h (by decide)), (fun _ => rfl), (fun h => absurd h (by decide)), rfl, rfl, rfl, (by decide +kernel), rfl, (by decide), (by decide), (fun _ => ⟨rfl, rfl⟩)⟩
set_option maxRecDepth 100000 in
theorem mi_pc4 : mi_PC (11, 57, 104, 2, 2, 396, 397, 0, 82, 398) := ⟨(fun _ => rfl), (fun h => absurd h (by decide)), (fun h => absurd h (by decide)), (fun _ => rfl), (fun h => absurd h (by decide)), rfl, rfl, rfl, (by decide +kernel), rfl, (by decide), (by decide), (fun _ => ⟨rfl, rfl⟩)⟩
set_option maxRecDepth 100000 in
theorem mi_pc5 : mi_PC (13, 13, 115, 5, 0, 442, 443, 444, 71, 445) := ⟨(fun _ => rfl), (fun h => absurd h (by decide)), (fun h => absurd h (by decide)), (fun _ => rfl), (fun _ => rfl), rfl, rfl, rfl, (by decide +kernel), rfl, (by decide), (by decide), (fun h => absurd h (by decide))⟩
set_option maxRecDepth 100000 in
theorem mi_pc6 : mi_PC (11, 68, 17, 4, 0, 446, 447, 448, 72, 449) := ⟨(fun _ => rfl), (fun h => absurd h (by decide)), (fun h => absurd h (by decide)), (fun _ => rfl), (fun _ => rfl), rfl, rfl, rfl, (by decide +kernel), rfl, (by decide), (by decide), (fun h => absurd h (by decide))⟩
set_option maxRecDepth 100000 in
theorem mi_pc7 : mi_PC (1, 50, 2, 2, 0, 450, 451, 452, 73, 453) := ⟨(fun _ => rfl), (fun h => absurd h (by decide)), (fun h => absurd h (by decide)), (fun _ => rfl), (fun _ => rfl), rfl, rfl, rfl, (by decide +kernel), rfl, (by decide), (by decide), (fun h => absurd h (by decide))⟩
set_option maxRecDepth 100000 in
theorem mi_pc8 : mi_PC (1, 54, 6, 3, 0, 454, 455, 456, 73, 457) := ⟨(fun _ => rfl), (fun h => absurd h (by decide)), (fun h => absurd h (by decide)), (fun _ => rfl), (fun _ => rfl), rfl, rfl, rfl, (by decide +kernel), rfl, (by decide), (by decide), (fun h => absurd h (by decide))⟩
set_option maxRecDepth 100000 in
theorem mi_pc9 : mi_PC (1, 58, 7, 2, 0, 462, 463, 464, 73, 465) := ⟨(fun _ => rfl), (fun h => absurd h (by decide)), (fun h => absurd h (by decide)), (fun _ => rfl), (fun _ => rfl), rfl, rfl, rfl, (by decide +kernel), rfl, (by decide), (by decide), (fun h => absurd h (by decide))⟩
set_option maxRecDepth 100000 in
theorem mi_pc10 : mi_PC (11, 72, 52, 2, 0, 466, 467, 468, 78, 469) := ⟨(fun _ => rfl), (fun h => absurd h (by decide)), (fun h => absurd h (by decide)), (fun _ => rfl), (fun _ => rfl), rfl, rfl, rfl, (by decide +kernel), rfl, (by decide), (by decide), (fun h => absurd h (by decide))⟩
set_option maxRecDepth 100000 in
theorem mi_pc11 : mi_PC (11, 75, 53, 2, 0, 470, 471, 472, 78, 473) := ⟨(fun _ => rfl), (fun h => absurd h (by decide)), (fun h => absurd h (by decide)), (fun _ => rfl), (fun _ => rfl), rfl, rfl, rfl, (by decide +kernel), rfl, (by decide), (by decide), (fun h => absurd h (by decide))⟩
set_option maxRecDepth 100000 in
theorem mi_pc12 : mi_PC (11, 79, 54, 1, 0, 499, 500, 501, 78, 502) := ⟨(fun _ => rfl), (fun h => absurd h (by decide)), (fun h => absurd h (by decide)), (fun _ => rfl), (fun _ => rfl), rfl, rfl, rfl, (by decide +kernel), rfl, (by decide), (by decide), (fun h => absurd h (by decide))⟩
set_option maxRecDepth 100000 in
theorem mi_pc13 : mi_PC (4, 39, 55, 2, 0, 503, 505, 0, 78, 506) := ⟨(fun _ => rfl), (fun h => absurd h (by decide)), (fun h => absurd h (by decide)), (fun _ => rfl), (fun _ => rfl), rfl, rfl, rfl, (by decide +kernel), rfl, (by decide), (by decide), (fun h => absurd h (by decide))⟩
set_option maxRecDepth 100000 in
theorem mi_pc14 : mi_PC (4, 45, 56, 3, 0, 508, 510, 1, 78, 511) := ⟨(fun _ => rfl), (fun h => absurd h (by decide)), (fun h => absurd h (by decide)), (fun _ => rfl), (fun _ => rfl), rfl, rfl, rfl, (by decide +kernel), rfl, (by decide), (by decide), (fun h => absurd h (by decide))⟩
set_option maxRecDepth 100000 in
theorem mi_pc15 : mi_PC (11, 83, 8, 5, 0, 514, 515, 516, 73, 517) := ⟨(fun _ => rfl), (fun h => absurd h (by decide)), (fun h => absurd h (by decide)), (fun _ => rfl), (fun _ => rfl), rfl, rfl, rfl, (by decide +kernel), rfl, (by decide), (by decide), (fun h => absurd h (by decide))⟩
set_option maxRecDepth 100000 in
theorem mi_pc16 : mi_PC (0, 67, 9, 2, 0, 533, 535, 2, 73, 536) := ⟨(fun _ => rfl), (fun h => absurd h (by decide)), (fun h => absurd h (by decide)), (fun _ => rfl), (fun _ => rfl), rfl, rfl, rfl, (by decide +kernel), rfl, (by decide), (by decide), (fun h => absurd h (by decide))⟩
set_option maxRecDepth 100000 in
theorem mi_pc17 : mi_PC (13, 18, 116, 3, 0, 537, 538, 539, 71, 540) := ⟨(fun _ => rfl), (fun h => absurd h (by decide)), (fun h => absurd h (by decide)), (fun _ => rfl), (fun _ => rfl), rfl, rfl, rfl, (by decide +kernel), rfl, (by decide), (by decide), (fun h => absurd h (by decide))⟩
set_option maxRecDepth 100000 in
theorem mi_pc18 : mi_PC (11, 89, 18, 3, 0, 541, 542, 543, 72, 544) := ⟨(fun _ => rfl), (fun h => absurd h (by decide)), (fun h => absurd h (by decide)), (fun _ => rfl), (fun _ => rfl), rfl, rfl, rfl, (by decide +kernel), rfl, (by decide), (by decide), (fun h => absurd h (by decide))⟩
set_option maxRecDepth 100000 in
theorem mi_pc19 : mi_PC (1, 64, 3, 2, 0, 545, 546, 547, 73, 548) := ⟨(fun _ => rfl), (fun h => absurd h (by decide)), (fun h => absurd h (by decide)), (fun _ => rfl), (fun _ => rfl), rfl, rfl, rfl, (by decide +kernel), rfl, (by decide), (by decide), (fun h => absurd h (by decide))⟩
set_option maxRecDepth 100000 in
theorem mi_pc20 : mi_PC (0, 52, 2, 2, 0, 549, 451, 452, 73, 453) := ⟨(fun _ => rfl), (fun h => absurd h (by decide)), (fun h => absurd h (by decide)), (fun _ => rfl), (fun _ => rfl), rfl, rfl, rfl, (by decide +kernel), rfl, (by decide), (by decide), (fun h => absurd h (by decide))⟩
set_option maxRecDepth 100000 in
theorem mi_pc21 : mi_PC (1, 67, 4, 2, 0, 550, 551, 552, 73, 553) := ⟨(fun _ => rfl), (fun h => absurd h (by decide)), (fun h => absurd h (by decide)), (fun _ => rfl), (fun _ => rfl), rfl, rfl, rfl, (by decide +kernel), rfl, (by decide), (by decide), (fun h => absurd h (by decide))⟩
set_option maxRecDepth 100000 in
theorem mi_pc22 : mi_PC (11, 93, 5, 3, 0, 554, 555, 556, 73, 557) := ⟨(fun _ => rfl), (fun h => absurd h (by decide)), (fun h => absurd h (by decide)), (fun _ => rfl), (fun _ => rfl), rfl, rfl, rfl, (by decide +kernel), rfl, (by decide), (by decide), (fun h => absurd h (by decide))⟩
set_option maxRecDepth 100000 in
theorem mi_pc23 : mi_PC (13, 23, 117, 2, 0, 558, 559, 560, 71, 561) := ⟨(fun _ => rfl), (fun h => absurd h (by decide)), (fun h => absurd h (by decide)), (fun _ => rfl), (fun _ => rfl), rfl, rfl, rfl, (by decide +kernel), rfl, (by decide), (by decide), (fun h => absurd h (by decide))⟩
set_option maxRecDepth 100000 in
theorem mi_pc24 : mi_PC (11, 97, 19, 2, 0, 562, 563, 564, 72, 565) := ⟨(fun _ => rfl), (fun h => absurd h (by decide)), (fun h => absurd h (by decide)), (fun _ => rfl), (fun _ => rfl), rfl, rfl, rfl, (by decide +kernel), rfl, (by decide), (by decide), (fun h => absurd h (by decide))⟩
set_option maxRecDepth 100000 in
theorem mi_pc25 : mi_PC (1, 70, 76, 1, 0, 566, 567, 568, 76, 569) := ⟨(fun _ => rfl), (fun h => absurd h (by decide)), (fun h => absurd h (by decide)), (fun _ => rfl), (fun _ => rfl), rfl, rfl, rfl, (by decide +kernel), rfl, (by decide), (by decide), (fun h => absurd h (by decide))⟩
set_option maxRecDepth 100000 in
theorem mi_pc26 : mi_PC (7, 38, 74, 2, 0, 570, 571, 572, 76, 573) := ⟨(fun _ => rfl), (fun h => absurd h (by decide)), (fun h => absurd h (by decide)), (fun _ => rfl), (fun _ => rfl), rfl, rfl, rfl, (by decide +kernel), rfl, (by decide), (by decide), (fun h => absurd h (by decide))⟩
set_option maxRecDepth 100000 in
theorem mi_pc27 : mi_PC (11, 105, 73, 2, 0, 575, 576, 577, 76, 578) := ⟨(fun _ => rfl), (fun h => absurd h (by decide)), (fun h => absurd h (by decide)), (fun _ => rfl), (fun _ => rfl), rfl, rfl, rfl, (by decide +kernel), rfl, (by decide), (by decide), (fun h => absurd h (by decide))⟩
set_option maxRecDepth 100000 in
theorem mi_pc28 : mi_PC (13, 28, 118, 2, 0, 580, 581, 582, 71, 583) := ⟨(fun _ => rfl), (fun h => absurd h (by decide)), (fun h => absurd h (by decide)), (fun _ => rfl), (fun _ => rfl), rfl, rfl, rfl, (by decide +kernel), rfl, (by decide), (by decide), (fun h => absurd h (by decide))⟩
set_option maxRecDepth 100000 in
theorem mi_pc29 : mi_PC (11, 109, 20, 2, 0, 584, 585, 586, 72, 587) := ⟨(fun _ => rfl), (fun h => absurd h (by decide)), (fun h => absurd h (by decide)), (fun _ => rfl), (fun _ => rfl), rfl, rfl, rfl, (by decide +kernel), rfl, (by decide), (by decide), (fun h => absurd h (by decide))⟩
set_option maxRecDepth 100000 in
theorem mi_pc30 : mi_PC (11, 112, 21, 2, 0, 589, 590, 591, 72, 592) := ⟨(fun _ => rfl), (fun h => absurd h (by decide)), (fun h => absurd h (by decide)), (fun _ => rfl), (fun _ => rfl), rfl, rfl, rfl, (by decide +kernel), rfl, (by decide), (by decide), (fun h => absurd h (by decide))⟩
set_option maxRecDepth 100000 in
theorem mi_pc31 : mi_PC (13, 34, 119, 3, 0, 593, 594, 595, 71, 596) := ⟨(fun _ => rfl), (fun h => absurd h (by decide)), (fun h => absurd h (by decide)), (fun _ => rfl), (fun _ => rfl), rfl, rfl, rfl, (by decide +kernel), rfl, (by decide), (by decide), (fun h => absurd h (by decide))⟩
set_option maxRecDepth 100000 in
theorem mi_pc32 : mi_PC (11, 115, 22, 3, 0, 597, 598, 599, 72, 600) := ⟨(fun _ => rfl), (fun h => absurd h (by decide)), (fun h => absurd h (by decide)), (fun _ => rfl), (fun _ => rfl), rfl, rfl, rfl, (by decide +kernel), rfl, (by decide), (by decide), (fun h => absurd h (by decide))⟩
set_option maxRecDepth 100000 in
theorem mi_pc33 : mi_PC (11, 239, 148, 2, 1, 605, 606, 0, 71, 607) := ⟨(fun _ => rfl), (fun h => absurd h (by decide)), (fun _ => rfl), (fun h => absurd h (by decide)), (fun h => absurd h (by decide)), rfl, rfl, rfl, (by decide +kernel), rfl, (by decide), (by decide), (fun h => absurd h (by decide))⟩
set_option maxRecDepth 100000 in
theorem mi_pc34 : mi_PC (11, 123, 63, 3, 0, 608, 609, 610, 80, 611) := ⟨(fun _ => rfl), (fun h => absurd h (by decide)), (fun h => absurd h (by decide)), (fun _ => rfl), (fun _ => rfl), rfl, rfl, rfl, (by decide +kernel), rfl, (by decide), (by decide), (fun h => absurd h (by decide))⟩
set_option maxRecDepth 100000 in
theorem mi_pc35 : mi_PC (13, 39, 120, 1, 0, 614, 615, 616, 71, 617) := ⟨(fun _ => rfl), (fun h => absurd h (by decide)), (fun h => absurd h (by decide)), (fun _ => rfl), (fun _ => rfl), rfl, rfl, rfl, (by decide +kernel), rfl, (by decide), (by decide), (fun h => absurd h (by decide))⟩
set_option maxRecDepth 100000 in
theorem mi_pc36 : mi_PC (11, 126, 62, 1, 0, 618, 619, 620, 80, 621) := ⟨(fun _ => rfl), (fun h => absurd h (by decide)), (fun h => absurd h (by decide)), (fun _ => rfl), (fun _ => rfl), rfl, rfl, rfl, (by decide +kernel), rfl, (by decide), (by decide), (fun h => absurd h (by decide))⟩
set_option maxRecDepth 100000 in
theorem mi_pc37 : mi_PC (13, 44, 121, 3, 0, 622, 623, 624, 71, 625) := ⟨(fun _ => rfl), (fun h => absurd h (by decide)), (fun h => absurd h (by decide)), (fun _ => rfl), (fun _ => rfl), rfl, rfl, rfl, (by decide +kernel), rfl, (by decide), (by decide), (fun h => absurd h (by decide))⟩
set_option maxRecDepth 100000 in
theorem mi_pc38 : mi_PC (11, 129, 142, 4, 0, 626, 628, 3, 71, 629) := ⟨(fun _ => rfl), (fun h => absurd h (by decide)), (fun h => absurd h (by decide)), (fun _ => rfl), (fun _ => rfl), rfl, rfl, rfl, (by decide +kernel), rfl, (by decide), (by decide), (fun h => absurd h (by decide))⟩
set_option maxRecDepth 100000 in
theorem mi_pc39 : mi_PC (11, 276, 23, 3, 0, 630, 631, 632, 72, 633) := ⟨(fun _ => rfl), (fun h => absurd h (by decide)), (fun h => absurd h (by decide)), (fun _ => rfl), (fun _ => rfl), rfl, rfl, rfl, (by decide +kernel), rfl, (by decide), (by decide), (fun h => absurd h (by decide))⟩
set_option maxRecDepth 100000 in
theorem mi_pc40 : mi_PC (1, 92, 64, 1, 0, 634, 635, 636, 80, 637) := ⟨(fun _ => rfl), (fun h => absurd h (by decide)), (fun h => absurd h (by decide)), (fun _ => rfl), (fun _ => rfl), rfl, rfl, rfl, (by decide +kernel), rfl, (by decide), (by decide), (fun h => absurd h (by decide))⟩
set_option maxRecDepth 100000 in
theorem mi_pc41 : mi_PC (1, 96, 77, 2, 0, 642, 643, 644, 76, 645) := ⟨(fun _ => rfl), (fun h => absurd h (by decide)), (fun h => absurd h (by decide)), (fun _ => rfl), (fun _ => rfl), rfl, rfl, rfl, (by decide +kernel), rfl, (by decide), (by decide), (fun h => absurd h (by decide))⟩
set_option maxRecDepth 100000 in
theorem mi_pc42 : mi_PC (1, 102, 25, 2, 0, 646, 648, 4, 72, 649) := ⟨(fun _ => rfl), (fun h => absurd h (by decide)), (fun h => absurd h (by decide)), (fun _ => rfl), (fun _ => rfl), rfl, rfl, rfl, (by decide +kernel), rfl, (by decide), (by decide), (fun h => absurd h (by decide))⟩
set_option maxRecDepth 100000 in
theorem mi_pc43 : mi_PC (1, 106, 24, 2, 0, 650, 652, 5, 72, 653) := ⟨(fun _ => rfl), (fun h => absurd h (by decide)), (fun h => absurd h (by decide)), (fun _ => rfl), (fun _ => rfl), rfl, rfl, rfl, (by decide +kernel), rfl, (by decide), (by decide), (fun h => absurd h (by decide))⟩
set_option maxRecDepth 100000 in
theorem mi_pc44 : mi_PC (1, 110, 26, 2, 0, 654, 656, 6, 72, 657) := ⟨(fun _ => rfl), (fun h => absurd h (by decide)), (fun h => absurd h (by decide)), (fun _ => rfl), (fun _ => rfl), rfl, rfl, rfl, (by decide +kernel), rfl, (by decide), (by decide), (fun h => absurd h (by decide))⟩
set_option maxRecDepth 100000 in
theorem mi_pc45 : mi_PC (11, 285, 27, 6, 0, 676, 677, 678, 72, 679) := ⟨(fun _ => rfl), (fun h => absurd h (by decide)), (fun h => absurd h (by decide)), (fun _ => rfl), (fun _ => rfl), rfl, rfl, rfl, (by decide +kernel), rfl, (by decide), (by decide), (fun h => absurd h (by decide))⟩
set_option maxRecDepth 100000 in
theorem mi_pc46 : mi_PC (1, 136, 10, 3, 0, 680, 681, 682, 73, 683) := ⟨(fun _ => rfl), (fun h => absurd h (by decide)), (fun h => absurd h (by decide)), (fun _ => rfl), (fun _ => rfl), rfl, rfl, rfl, (by decide +kernel), rfl, (by decide), (by decide), (fun h => absurd h (by decide))⟩
set_option maxRecDepth 100000 in
theorem mi_pc47 : mi_PC (1, 139, 40, 6, 0, 685, 686, 687, 77, 688) := ⟨(fun _ => rfl), (fun h => absurd h (by decide)), (fun h => absurd h (by decide)), (fun _ => rfl), (fun _ => rfl), rfl, rfl, rfl, (by decide +kernel), rfl, (by decide), (by decide), (fun h => absurd h (by decide))⟩
set_option maxRecDepth 100000 in
theorem mi_pc48 : mi_PC (13, 49, 122, 3, 0, 693, 694, 695, 71, 696) := ⟨(fun _ => rfl), (fun h => absurd h (by decide)), (fun h => absurd h (by decide)), (fun _ => rfl), (fun _ => rfl), rfl, rfl, rfl, (by decide +kernel), rfl, (by decide), (by decide), (fun h => absurd h (by decide))⟩
set_option maxRecDepth 100000 in
theorem mi_pc49 : mi_PC (11, 133, 28, 4, 0, 697, 698, 699, 72, 700) := ⟨(fun _ => rfl), (fun h => absurd h (by decide)), (fun h => absurd h (by decide)), (fun _ => rfl), (fun _ => rfl), rfl, rfl, rfl, (by decide +kernel), rfl, (by decide), (by decide), (fun h => absurd h (by decide))⟩
set_option maxRecDepth 100000 in
theorem mi_pc50 : mi_PC (1, 143, 39, 2, 0, 701, 702, 703, 77, 704) := ⟨(fun _ => rfl), (fun h => absurd h (by decide)), (fun h => absurd h (by decide)), (fun _ => rfl), (fun _ => rfl), rfl, rfl, rfl, (by decide +kernel), rfl, (by decide), (by decide), (fun h => absurd h (by decide))⟩
set_option maxRecDepth 100000 in
theorem mi_pc51 : mi_PC (1, 150, 43, 3, 0, 705, 706, 707, 77, 708) := ⟨(fun _ => rfl), (fun h => absurd h (by decide)), (fun h => absurd h (by decide)), (fun _ => rfl), (fun _ => rfl), rfl, rfl, rfl, (by decide +kernel), rfl, (by decide), (by decide), (fun h => absurd h (by decide))⟩
set_option maxRecDepth 100000 in
theorem mi_pc52 : mi_PC (2, 78, 62, 1, 0, 709, 619, 620, 80, 621) := ⟨(fun _ => rfl), (fun h => absurd h (by decide)), (fun h => absurd h (by decide)), (fun _ => rfl), (fun _ => rfl), rfl, rfl, rfl, (by decide +kernel), rfl, (by decide), (by decide), (fun h => absurd h (by decide))⟩
set_option maxRecDepth 100000 in
theorem mi_pc53 : mi_PC (2, 81, 41, 3, 0, 710, 711, 712, 77, 713) := ⟨(fun _ => rfl), (fun h => absurd h (by decide)), (fun h => absurd h (by decide)), (fun _ => rfl), (fun _ => rfl), rfl, rfl, rfl, (by decide +kernel), rfl, (by decide), (by decide), (fun h => absurd h (by decide))⟩
set_option maxRecDepth 100000 in
theorem mi_pc54 : mi_PC (2, 85, 42, 3, 0, 714, 715, 716, 77, 717) := ⟨(fun _ => rfl), (fun h => absurd h (by decide)), (fun h => absurd h (by decide)), (fun _ => rfl), (fun _ => rfl), rfl, rfl, rfl, (by decide +kernel), rfl, (by decide), (by decide), (fun h => absurd h (by decide))⟩
set_option maxRecDepth 100000 in
theorem mi_pc55 : mi_PC (2, 89, 63, 3, 0, 718, 609, 610, 80, 611) := ⟨(fun _ => rfl), (fun h => absurd h (by decide)), (fun h => absurd h (by decide)), (fun _ => rfl), (fun _ => rfl), rfl, rfl, rfl, (by decide +kernel), rfl, (by decide), (by decide), (fun h => absurd h (by decide))⟩
set_option maxRecDepth 100000 in
theorem mi_pc56 : mi_PC (1, 154, 23, 3, 0, 719, 631, 632, 72, 633) := ⟨(fun _ => rfl), (fun h => absurd h (by decide)), (fun h => absurd h (by decide)), (fun _ => rfl), (fun _ => rfl), rfl, rfl, rfl, (by decide +kernel), rfl, (by decide), (by decide), (fun h => absurd h (by decide))⟩
set_option maxRecDepth 100000 in
theorem mi_pc57 : mi_PC (11, 137, 29, 4, 0, 720, 721, 722, 72, 723) := ⟨(fun _ => rfl), (fun h => absurd h (by decide)), (fun h => absurd h (by decide)), (fun _ => rfl), (fun _ => rfl), rfl, rfl, rfl, (by decide +kernel), rfl, (by decide), (by decide), (fun h => absurd h (by decide))⟩
set_option maxRecDepth 100000 in
theorem mi_pc58 : mi_PC (1, 161, 27, 6, 0, 724, 677, 678, 72, 679) := ⟨(fun _ => rfl), (fun h => absurd h (by decide)), (fun h => absurd h (by decide)), (fun _ => rfl), (fun _ => rfl), rfl, rfl, rfl, (by decide +kernel), rfl, (by decide), (by decide), (fun h => absurd h (by decide))⟩
set_option maxRecDepth 100000 in
theorem mi_pc59 : mi_PC (13, 53, 123, 1, 0, 726, 727, 728, 71, 729) := ⟨(fun _ => rfl), (fun h => absurd h (by decide)), (fun h => absurd h (by decide)), (fun _ => rfl), (fun _ => rfl), rfl, rfl, rfl, (by decide +kernel), rfl, (by decide), (by decide), (fun h => absurd h (by decide))⟩
set_option maxRecDepth 100000 in
theorem mi_pc60 : mi_PC (11, 140, 30, 2, 0, 730, 731, 732, 72, 733) := ⟨(fun _ => rfl), (fun h => absurd h (by decide)), (fun h => absurd h (by decide)), (fun _ => rfl), (fun _ => rfl), rfl, rfl, rfl, (by decide +kernel), rfl, (by decide), (by decide), (fun h => absurd h (by decide))⟩
set_option maxRecDepth 100000 in
theorem mi_pc61 : mi_PC (1, 168, 31, 3, 0, 734, 736, 7, 72, 737) := ⟨(fun _ => rfl), (fun h => absurd h (by decide)), (fun h => absurd h (by decide)), (fun _ => rfl), (fun _ => rfl), rfl, rfl, rfl, (by decide +kernel), rfl, (by decide), (by decide), (fun h => absurd h (by decide))⟩
set_option maxRecDepth 100000 in
theorem mi_pc62 : mi_PC (1, 171, 74, 2, 0, 738, 571, 572, 76, 573) := ⟨(fun _ => rfl), (fun h => absurd h (by decide)), (fun h => absurd h (by decide)), (fun _ => rfl), (fun _ => rfl), rfl, rfl, rfl, (by decide +kernel), rfl, (by decide), (by decide), (fun h => absurd h (by decide))⟩
set_option maxRecDepth 100000 in
theorem mi_pc63 : mi_PC (1, 174, 75, 2, 0, 739, 740, 741, 76, 742) := ⟨(fun _ => rfl), (fun h => absurd h (by decide)), (fun h => absurd h (by decide)), (fun _ => rfl), (fun _ => rfl), rfl, rfl, rfl, (by decide +kernel), rfl, (by decide), (by decide), (fun h => absurd h (by decide))⟩
set_option maxRecDepth 100000 in
theorem mi_pc64 : mi_PC (1, 177, 44, 4, 0, 743, 744, 745, 77, 746) := ⟨(fun _ => rfl), (fun h => absurd h (by decide)), (fun h => absurd h (by decide)), (fun _ => rfl), (fun _ => rfl), rfl, rfl, rfl, (by decide +kernel), rfl, (by decide), (by decide), (fun h => absurd h (by decide))⟩
set_option maxRecDepth 100000 in
theorem mi_pc65 : mi_PC (1, 181, 62, 1, 0, 749, 619, 620, 80, 621) := ⟨(fun _ => rfl), (fun h => absurd h (by decide)), (fun h => absurd h (by decide)), (fun _ => rfl), (fun _ => rfl), rfl, rfl, rfl, (by decide +kernel), rfl, (by decide), (by decide), (fun h => absurd h (by decide))⟩
set_option maxRecDepth 100000 in
theorem mi_pc66 : mi_PC (1, 185, 32, 2, 0, 750, 752, 8, 72, 753) := ⟨(fun _ => rfl), (fun h => absurd h (by decide)), (fun h => absurd h (by decide)), (fun _ => rfl), (fun _ => rfl), rfl, rfl, rfl, (by decide +kernel), rfl, (by decide), (by decide), (fun h => absurd h (by decide))⟩
set_option maxRecDepth 100000 in
theorem mi_pc67 : mi_PC (1, 188, 63, 3, 0, 754, 609, 610, 80, 611) := ⟨(fun _ => rfl), (fun h => absurd h (by decide)), (fun h => absurd h (by decide)), (fun _ => rfl), (fun _ => rfl), rfl, rfl, rfl, (by decide +kernel), rfl, (by decide), (by decide), (fun h => absurd h (by decide))⟩
set_option maxRecDepth 100000 in
theorem mi_pc68 : mi_PC (11, 144, 33, 2, 0, 755, 756, 757, 72, 758) := ⟨(fun _ => rfl), (fun h => absurd h (by decide)), (fun h => absurd h (by decide)), (fun _ => rfl), (fun _ => rfl), rfl, rfl, rfl, (by decide +kernel), rfl, (by decide), (by decide), (fun h => absurd h (by decide))⟩
set_option maxRecDepth 100000 in
theorem mi_pc69 : mi_PC (1, 190, 79, 2, 0, 759, 760, 761, 76, 762) := ⟨(fun _ => rfl), (fun h => absurd h (by decide)), (fun h => absurd h (by decide)), (fun _ => rfl), (fun _ => rfl), rfl, rfl, rfl, (by decide +kernel), rfl, (by decide), (by decide), (fun h => absurd h (by decide))⟩
set_option maxRecDepth 100000 in
theorem mi_pc70 : mi_PC (13, 57, 124, 1, 0, 763, 764, 765, 71, 766) := ⟨(fun _ => rfl), (fun h => absurd h (by decide)), (fun h => absurd h (by decide)), (fun _ => rfl), (fun _ => rfl), rfl, rfl, rfl, (by decide +kernel), rfl, (by decide), (by decide), (fun h => absurd h (by decide))⟩
set_option maxRecDepth 100000 in
theorem mi_pc71 : mi_PC (11, 147, 34, 2, 0, 767, 768, 769, 72, 770) := ⟨(fun _ => rfl), (fun h => absurd h (by decide)), (fun h => absurd h (by decide)), (fun _ => rfl), (fun _ => rfl), rfl, rfl, rfl, (by decide +kernel), rfl, (by decide), (by decide), (fun h => absurd h (by decide))⟩
set_option maxRecDepth 100000 in
theorem mi_pc72 : mi_PC (1, 193, 78, 2, 0, 771, 772, 773, 76, 774) := ⟨(fun _ => rfl), (fun h => absurd h (by decide)), (fun h => absurd h (by decide)), (fun _ => rfl), (fun _ => rfl), rfl, rfl, rfl, (by decide +kernel), rfl, (by decide), (by decide), (fun h => absurd h (by decide))⟩
set_option maxRecDepth 100000 in
theorem mi_pc73 : mi_PC (11, 150, 35, 2, 0, 775, 776, 777, 72, 778) := ⟨(fun _ => rfl), (fun h => absurd h (by decide)), (fun h => absurd h (by decide)), (fun _ => rfl), (fun _ => rfl), rfl, rfl, rfl, (by decide +kernel), rfl, (by decide), (by decide), (fun h => absurd h (by decide))⟩
set_option maxRecDepth 100000 in
theorem mi_pc74 : mi_PC (1, 196, 80, 1, 0, 779, 780, 781, 76, 782) := ⟨(fun _ => rfl), (fun h => absurd h (by decide)), (fun h => absurd h (by decide)), (fun _ => rfl), (fun _ => rfl), rfl, rfl, rfl, (by decide +kernel), rfl, (by decide), (by decide), (fun h => absurd h (by decide))⟩
set_option maxRecDepth 100000 in
theorem mi_pc75 : mi_PC (13, 61, 125, 5, 0, 783, 784, 785, 71, 786) := ⟨(fun _ => rfl), (fun h => absurd h (by decide)), (fun h => absurd h (by decide)), (fun _ => rfl), (fun _ => rfl), rfl, rfl, rfl, (by decide +kernel), rfl, (by decide), (by decide), (fun h => absurd h (by decide))⟩
set_option maxRecDepth 100000 in
theorem mi_pc76 : mi_PC (11, 153, 143, 3, 0, 787, 789, 9, 71, 790) := ⟨(fun _ => rfl), (fun h => absurd h (by decide)), (fun h => absurd h (by decide)), (fun _ => rfl), (fun _ => rfl), rfl, rfl, rfl, (by decide +kernel), rfl, (by decide), (by decide), (fun h => absurd h (by decide))⟩
set_option maxRecDepth 100000 in
theorem mi_pc77 : mi_PC (11, 184, 2, 2, 0, 791, 451, 452, 73, 453) := ⟨(fun _ => rfl), (fun h => absurd h (by decide)), (fun h => absurd h (by decide)), (fun _ => rfl), (fun _ => rfl), rfl, rfl, rfl, (by decide +kernel), rfl, (by decide), (by decide), (fun h => absurd h (by decide))⟩
set_option maxRecDepth 100000 in
theorem mi_pc78 : mi_PC (11, 289, 147, 1, 1, 792, 602, 0, 71, 603) := ⟨(fun _ => rfl), (fun h => absurd h (by decide)), (fun _ => rfl), (fun h => absurd h (by decide)), (fun h => absurd h (by decide)), rfl, rfl, rfl, (by decide +kernel), rfl, (by decide), (by decide), (fun h => absurd h (by decide))⟩
set_option maxRecDepth 100000 in
theorem mi_pc79 : mi_PC (11, 292, 145, 1, 1, 793, 794, 0, 71, 795) := ⟨(fun _ => rfl), (fun h => absurd h (by decide)), (fun _ => rfl), (fun h => absurd h (by decide)), (fun h => absurd h (by decide)), rfl, rfl, rfl, (by decide +kernel), rfl, (by decide), (by decide), (fun h => absurd h (by decide))⟩
set_option maxRecDepth 100000 in
theorem mi_pc80 : mi_PC (11, 224, 3, 2, 0, 797, 546, 547, 73, 548) := ⟨(fun _ => rfl), (fun h => absurd h (by decide)), (fun h => absurd h (by decide)), (fun _ => rfl), (fun _ => rfl), rfl, rfl, rfl, (by decide +kernel), rfl, (by decide), (by decide), (fun h => absurd h (by decide))⟩
set_option maxRecDepth 100000 in
theorem mi_pc81 : mi_PC (11, 156, 144, 3, 0, 798, 800, 10, 71, 801) := ⟨(fun _ => rfl), (fun h => absurd h (by decide)), (fun h => absurd h (by decide)), (fun _ => rfl), (fun _ => rfl), rfl, rfl, rfl, (by decide +kernel), rfl, (by decide), (by decide), (fun h => absurd h (by decide))⟩
set_option maxRecDepth 100000 in
theorem mi_pc82 : mi_PC (11, 246, 99, 1, 0, 802, 803, 804, 81, 805) := ⟨(fun _ => rfl), (fun h => absurd h (by decide)), (fun h => absurd h (by decide)), (fun _ => rfl), (fun _ => rfl), rfl, rfl, rfl, (by decide +kernel), rfl, (by decide), (by decide), (fun h => absurd h (by decide))⟩
set_option maxRecDepth 100000 in
theorem mi_pc83 : mi_PC (11, 247, 100, 2, 0, 806, 807, 808, 81, 809) := ⟨(fun _ => rfl), (fun h => absurd h (by decide)), (fun h => absurd h (by decide)), (fun _ => rfl), (fun _ => rfl), rfl, rfl, rfl, (by decide +kernel), rfl, (by decide), (by decide), (fun h => absurd h (by decide))⟩
set_option maxRecDepth 100000 in
theorem mi_pc84 : mi_PC (11, 249, 101, 2, 0, 811, 812, 813, 81, 814) := ⟨(fun _ => rfl), (fun h => absurd h (by decide)), (fun h => absurd h (by decide)), (fun _ => rfl), (fun _ => rfl), rfl, rfl, rfl, (by decide +kernel), rfl, (by decide), (by decide), (fun h => absurd h (by decide))⟩
set_option maxRecDepth 100000 in
theorem mi_pc85 : mi_PC (9, 54, 102, 2, 0, 821, 823, 11, 81, 824) := ⟨(fun _ => rfl), (fun h => absurd h (by decide)), (fun h => absurd h (by decide)), (fun _ => rfl), (fun _ => rfl), rfl, rfl, rfl, (by decide +kernel), rfl, (by decide), (by decide), (fun h => absurd h (by decide))⟩
set_option maxRecDepth 100000 in
theorem mi_pc86 : mi_PC (9, 60, 103, 1, 0, 826, 828, 12, 81, 829) := ⟨(fun _ => rfl), (fun h => absurd h (by decide)), (fun h => absurd h (by decide)), (fun _ => rfl), (fun _ => rfl), rfl, rfl, rfl, (by decide +kernel), rfl, (by decide), (by decide), (fun h => absurd h (by decide))⟩
set_option maxRecDepth 100000 in
theorem mi_pc87 : mi_PC (13, 66, 126, 1, 0, 831, 832, 833, 71, 834) := ⟨(fun _ => rfl), (fun h => absurd h (by decide)), (fun h => absurd h (by decide)), (fun _ => rfl), (fun _ => rfl), rfl, rfl, rfl, (by decide +kernel), rfl, (by decide), (by decide), (fun h => absurd h (by decide))⟩
set_option maxRecDepth 100000 in
theorem mi_pc88 : mi_PC (11, 159, 58, 1, 0, 835, 836, 837, 78, 838) := ⟨(fun _ => rfl), (fun h => absurd h (by decide)), (fun h => absurd h (by decide)), (fun _ => rfl), (fun _ => rfl), rfl, rfl, rfl, (by decide +kernel), rfl, (by decide), (by decide), (fun h => absurd h (by decide))⟩
set_option maxRecDepth 100000 in
theorem mi_pc89 : mi_PC (13, 70, 127, 3, 0, 839, 840, 841, 71, 842) := ⟨(fun _ => rfl), (fun h => absurd h (by decide)), (fun h => absurd h (by decide)), (fun _ => rfl), (fun _ => rfl), rfl, rfl, rfl, (by decide +kernel), rfl, (by decide), (by decide), (fun h => absurd h (by decide))⟩
set_option maxRecDepth 100000 in
theorem mi_pc90 : mi_PC (11, 163, 59, 3, 0, 843, 844, 845, 78, 846) := ⟨(fun _ => rfl), (fun h => absurd h (by decide)), (fun h => absurd h (by decide)), (fun _ => rfl), (fun _ => rfl), rfl, rfl, rfl, (by decide +kernel), rfl, (by decide), (by decide), (fun h => absurd h (by decide))⟩
set_option maxRecDepth 100000 in
theorem mi_pc91 : mi_PC (11, 167, 105, 1, 0, 848, 849, 850, 82, 851) := ⟨(fun _ => rfl), (fun h => absurd h (by decide)), (fun h => absurd h (by decide)), (fun _ => rfl), (fun _ => rfl), rfl, rfl, rfl, (by decide +kernel), rfl, (by decide), (by decide), (fun h => absurd h (by decide))⟩
set_option maxRecDepth 100000 in
theorem mi_pc92 : mi_PC (13, 74, 128, 1, 0, 852, 853, 854, 71, 855) := ⟨(fun _ => rfl), (fun h => absurd h (by decide)), (fun h => absurd h (by decide)), (fun _ => rfl), (fun _ => rfl), rfl, rfl, rfl, (by decide +kernel), rfl, (by decide), (by decide), (fun h => absurd h (by decide))⟩
set_option maxRecDepth 100000 in
theorem mi_pc93 : mi_PC (11, 169, 83, 1, 0, 856, 857, 858, 79, 859) := ⟨(fun _ => rfl), (fun h => absurd h (by decide)), (fun h => absurd h (by decide)), (fun _ => rfl), (fun _ => rfl), rfl, rfl, rfl, (by decide +kernel), rfl, (by decide), (by decide), (fun h => absurd h (by decide))⟩
set_option maxRecDepth 100000 in
theorem mi_pc94 : mi_PC (8, 28, 16, 1, 0, 860, 861, 862, 72, 863) := ⟨(fun _ => rfl), (fun h => absurd h (by decide)), (fun h => absurd h (by decide)), (fun _ => rfl), (fun _ => rfl), rfl, rfl, rfl, (by decide +kernel), rfl, (by decide), (by decide), (fun h => absurd h (by decide))⟩
set_option maxRecDepth 100000 in
theorem mi_pc95 : mi_PC (1, 45, 1, 1, 0, 864, 865, 866, 73, 867) := ⟨(fun _ => rfl), (fun h => absurd h (by decide)), (fun h => absurd h (by decide)), (fun _ => rfl), (fun _ => rfl), rfl, rfl, rfl, (by decide +kernel), rfl, (by decide), (by decide), (fun h => absurd h (by decide))⟩
set_option maxRecDepth 100000 in
theorem mi_pc96 : mi_PC (1, 48, 71, 1, 0, 868, 869, 870, 76, 871) := ⟨(fun _ => rfl), (fun h => absurd h (by decide)), (fun h => absurd h (by decide)), (fun _ => rfl), (fun _ => rfl), rfl, rfl, rfl, (by decide +kernel), rfl, (by decide), (by decide), (fun h => absurd h (by decide))⟩
set_option maxRecDepth 100000 in
theorem mi_pc97 : mi_PC (1, 49, 38, 1, 0, 872, 873, 874, 77, 875) := ⟨(fun _ => rfl), (fun h => absurd h (by decide)), (fun h => absurd h (by decide)), (fun _ => rfl), (fun _ => rfl), rfl, rfl, rfl, (by decide +kernel), rfl, (by decide), (by decide), (fun h => absurd h (by decide))⟩
set_option maxRecDepth 100000 in
theorem mi_pc98 : mi_PC (8, 33, 57, 2, 0, 876, 877, 878, 78, 879) := ⟨(fun _ => rfl), (fun h => absurd h (by decide)), (fun h => absurd h (by decide)), (fun _ => rfl), (fun _ => rfl), rfl, rfl, rfl, (by decide +kernel), rfl, (by decide), (by decide), (fun h => absurd h (by decide))⟩
set_option maxRecDepth 100000 in
theorem mi_pc99 : mi_PC (8, 39, 84, 3, 0, 880, 882, 13, 79, 883) := ⟨(fun _ => rfl), (fun h => absurd h (by decide)), (fun h => absurd h (by decide)), (fun _ => rfl), (fun _ => rfl), rfl, rfl, rfl, (by decide +kernel), rfl, (by decide), (by decide), (fun h => absurd h (by decide))⟩
set_option maxRecDepth 100000 in
theorem mi_pc100 : mi_PC (8, 66, 85, 1, 0, 885, 887, 14, 79, 888) := ⟨(fun _ => rfl), (fun h => absurd h (by decide)), (fun h => absurd h (by decide)), (fun _ => rfl), (fun _ => rfl), rfl, rfl, rfl, (by decide +kernel), rfl, (by decide), (by decide), (fun h => absurd h (by decide))⟩
set_option maxRecDepth 100000 in
theorem mi_pc101 : mi_PC (8, 91, 96, 1, 0, 889, 891, 15, 79, 892) := ⟨(fun _ => rfl), (fun h => absurd h (by decide)), (fun h => absurd h (by decide)), (fun _ => rfl), (fun _ => rfl), rfl, rfl, rfl, (by decide +kernel), rfl, (by decide), (by decide), (fun h => absurd h (by decide))⟩
set_option maxRecDepth 100000 in
theorem mi_pc102 : mi_PC (8, 152, 97, 1, 0, 893, 895, 16, 79, 896) := ⟨(fun _ => rfl), (fun h => absurd h (by decide)), (fun h => absurd h (by decide)), (fun _ => rfl), (fun _ => rfl), rfl, rfl, rfl, (by decide +kernel), rfl, (by decide), (by decide), (fun h => absurd h (by decide))⟩
set_option maxRecDepth 100000 in
theorem mi_pc103 : mi_PC (8, 95, 95, 1, 0, 897, 899, 17, 79, 900) := ⟨(fun _ => rfl), (fun h => absurd h (by decide)), (fun h => absurd h (by decide)), (fun _ => rfl), (fun _ => rfl), rfl, rfl, rfl, (by decide +kernel), rfl, (by decide), (by decide), (fun h => absurd h (by decide))⟩
set_option maxRecDepth 100000 in
theorem mi_pc104 : mi_PC (8, 98, 94, 1, 0, 901, 903, 18, 79, 904) := ⟨(fun _ => rfl), (fun h => absurd h (by decide)), (fun h => absurd h (by decide)), (fun _ => rfl), (fun _ => rfl), rfl, rfl, rfl, (by decide +kernel), rfl, (by decide), (by decide), (fun h => absurd h (by decide))⟩
set_option maxRecDepth 100000 in
theorem mi_pc105 : mi_PC (8, 101, 17, 4, 0, 905, 447, 448, 72, 449) := ⟨(fun _ => rfl), (fun h => absurd h (by decide)), (fun h => absurd h (by decide)), (fun _ => rfl), (fun _ => rfl), rfl, rfl, rfl, (by decide +kernel), rfl, (by decide), (by decide), (fun h => absurd h (by decide))⟩
set_option maxRecDepth 100000 in
theorem mi_pc106 : mi_PC (8, 109, 8, 5, 0, 906, 515, 516, 73, 517) := ⟨(fun _ => rfl), (fun h => absurd h (by decide)), (fun h => absurd h (by decide)), (fun _ => rfl), (fun _ => rfl), rfl, rfl, rfl, (by decide +kernel), rfl, (by decide), (by decide), (fun h => absurd h (by decide))⟩
set_option maxRecDepth 100000 in
theorem mi_pc107 : mi_PC (8, 70, 86, 1, 0, 907, 909, 19, 79, 910) := ⟨(fun _ => rfl), (fun h => absurd h (by decide)), (fun h => absurd h (by decide)), (fun _ => rfl), (fun _ => rfl), rfl, rfl, rfl, (by decide +kernel), rfl, (by decide), (by decide), (fun h => absurd h (by decide))⟩
set_option maxRecDepth 100000 in
theorem mi_pc108 : mi_PC (8, 115, 18, 3, 0, 911, 542, 543, 72, 544) := ⟨(fun _ => rfl), (fun h => absurd h (by decide)), (fun h => absurd h (by decide)), (fun _ => rfl), (fun _ => rfl), rfl, rfl, rfl, (by decide +kernel), rfl, (by decide), (by decide), (fun h => absurd h (by decide))⟩
set_option maxRecDepth 100000 in
theorem mi_pc109 : mi_PC (8, 119, 5, 3, 0, 912, 555, 556, 73, 557) := ⟨(fun _ => rfl), (fun h => absurd h (by decide)), (fun h => absurd h (by decide)), (fun _ => rfl), (fun _ => rfl), rfl, rfl, rfl, (by decide +kernel), rfl, (by decide), (by decide), (fun h => absurd h (by decide))⟩
set_option maxRecDepth 100000 in
theorem mi_pc110 : mi_PC (8, 73, 87, 1, 0, 913, 915, 20, 79, 916) := ⟨(fun _ => rfl), (fun h => absurd h (by decide)), (fun h => absurd h (by decide)), (fun _ => rfl), (fun _ => rfl), rfl, rfl, rfl, (by decide +kernel), rfl, (by decide), (by decide), (fun h => absurd h (by decide))⟩
set_option maxRecDepth 100000 in
theorem mi_pc111 : mi_PC (8, 123, 19, 2, 0, 917, 563, 564, 72, 565) := ⟨(fun _ => rfl), (fun h => absurd h (by decide)), (fun h => absurd h (by decide)), (fun _ => rfl), (fun _ => rfl), rfl, rfl, rfl, (by decide +kernel), rfl, (by decide), (by decide), (fun h => absurd h (by decide))⟩
set_option maxRecDepth 100000 in
theorem mi_pc112 : mi_PC (8, 130, 73, 2, 0, 918, 576, 577, 76, 578) := ⟨(fun _ => rfl), (fun h => absurd h (by decide)), (fun h => absurd h (by decide)), (fun _ => rfl), (fun _ => rfl), rfl, rfl, rfl, (by decide +kernel), rfl, (by decide), (by decide), (fun h => absurd h (by decide))⟩
set_option maxRecDepth 100000 in
theorem mi_pc113 : mi_PC (8, 76, 88, 1, 0, 919, 921, 21, 79, 922) := ⟨(fun _ => rfl), (fun h => absurd h (by decide)), (fun h => absurd h (by decide)), (fun _ => rfl), (fun _ => rfl), rfl, rfl, rfl, (by decide +kernel), rfl, (by decide), (by decide), (fun h => absurd h (by decide))⟩
set_option maxRecDepth 100000 in
theorem mi_pc114 : mi_PC (8, 134, 20, 2, 0, 923, 585, 586, 72, 587) := ⟨(fun _ => rfl), (fun h => absurd h (by decide)), (fun h => absurd h (by decide)), (fun _ => rfl), (fun _ => rfl), rfl, rfl, rfl, (by decide +kernel), rfl, (by decide), (by decide), (fun h => absurd h (by decide))⟩
set_option maxRecDepth 100000 in
theorem mi_pc115 : mi_PC (8, 137, 21, 2, 0, 924, 590, 591, 72, 592) := ⟨(fun _ => rfl), (fun h => absurd h (by decide)), (fun h => absurd h (by decide)), (fun _ => rfl), (fun _ => rfl), rfl, rfl, rfl, (by decide +kernel), rfl, (by decide), (by decide), (fun h => absurd h (by decide))⟩
set_option maxRecDepth 100000 in
theorem mi_pc116 : mi_PC (8, 79, 89, 1, 0, 925, 927, 22, 79, 928) := ⟨(fun _ => rfl), (fun h => absurd h (by decide)), (fun h => absurd h (by decide)), (fun _ => rfl), (fun _ => rfl), rfl, rfl, rfl, (by decide +kernel), rfl, (by decide), (by decide), (fun h => absurd h (by decide))⟩
set_option maxRecDepth 100000 in
theorem mi_pc117 : mi_PC (8, 140, 90, 1, 0, 929, 931, 23, 79, 932) := ⟨(fun _ => rfl), (fun h => absurd h (by decide)), (fun h => absurd h (by decide)), (fun _ => rfl), (fun _ => rfl), rfl, rfl, rfl, (by decide +kernel), rfl, (by decide), (by decide), (fun h => absurd h (by decide))⟩
set_option maxRecDepth 100000 in
theorem mi_pc118 : mi_PC (8, 151, 62, 1, 0, 933, 619, 620, 80, 621) := ⟨(fun _ => rfl), (fun h => absurd h (by decide)), (fun h => absurd h (by decide)), (fun _ => rfl), (fun _ => rfl), rfl, rfl, rfl, (by decide +kernel), rfl, (by decide), (by decide), (fun h => absurd h (by decide))⟩
set_option maxRecDepth 100000 in
theorem mi_pc119 : mi_PC (8, 156, 22, 3, 0, 934, 598, 599, 72, 600) := ⟨(fun _ => rfl), (fun h => absurd h (by decide)), (fun h => absurd h (by decide)), (fun _ => rfl), (fun _ => rfl), rfl, rfl, rfl, (by decide +kernel), rfl, (by decide), (by decide), (fun h => absurd h (by decide))⟩
set_option maxRecDepth 100000 in
theorem mi_pc120 : mi_PC (8, 160, 63, 3, 0, 935, 609, 610, 80, 611) := ⟨(fun _ => rfl), (fun h => absurd h (by decide)), (fun h => absurd h (by decide)), (fun _ => rfl), (fun _ => rfl), rfl, rfl, rfl, (by decide +kernel), rfl, (by decide), (by decide), (fun h => absurd h (by decide))⟩
set_option maxRecDepth 100000 in
theorem mi_pc121 : mi_PC (8, 143, 23, 3, 0, 936, 631, 632, 72, 633) := ⟨(fun _ => rfl), (fun h => absurd h (by decide)), (fun h => absurd h (by decide)), (fun _ => rfl), (fun _ => rfl), rfl, rfl, rfl, (by decide +kernel), rfl, (by decide), (by decide), (fun h => absurd h (by decide))⟩
set_option maxRecDepth 100000 in
theorem mi_pc122 : mi_PC (8, 147, 27, 6, 0, 937, 677, 678, 72, 679) := ⟨(fun _ => rfl), (fun h => absurd h (by decide)), (fun h => absurd h (by decide)), (fun _ => rfl), (fun _ => rfl), rfl, rfl, rfl, (by decide +kernel), rfl, (by decide), (by decide), (fun h => absurd h (by decide))⟩
set_option maxRecDepth 100000 in
theorem mi_pc123 : mi_PC (8, 82, 91, 1, 0, 938, 940, 24, 79, 941) := ⟨(fun _ => rfl), (fun h => absurd h (by decide)), (fun h => absurd h (by decide)), (fun _ => rfl), (fun _ => rfl), rfl, rfl, rfl, (by decide +kernel), rfl, (by decide), (by decide), (fun h => absurd h (by decide))⟩
set_option maxRecDepth 100000 in
theorem mi_pc124 : mi_PC (8, 163, 28, 4, 0, 942, 698, 699, 72, 700) := ⟨(fun _ => rfl), (fun h => absurd h (by decide)), (fun h => absurd h (by decide)), (fun _ => rfl), (fun _ => rfl), rfl, rfl, rfl, (by decide +kernel), rfl, (by decide), (by decide), (fun h => absurd h (by decide))⟩
set_option maxRecDepth 100000 in
theorem mi_pc125 : mi_PC (8, 167, 29, 4, 0, 943, 721, 722, 72, 723) := ⟨(fun _ => rfl), (fun h => absurd h (by decide)), (fun h => absurd h (by decide)), (fun _ => rfl), (fun _ => rfl), rfl, rfl, rfl, (by decide +kernel), rfl, (by decide), (by decide), (fun h => absurd h (by decide))⟩
set_option maxRecDepth 100000 in
theorem mi_pc126 : mi_PC (8, 85, 92, 1, 0, 944, 946, 25, 79, 947) := ⟨(fun _ => rfl), (fun h => absurd h (by decide)), (fun h => absurd h (by decide)), (fun _ => rfl), (fun _ => rfl), rfl, rfl, rfl, (by decide +kernel), rfl, (by decide), (by decide), (fun h => absurd h (by decide))⟩
set_option maxRecDepth 100000 in
theorem mi_pc127 : mi_PC (8, 170, 30, 2, 0, 948, 731, 732, 72, 733) := ⟨(fun _ => rfl), (fun h => absurd h (by decide)), (fun h => absurd h (by decide)), (fun _ => rfl), (fun _ => rfl), rfl, rfl, rfl, (by decide +kernel), rfl, (by decide), (by decide), (fun h => absurd h (by decide))⟩
set_option maxRecDepth 100000 in
theorem mi_pc128 : mi_PC (8, 174, 33, 2, 0, 949, 756, 757, 72, 758) := ⟨(fun _ => rfl), (fun h => absurd h (by decide)), (fun h => absurd h (by decide)), (fun _ => rfl), (fun _ => rfl), rfl, rfl, rfl, (by decide +kernel), rfl, (by decide), (by decide), (fun h => absurd h (by decide))⟩
set_option maxRecDepth 100000 in
theorem mi_pc129 : mi_PC (8, 88, 93, 1, 0, 950, 952, 26, 79, 953) := ⟨(fun _ => rfl), (fun h => absurd h (by decide)), (fun h => absurd h (by decide)), (fun _ => rfl), (fun _ => rfl), rfl, rfl, rfl, (by decide +kernel), rfl, (by decide), (by decide), (fun h => absurd h (by decide))⟩
set_option maxRecDepth 100000 in
theorem mi_pc130 : mi_PC (8, 177, 34, 2, 0, 954, 768, 769, 72, 770) := ⟨(fun _ => rfl), (fun h => absurd h (by decide)), (fun h => absurd h (by decide)), (fun _ => rfl), (fun _ => rfl), rfl, rfl, rfl, (by decide +kernel), rfl, (by decide), (by decide), (fun h => absurd h (by decide))⟩
set_option maxRecDepth 100000 in
theorem mi_pc131 : mi_PC (8, 180, 35, 2, 0, 955, 776, 777, 72, 778) := ⟨(fun _ => rfl), (fun h => absurd h (by decide)), (fun h => absurd h (by decide)), (fun _ => rfl), (fun _ => rfl), rfl, rfl, rfl, (by decide +kernel), rfl, (by decide), (by decide), (fun h => absurd h (by decide))⟩
set_option maxRecDepth 100000 in
theorem mi_pc132 : mi_PC (8, 43, 60, 3, 0, 956, 957, 958, 78, 959) := ⟨(fun _ => rfl), (fun h => absurd h (by decide)), (fun h => absurd h (by decide)), (fun _ => rfl), (fun _ => rfl), rfl, rfl, rfl, (by decide +kernel), rfl, (by decide), (by decide), (fun h => absurd h (by decide))⟩
set_option maxRecDepth 100000 in
theorem mi_pc133 : mi_PC (13, 78, 129, 2, 0, 960, 961, 962, 71, 963) := ⟨(fun _ => rfl), (fun h => absurd h (by decide)), (fun h => absurd h (by decide)), (fun _ => rfl), (fun _ => rfl), rfl, rfl, rfl, (by decide +kernel), rfl, (by decide), (by decide), (fun h => absurd h (by decide))⟩
set_option maxRecDepth 100000 in
theorem mi_pc134 : mi_PC (13, 82, 130, 3, 0, 964, 965, 966, 71, 967) := ⟨(fun _ => rfl), (fun h => absurd h (by decide)), (fun h => absurd h (by decide)), (fun _ => rfl), (fun _ => rfl), rfl, rfl, rfl, (by decide +kernel), rfl, (by decide), (by decide), (fun h => absurd h (by decide))⟩
set_option maxRecDepth 100000 in
theorem mi_pc135 : mi_PC (11, 188, 14, 3, 0, 968, 969, 970, 73, 971) := ⟨(fun _ => rfl), (fun h => absurd h (by decide)), (fun h => absurd h (by decide)), (fun _ => rfl), (fun _ => rfl), rfl, rfl, rfl, (by decide +kernel), rfl, (by decide), (by decide), (fun h => absurd h (by decide))⟩
set_option maxRecDepth 100000 in
theorem mi_pc136 : mi_PC (13, 86, 131, 2, 0, 972, 973, 974, 71, 975) := ⟨(fun _ => rfl), (fun h => absurd h (by decide)), (fun h => absurd h (by decide)), (fun _ => rfl), (fun _ => rfl), rfl, rfl, rfl, (by decide +kernel), rfl, (by decide), (by decide), (fun h => absurd h (by decide))⟩
set_option maxRecDepth 100000 in
theorem mi_pc137 : mi_PC (11, 198, 11, 3, 0, 977, 978, 979, 73, 980) := ⟨(fun _ => rfl), (fun h => absurd h (by decide)), (fun h => absurd h (by decide)), (fun _ => rfl), (fun _ => rfl), rfl, rfl, rfl, (by decide +kernel), rfl, (by decide), (by decide), (fun h => absurd h (by decide))⟩
set_option maxRecDepth 100000 in
theorem mi_pc138 : mi_PC (0, 73, 3, 2, 0, 981, 546, 547, 73, 548) := ⟨(fun _ => rfl), (fun h => absurd h (by decide)), (fun h => absurd h (by decide)), (fun _ => rfl), (fun _ => rfl), rfl, rfl, rfl, (by decide +kernel), rfl, (by decide), (by decide), (fun h => absurd h (by decide))⟩
set_option maxRecDepth 100000 in
theorem mi_pc139 : mi_PC (0, 79, 12, 3, 0, 983, 985, 27, 73, 986) := ⟨(fun _ => rfl), (fun h => absurd h (by decide)), (fun h => absurd h (by decide)), (fun _ => rfl), (fun _ => rfl), rfl, rfl, rfl, (by decide +kernel), rfl, (by decide), (by decide), (fun h => absurd h (by decide))⟩
set_option maxRecDepth 100000 in
theorem mi_pc140 : mi_PC (13, 91, 132, 4, 0, 987, 988, 989, 71, 990) := ⟨(fun _ => rfl), (fun h => absurd h (by decide)), (fun h => absurd h (by decide)), (fun _ => rfl), (fun _ => rfl), rfl, rfl, rfl, (by decide +kernel), rfl, (by decide), (by decide), (fun h => absurd h (by decide))⟩
set_option maxRecDepth 100000 in
theorem mi_pc141 : mi_PC (11, 202, 36, 4, 0, 991, 992, 993, 72, 994) := ⟨(fun _ => rfl), (fun h => absurd h (by decide)), (fun h => absurd h (by decide)), (fun _ => rfl), (fun _ => rfl), rfl, rfl, rfl, (by decide +kernel), rfl, (by decide), (by decide), (fun h => absurd h (by decide))⟩
set_option maxRecDepth 100000 in
theorem mi_pc142 : mi_PC (1, 199, 11, 3, 0, 995, 978, 979, 73, 980) := ⟨(fun _ => rfl), (fun h => absurd h (by decide)), (fun h => absurd h (by decide)), (fun _ => rfl), (fun _ => rfl), rfl, rfl, rfl, (by decide +kernel), rfl, (by decide), (by decide), (fun h => absurd h (by decide))⟩
set_option maxRecDepth 100000 in
theorem mi_pc143 : mi_PC (13, 96, 133, 3, 0, 996, 997, 998, 71, 999) := ⟨(fun _ => rfl), (fun h => absurd h (by decide)), (fun h => absurd h (by decide)), (fun _ => rfl), (fun _ => rfl), rfl, rfl, rfl, (by decide +kernel), rfl, (by decide), (by decide), (fun h => absurd h (by decide))⟩
set_option maxRecDepth 100000 in
theorem mi_pc144 : mi_PC (11, 210, 39, 2, 0, 1000, 702, 703, 77, 704) := ⟨(fun _ => rfl), (fun h => absurd h (by decide)), (fun h => absurd h (by decide)), (fun _ => rfl), (fun _ => rfl), rfl, rfl, rfl, (by decide +kernel), rfl, (by decide), (by decide), (fun h => absurd h (by decide))⟩
set_option maxRecDepth 100000 in
theorem mi_pc145 : mi_PC (11, 213, 47, 3, 0, 1001, 1002, 1003, 77, 1004) := ⟨(fun _ => rfl), (fun h => absurd h (by decide)), (fun h => absurd h (by decide)), (fun _ => rfl), (fun _ => rfl), rfl, rfl, rfl, (by decide +kernel), rfl, (by decide), (by decide), (fun h => absurd h (by decide))⟩
set_option maxRecDepth 100000 in
theorem mi_pc146 : mi_PC (13, 100, 134, 4, 0, 1005, 1006, 1007, 71, 1008) := ⟨(fun _ => rfl), (fun h => absurd h (by decide)), (fun h => absurd h (by decide)), (fun _ => rfl), (fun _ => rfl), rfl, rfl, rfl, (by decide +kernel), rfl, (by decide), (by decide), (fun h => absurd h (by decide))⟩
set_option maxRecDepth 100000 in
theorem mi_pc147 : mi_PC (11, 217, 41, 3, 0, 1009, 711, 712, 77, 713) := ⟨(fun _ => rfl), (fun h => absurd h (by decide)), (fun h => absurd h (by decide)), (fun _ => rfl), (fun _ => rfl), rfl, rfl, rfl, (by decide +kernel), rfl, (by decide), (by decide), (fun h => absurd h (by decide))⟩
set_option maxRecDepth 100000 in
theorem mi_pc148 : mi_PC (11, 220, 42, 3, 0, 1010, 715, 716, 77, 717) := ⟨(fun _ => rfl), (fun h => absurd h (by decide)), (fun h => absurd h (by decide)), (fun _ => rfl), (fun _ => rfl), rfl, rfl, rfl, (by decide +kernel), rfl, (by decide), (by decide), (fun h => absurd h (by decide))⟩
set_option maxRecDepth 100000 in
theorem mi_pc149 : mi_PC (13, 104, 135, 4, 0, 1011, 1012, 1013, 71, 1014) := ⟨(fun _ => rfl), (fun h => absurd h (by decide)), (fun h => absurd h (by decide)), (fun _ => rfl), (fun _ => rfl), rfl, rfl, rfl, (by decide +kernel), rfl, (by decide), (by decide), (fun h => absurd h (by decide))⟩
set_option maxRecDepth 100000 in
theorem mi_pc150 : mi_PC (11, 228, 45, 4, 0, 1015, 1016, 1017, 77, 1018) := ⟨(fun _ => rfl), (fun h => absurd h (by decide)), (fun h => absurd h (by decide)), (fun _ => rfl), (fun _ => rfl), rfl, rfl, rfl, (by decide +kernel), rfl, (by decide), (by decide), (fun h => absurd h (by decide))⟩
set_option maxRecDepth 100000 in
theorem mi_pc151 : mi_PC (2, 96, 46, 4, 1, 1019, 1020, 0, 77, 1021) := ⟨(fun _ => rfl), (fun h => absurd h (by decide)), (fun _ => rfl), (fun h => absurd h (by decide)), (fun h => absurd h (by decide)), rfl, rfl, rfl, (by decide +kernel), rfl, (by decide), (by decide), (fun h => absurd h (by decide))⟩
set_option maxRecDepth 100000 in
theorem mi_pc152 : mi_PC (13, 108, 136, 3, 0, 1023, 1024, 1025, 71, 1026) := ⟨(fun _ => rfl), (fun h => absurd h (by decide)), (fun h => absurd h (by decide)), (fun _ => rfl), (fun _ => rfl), rfl, rfl, rfl, (by decide +kernel), rfl, (by decide), (by decide), (fun h => absurd h (by decide))⟩
set_option maxRecDepth 100000 in
theorem mi_pc153 : mi_PC (11, 231, 72, 2, 0, 1027, 1028, 1029, 76, 1030) := ⟨(fun _ => rfl), (fun h => absurd h (by decide)), (fun h => absurd h (by decide)), (fun _ => rfl), (fun _ => rfl), rfl, rfl, rfl, (by decide +kernel), rfl, (by decide), (by decide), (fun h => absurd h (by decide))⟩
set_option maxRecDepth 100000 in
theorem mi_pc154 : mi_PC (11, 232, 81, 3, 0, 1031, 1032, 1033, 76, 1034) := ⟨(fun _ => rfl), (fun h => absurd h (by decide)), (fun h => absurd h (by decide)), (fun _ => rfl), (fun _ => rfl), rfl, rfl, rfl, (by decide +kernel), rfl, (by decide), (by decide), (fun h => absurd h (by decide))⟩
set_option maxRecDepth 100000 in
theorem mi_pc155 : mi_PC (7, 41, 75, 2, 0, 1035, 740, 741, 76, 742) := ⟨(fun _ => rfl), (fun h => absurd h (by decide)), (fun h => absurd h (by decide)), (fun _ => rfl), (fun _ => rfl), rfl, rfl, rfl, (by decide +kernel), rfl, (by decide), (by decide), (fun h => absurd h (by decide))⟩
set_option maxRecDepth 100000 in
theorem mi_pc156 : mi_PC (7, 44, 78, 2, 0, 1036, 772, 773, 76, 774) := ⟨(fun _ => rfl), (fun h => absurd h (by decide)), (fun h => absurd h (by decide)), (fun _ => rfl), (fun _ => rfl), rfl, rfl, rfl, (by decide +kernel), rfl, (by decide), (by decide), (fun h => absurd h (by decide))⟩
set_option maxRecDepth 100000 in
theorem mi_pc157 : mi_PC (13, 112, 137, 2, 0, 1037, 1038, 1039, 71, 1040) := ⟨(fun _ => rfl), (fun h => absurd h (by decide)), (fun h => absurd h (by decide)), (fun _ => rfl), (fun _ => rfl), rfl, rfl, rfl, (by decide +kernel), rfl, (by decide), (by decide), (fun h => absurd h (by decide))⟩
set_option maxRecDepth 100000 in
theorem mi_pc158 : mi_PC (11, 233, 106, 2, 0, 1041, 1042, 1043, 82, 1044) := ⟨(fun _ => rfl), (fun h => absurd h (by decide)), (fun h => absurd h (by decide)), (fun _ => rfl), (fun _ => rfl), rfl, rfl, rfl, (by decide +kernel), rfl, (by decide), (by decide), (fun h => absurd h (by decide))⟩
set_option maxRecDepth 100000 in
theorem mi_pc159 : mi_PC (10, 31, 105, 1, 0, 1045, 849, 850, 82, 851) := ⟨(fun _ => rfl), (fun h => absurd h (by decide)), (fun h => absurd h (by decide)), (fun _ => rfl), (fun _ => rfl), rfl, rfl, rfl, (by decide +kernel), rfl, (by decide), (by decide), (fun h => absurd h (by decide))⟩
set_option maxRecDepth 100000 in
theorem mi_pc160 : mi_PC (10, 34, 107, 1, 0, 1046, 1048, 28, 82, 1049) := ⟨(fun _ => rfl), (fun h => absurd h (by decide)), (fun h => absurd h (by decide)), (fun _ => rfl), (fun _ => rfl), rfl, rfl, rfl, (by decide +kernel), rfl, (by decide), (by decide), (fun h => absurd h (by decide))⟩
set_option maxRecDepth 100000 in
theorem mi_pc161 : mi_PC (10, 54, 3, 2, 0, 1051, 546, 547, 73, 548) := ⟨(fun _ => rfl), (fun h => absurd h (by decide)), (fun h => absurd h (by decide)), (fun _ => rfl), (fun _ => rfl), rfl, rfl, rfl, (by decide +kernel), rfl, (by decide), (by decide), (fun h => absurd h (by decide))⟩
set_option maxRecDepth 100000 in
theorem mi_pc162 : mi_PC (10, 67, 111, 2, 0, 1053, 1055, 29, 82, 1056) := ⟨(fun _ => rfl), (fun h => absurd h (by decide)), (fun h => absurd h (by decide)), (fun _ => rfl), (fun _ => rfl), rfl, rfl, rfl, (by decide +kernel), rfl, (by decide), (by decide), (fun h => absurd h (by decide))⟩
set_option maxRecDepth 100000 in
theorem mi_pc163 : mi_PC (10, 87, 113, 2, 0, 1057, 1059, 30, 82, 1060) := ⟨(fun _ => rfl), (fun h => absurd h (by decide)), (fun h => absurd h (by decide)), (fun _ => rfl), (fun _ => rfl), rfl, rfl, rfl, (by decide +kernel), rfl, (by decide), (by decide), (fun h => absurd h (by decide))⟩
set_option maxRecDepth 100000 in
theorem mi_pc164 : mi_PC (10, 100, 11, 3, 0, 1062, 978, 979, 73, 980) := ⟨(fun _ => rfl), (fun h => absurd h (by decide)), (fun h => absurd h (by decide)), (fun _ => rfl), (fun _ => rfl), rfl, rfl, rfl, (by decide +kernel), rfl, (by decide), (by decide), (fun h => absurd h (by decide))⟩
set_option maxRecDepth 100000 in
theorem mi_pc165 : mi_PC (10, 90, 112, 2, 0, 1063, 1065, 31, 82, 1066) := ⟨(fun _ => rfl), (fun h => absurd h (by decide)), (fun h => absurd h (by decide)), (fun _ => rfl), (fun _ => rfl), rfl, rfl, rfl, (by decide +kernel), rfl, (by decide), (by decide), (fun h => absurd h (by decide))⟩
set_option maxRecDepth 100000 in
theorem mi_pc166 : mi_PC (10, 37, 108, 4, 0, 1069, 1071, 32, 82, 1072) := ⟨(fun _ => rfl), (fun h => absurd h (by decide)), (fun h => absurd h (by decide)), (fun _ => rfl), (fun _ => rfl), rfl, rfl, rfl, (by decide +kernel), rfl, (by decide), (by decide), (fun h => absurd h (by decide))⟩
set_option maxRecDepth 100000 in
theorem mi_pc167 : mi_PC (10, 41, 109, 1, 0, 1073, 1075, 33, 82, 1076) := ⟨(fun _ => rfl), (fun h => absurd h (by decide)), (fun h => absurd h (by decide)), (fun _ => rfl), (fun _ => rfl), rfl, rfl, rfl, (by decide +kernel), rfl, (by decide), (by decide), (fun h => absurd h (by decide))⟩
set_option maxRecDepth 100000 in
theorem mi_pc168 : mi_PC (10, 76, 13, 2, 0, 1077, 1078, 1079, 73, 1080) := ⟨(fun _ => rfl), (fun h => absurd h (by decide)), (fun h => absurd h (by decide)), (fun _ => rfl), (fun _ => rfl), rfl, rfl, rfl, (by decide +kernel), rfl, (by decide), (by decide), (fun h => absurd h (by decide))⟩
set_option maxRecDepth 100000 in
theorem mi_pc169 : mi_PC (10, 83, 110, 3, 0, 1083, 1085, 34, 82, 1086) := ⟨(fun _ => rfl), (fun h => absurd h (by decide)), (fun h => absurd h (by decide)), (fun _ => rfl), (fun _ => rfl), rfl, rfl, rfl, (by decide +kernel), rfl, (by decide), (by decide), (fun h => absurd h (by decide))⟩
set_option maxRecDepth 100000 in
theorem mi_pc170 : mi_PC (13, 116, 138, 2, 0, 1087, 1088, 1089, 71, 1090) := ⟨(fun _ => rfl), (fun h => absurd h (by decide)), (fun h => absurd h (by decide)), (fun _ => rfl), (fun _ => rfl), rfl, rfl, rfl, (by decide +kernel), rfl, (by decide), (by decide), (fun h => absurd h (by decide))⟩
set_option maxRecDepth 100000 in
theorem mi_pc171 : mi_PC (13, 120, 139, 7, 0, 1091, 1092, 1093, 71, 1094) := ⟨(fun _ => rfl), (fun h => absurd h (by decide)), (fun h => absurd h (by decide)), (fun _ => rfl), (fun _ => rfl), rfl, rfl, rfl, (by decide +kernel), rfl, (by decide), (by decide), (fun h => absurd h (by decide))⟩
set_option maxRecDepth 100000 in
theorem mi_pc172 : mi_PC (11, 243, 146, 1, 1, 1095, 1096, 0, 71, 1097) := ⟨(fun _ => rfl), (fun h => absurd h (by decide)), (fun _ => rfl), (fun h => absurd h (by decide)), (fun h => absurd h (by decide)), rfl, rfl, rfl, (by decide +kernel), rfl, (by decide), (by decide), (fun h => absurd h (by decide))⟩
set_option maxRecDepth 100000 in
theorem mi_pc173 : mi_PC (13, 125, 140, 2, 0, 1098, 1099, 1100, 71, 1101) := ⟨(fun _ => rfl), (fun h => absurd h (by decide)), (fun h => absurd h (by decide)), (fun _ => rfl), (fun _ => rfl), rfl, rfl, rfl, (by decide +kernel), rfl, (by decide), (by decide), (fun h => absurd h (by decide))⟩
set_option maxRecDepth 100000 in
theorem mi_pc174 : mi_PC (11, 264, 141, 2, 0, 1102, 1104, 35, 71, 1105) := ⟨(fun _ => rfl), (fun h => absurd h (by decide)), (fun h => absurd h (by decide)), (fun _ => rfl), (fun _ => rfl), rfl, rfl, rfl, (by decide +kernel), rfl, (by decide), (by decide), (fun h => absurd h (by decide))⟩
set_option maxRecDepth 100000 in
theorem mi_pc175 : mi_PC (13, 12, 149, 1, 2, 1108, 1109, 0, 83, 1110) := ⟨(fun _ => rfl), (fun h => absurd h (by decide)), (fun h => absurd h (by decide)), (fun _ => rfl), (fun h => absurd h (by decide)), rfl, rfl, rfl, (by decide +kernel), rfl, (by decide), (by decide), (fun _ => ⟨rfl, rfl⟩)⟩
set_option maxRecDepth 100000 in
theorem mi_pc176 : mi_PC (13, 17, 159, 5, 0, 1261, 1262, 1263, 83, 1264) := ⟨(fun _ => rfl), (fun h => absurd h (by decide)), (fun h => absurd h (by decide)), (fun _ => rfl), (fun _ => rfl), rfl, rfl, rfl, (by decide +kernel), rfl, (by decide), (by decide), (fun h => absurd h (by decide))⟩
set_option maxRecDepth 100000 in
theorem mi_pc177 : mi_PC (12, 148, 151, 2, 0, 1265, 1267, 36, 83, 1268) := ⟨(fun _ => rfl), (fun h => absurd h (by decide)), (fun h => absurd h (by decide)), (fun _ => rfl), (fun _ => rfl), rfl, rfl, rfl, (by decide +kernel), rfl, (by decide), (by decide), (fun h => absurd h (by decide))⟩
set_option maxRecDepth 100000 in
theorem mi_pc178 : mi_PC (12, 116, 150, 3, 1, 1269, 1270, 0, 83, 1271) := ⟨(fun _ => rfl), (fun h => absurd h (by decide)), (fun _ => rfl), (fun h => absurd h (by decide)), (fun h => absurd h (by decide)), rfl, rfl, rfl, (by decide +kernel), rfl, (by decide), (by decide), (fun h => absurd h (by decide))⟩
set_option maxRecDepth 100000 in
theorem mi_pc179 : mi_PC (12, 156, 158, 2, 0, 1274, 1276, 37, 83, 1277) := ⟨(fun _ => rfl), (fun h => absurd h (by decide)), (fun h => absurd h (by decide)), (fun _ => rfl), (fun _ => rfl), rfl, rfl, rfl, (by decide +kernel), rfl, (by decide), (by decide), (fun h => absurd h (by decide))⟩
set_option maxRecDepth 100000 in
theorem mi_pc180 : mi_PC (12, 159, 152, 1, 0, 1278, 1280, 38, 83, 1281) := ⟨(fun _ => rfl), (fun h => absurd h (by decide)), (fun h => absurd h (by decide)), (fun _ => rfl), (fun _ => rfl), rfl, rfl, rfl, (by decide +kernel), rfl, (by decide), (by decide), (fun h => absurd h (by decide))⟩
set_option maxRecDepth 100000 in
theorem mi_pc181 : mi_PC (12, 162, 153, 2, 0, 1282, 1284, 39, 83, 1285) := ⟨(fun _ => rfl), (fun h => absurd h (by decide)), (fun h => absurd h (by decide)), (fun _ => rfl), (fun _ => rfl), rfl, rfl, rfl, (by decide +kernel), rfl, (by decide), (by decide), (fun h => absurd h (by decide))⟩
set_option maxRecDepth 100000 in
theorem mi_pc182 : mi_PC (12, 166, 154, 1, 0, 1289, 1291, 40, 83, 1292) := ⟨(fun _ => rfl), (fun h => absurd h (by decide)), (fun h => absurd h (by decide)), (fun _ => rfl), (fun _ => rfl), rfl, rfl, rfl, (by decide +kernel), rfl, (by decide), (by decide), (fun h => absurd h (by decide))⟩
set_option maxRecDepth 100000 in
theorem mi_pc183 : mi_PC (12, 170, 157, 2, 0, 1293, 1295, 41, 83, 1296) := ⟨(fun _ => rfl), (fun h => absurd h (by decide)), (fun h => absurd h (by decide)), (fun _ => rfl), (fun _ => rfl), rfl, rfl, rfl, (by decide +kernel), rfl, (by decide), (by decide), (fun h => absurd h (by decide))⟩
set_option maxRecDepth 100000 in
theorem mi_pc184 : mi_PC (12, 140, 155, 2, 1, 1298, 1299, 0, 83, 1300) := ⟨(fun _ => rfl), (fun h => absurd h (by decide)), (fun _ => rfl), (fun h => absurd h (by decide)), (fun h => absurd h (by decide)), rfl, rfl, rfl, (by decide +kernel), rfl, (by decide), (by decide), (fun h => absurd h (by decide))⟩
set_option maxRecDepth 100000 in
theorem mi_pc185 : mi_PC (12, 144, 156, 2, 0, 1302, 1304, 42, 83, 1305) := ⟨(fun _ => rfl), (fun h => absurd h (by decide)), (fun h => absurd h (by decide)), (fun _ => rfl), (fun _ => rfl), rfl, rfl, rfl, (by decide +kernel), rfl, (by decide), (by decide), (fun h => absurd h (by decide))⟩
set_option maxRecDepth 100000 in
theorem mi_pc186 : mi_PC (13, 22, 160, 3, 0, 1306, 1307, 1308, 83, 1309) := ⟨(fun _ => rfl), (fun h => absurd h (by decide)), (fun h => absurd h (by decide)), (fun _ => rfl), (fun _ => rfl), rfl, rfl, rfl, (by decide +kernel), rfl, (by decide), (by decide), (fun h => absurd h (by decide))⟩
set_option maxRecDepth 100000 in
theorem mi_pc187 : mi_PC (13, 27, 162, 2, 0, 1310, 1311, 1312, 83, 1313) := ⟨(fun _ => rfl), (fun h => absurd h (by decide)), (fun h => absurd h (by decide)), (fun _ => rfl), (fun _ => rfl), rfl, rfl, rfl, (by decide +kernel), rfl, (by decide), (by decide), (fun h => absurd h (by decide))⟩
set_option maxRecDepth 100000 in
theorem mi_pc188 : mi_PC (12, 176, 161, 2, 0, 1314, 1316, 43, 83, 1317) := ⟨(fun _ => rfl), (fun h => absurd h (by decide)), (fun h => absurd h (by decide)), (fun _ => rfl), (fun _ => rfl), rfl, rfl, rfl, (by decide +kernel), rfl, (by decide), (by decide), (fun h => absurd h (by decide))⟩
set_option maxRecDepth 100000 in
theorem mi_pc189 : mi_PC (13, 31, 163, 2, 0, 1318, 1319, 1320, 83, 1321) := ⟨(fun _ => rfl), (fun h => absurd h (by decide)), (fun h => absurd h (by decide)), (fun _ => rfl), (fun _ => rfl), rfl, rfl, rfl, (by decide +kernel), rfl, (by decide), (by decide), (fun h => absurd h (by decide))⟩
set_option maxRecDepth 100000 in
theorem mi_pc190 : mi_PC (13, 38, 164, 3, 0, 1322, 1323, 1324, 83, 1325) := ⟨(fun _ => rfl), (fun h => absurd h (by decide)), (fun h => absurd h (by decide)), (fun _ => rfl), (fun _ => rfl), rfl, rfl, rfl, (by decide +kernel), rfl, (by decide), (by decide), (fun h => absurd h (by decide))⟩
set_option maxRecDepth 100000 in
theorem mi_pc191 : mi_PC (13, 43, 165, 1, 0, 1328, 1329, 1330, 83, 1331) := ⟨(fun _ => rfl), (fun h => absurd h (by decide)), (fun h => absurd h (by decide)), (fun _ => rfl), (fun _ => rfl), rfl, rfl, rfl, (by decide +kernel), rfl, (by decide), (by decide), (fun h => absurd h (by decide))⟩
set_option maxRecDepth 100000 in
theorem mi_pc192 : mi_PC (13, 48, 173, 3, 0, 1332, 1333, 1334, 83, 1335) := ⟨(fun _ => rfl), (fun h => absurd h (by decide)), (fun h => absurd h (by decide)), (fun _ => rfl), (fun _ => rfl), rfl, rfl, rfl, (by decide +kernel), rfl, (by decide), (by decide), (fun h => absurd h (by decide))⟩
set_option maxRecDepth 100000 in
theorem mi_pc193 : mi_PC (12, 217, 166, 3, 0, 1336, 1338, 44, 83, 1339) := ⟨(fun _ => rfl), (fun h => absurd h (by decide)), (fun h => absurd h (by decide)), (fun _ => rfl), (fun _ => rfl), rfl, rfl, rfl, (by decide +kernel), rfl, (by decide), (by decide), (fun h => absurd h (by decide))⟩
set_option maxRecDepth 100000 in
theorem mi_pc194 : mi_PC (12, 221, 172, 3, 0, 1340, 1342, 45, 83, 1343) := ⟨(fun _ => rfl), (fun h => absurd h (by decide)), (fun h => absurd h (by decide)), (fun _ => rfl), (fun _ => rfl), rfl, rfl, rfl, (by decide +kernel), rfl, (by decide), (by decide), (fun h => absurd h (by decide))⟩
set_option maxRecDepth 100000 in
theorem mi_pc195 : mi_PC (12, 206, 171, 3, 0, 1344, 1346, 46, 83, 1347) := ⟨(fun _ => rfl), (fun h => absurd h (by decide)), (fun h => absurd h (by decide)), (fun _ => rfl), (fun _ => rfl), rfl, rfl, rfl, (by decide +kernel), rfl, (by decide), (by decide), (fun h => absurd h (by decide))⟩
set_option maxRecDepth 100000 in
theorem mi_pc196 : mi_PC (12, 210, 169, 2, 0, 1348, 1350, 47, 83, 1351) := ⟨(fun _ => rfl), (fun h => absurd h (by decide)), (fun h => absurd h (by decide)), (fun _ => rfl), (fun _ => rfl), rfl, rfl, rfl, (by decide +kernel), rfl, (by decide), (by decide), (fun h => absurd h (by decide))⟩
set_option maxRecDepth 100000 in
theorem mi_pc197 : mi_PC (12, 194, 167, 2, 0, 1352, 1354, 48, 83, 1355) := ⟨(fun _ => rfl), (fun h => absurd h (by decide)), (fun h => absurd h (by decide)), (fun _ => rfl), (fun _ => rfl), rfl, rfl, rfl, (by decide +kernel), rfl, (by decide), (by decide), (fun h => absurd h (by decide))⟩
set_option maxRecDepth 100000 in
theorem mi_pc198 : mi_PC (12, 200, 168, 1, 0, 1356, 1358, 49, 83, 1359) := ⟨(fun _ => rfl), (fun h => absurd h (by decide)), (fun h => absurd h (by decide)), (fun _ => rfl), (fun _ => rfl), rfl, rfl, rfl, (by decide +kernel), rfl, (by decide), (by decide), (fun h => absurd h (by decide))⟩
set_option maxRecDepth 100000 in
theorem mi_pc199 : mi_PC (12, 213, 170, 5, 0, 1362, 1364, 50, 83, 1365) := ⟨(fun _ => rfl), (fun h => absurd h (by decide)), (fun h => absurd h (by decide)), (fun _ => rfl), (fun _ => rfl), rfl, rfl, rfl, (by decide +kernel), rfl, (by decide), (by decide), (fun h => absurd h (by decide))⟩
set_option maxRecDepth 100000 in
theorem mi_pc200 : mi_PC (13, 52, 174, 3, 0, 1366, 1367, 1368, 83, 1369) := ⟨(fun _ => rfl), (fun h => absurd h (by decide)), (fun h => absurd h (by decide)), (fun _ => rfl), (fun _ => rfl), rfl, rfl, rfl, (by decide +kernel), rfl, (by decide), (by decide), (fun h => absurd h (by decide))⟩
set_option maxRecDepth 100000 in
theorem mi_pc201 : mi_PC (12, 224, 175, 2, 0, 1370, 1372, 51, 83, 1373) := ⟨(fun _ => rfl), (fun h => absurd h (by decide)), (fun h => absurd h (by decide)), (fun _ => rfl), (fun _ => rfl), rfl, rfl, rfl, (by decide +kernel), rfl, (by decide), (by decide), (fun h => absurd h (by decide))⟩
set_option maxRecDepth 100000 in
theorem mi_pc202 : mi_PC (13, 56, 178, 1, 0, 1374, 1375, 1376, 83, 1377) := ⟨(fun _ => rfl), (fun h => absurd h (by decide)), (fun h => absurd h (by decide)), (fun _ => rfl), (fun _ => rfl), rfl, rfl, rfl, (by decide +kernel), rfl, (by decide), (by decide), (fun h => absurd h (by decide))⟩
set_option maxRecDepth 100000 in
theorem mi_pc203 : mi_PC (12, 227, 177, 2, 0, 1378, 1380, 52, 83, 1381) := ⟨(fun _ => rfl), (fun h => absurd h (by decide)), (fun h => absurd h (by decide)), (fun _ => rfl), (fun _ => rfl), rfl, rfl, rfl, (by decide +kernel), rfl, (by decide), (by decide), (fun h => absurd h (by decide))⟩
set_option maxRecDepth 100000 in
theorem mi_pc204 : mi_PC (12, 230, 176, 4, 0, 1382, 1384, 53, 83, 1385) := ⟨(fun _ => rfl), (fun h => absurd h (by decide)), (fun h => absurd h (by decide)), (fun _ => rfl), (fun _ => rfl), rfl, rfl, rfl, (by decide +kernel), rfl, (by decide), (by decide), (fun h => absurd h (by decide))⟩
set_option maxRecDepth 100000 in
theorem mi_pc205 : mi_PC (13, 60, 179, 1, 0, 1386, 1387, 1388, 83, 1389) := ⟨(fun _ => rfl), (fun h => absurd h (by decide)), (fun h => absurd h (by decide)), (fun _ => rfl), (fun _ => rfl), rfl, rfl, rfl, (by decide +kernel), rfl, (by decide), (by decide), (fun h => absurd h (by decide))⟩
set_option maxRecDepth 100000 in
theorem mi_pc206 : mi_PC (13, 65, 181, 5, 0, 1390, 1391, 1392, 83, 1393) := ⟨(fun _ => rfl), (fun h => absurd h (by decide)), (fun h => absurd h (by decide)), (fun _ => rfl), (fun _ => rfl), rfl, rfl, rfl, (by decide +kernel), rfl, (by decide), (by decide), (fun h => absurd h (by decide))⟩
set_option maxRecDepth 100000 in
theorem mi_pc207 : mi_PC (12, 241, 180, 2, 0, 1395, 1397, 54, 83, 1398) := ⟨(fun _ => rfl), (fun h => absurd h (by decide)), (fun h => absurd h (by decide)), (fun _ => rfl), (fun _ => rfl), rfl, rfl, rfl, (by decide +kernel), rfl, (by decide), (by decide), (fun h => absurd h (by decide))⟩
set_option maxRecDepth 100000 in
theorem mi_pc208 : mi_PC (13, 124, 182, 7, 0, 1400, 1401, 1402, 83, 1403) := ⟨(fun _ => rfl), (fun h => absurd h (by decide)), (fun h => absurd h (by decide)), (fun _ => rfl), (fun _ => rfl), rfl, rfl, rfl, (by decide +kernel), rfl, (by decide), (by decide), (fun h => absurd h (by decide))⟩
set_option maxRecDepth 100000 in
theorem mi_pc209 : mi_PC (13, 69, 183, 1, 0, 1406, 1407, 1408, 83, 1409) := ⟨(fun _ => rfl), (fun h => absurd h (by decide)), (fun h => absurd h (by decide)), (fun _ => rfl), (fun _ => rfl), rfl, rfl, rfl, (by decide +kernel), rfl, (by decide), (by decide), (fun h => absurd h (by decide))⟩
set_option maxRecDepth 100000 in
theorem mi_pc210 : mi_PC (13, 73, 184, 3, 0, 1410, 1411, 1412, 83, 1413) := ⟨(fun _ => rfl), (fun h => absurd h (by decide)), (fun h => absurd h (by decide)), (fun _ => rfl), (fun _ => rfl), rfl, rfl, rfl, (by decide +kernel), rfl, (by decide), (by decide), (fun h => absurd h (by decide))⟩
set_option maxRecDepth 100000 in
theorem mi_pc211 : mi_PC (13, 77, 192, 1, 0, 1415, 1416, 1417, 83, 1418) := ⟨(fun _ => rfl), (fun h => absurd h (by decide)), (fun h => absurd h (by decide)), (fun _ => rfl), (fun _ => rfl), rfl, rfl, rfl, (by decide +kernel), rfl, (by decide), (by decide), (fun h => absurd h (by decide))⟩
set_option maxRecDepth 100000 in
theorem mi_pc212 : mi_PC (12, 313, 191, 1, 0, 1419, 1421, 55, 83, 1422) := ⟨(fun _ => rfl), (fun h => absurd h (by decide)), (fun h => absurd h (by decide)), (fun _ => rfl), (fun _ => rfl), rfl, rfl, rfl, (by decide +kernel), rfl, (by decide), (by decide), (fun h => absurd h (by decide))⟩
set_option maxRecDepth 100000 in
theorem mi_pc213 : mi_PC (12, 310, 189, 2, 0, 1423, 1425, 56, 83, 1426) := ⟨(fun _ => rfl), (fun h => absurd h (by decide)), (fun h => absurd h (by decide)), (fun _ => rfl), (fun _ => rfl), rfl, rfl, rfl, (by decide +kernel), rfl, (by decide), (by decide), (fun h => absurd h (by decide))⟩
set_option maxRecDepth 100000 in
theorem mi_pc214 : mi_PC (12, 273, 186, 1, 0, 1427, 1429, 57, 83, 1430) := ⟨(fun _ => rfl), (fun h => absurd h (by decide)), (fun h => absurd h (by decide)), (fun _ => rfl), (fun _ => rfl), rfl, rfl, rfl, (by decide +kernel), rfl, (by decide), (by decide), (fun h => absurd h (by decide))⟩
set_option maxRecDepth 100000 in
theorem mi_pc215 : mi_PC (12, 265, 185, 1, 0, 1431, 1433, 58, 83, 1434) := ⟨(fun _ => rfl), (fun h => absurd h (by decide)), (fun h => absurd h (by decide)), (fun _ => rfl), (fun _ => rfl), rfl, rfl, rfl, (by decide +kernel), rfl, (by decide), (by decide), (fun h => absurd h (by decide))⟩
set_option maxRecDepth 100000 in
theorem mi_pc216 : mi_PC (12, 277, 187, 1, 0, 1437, 1439, 59, 83, 1440) := ⟨(fun _ => rfl), (fun h => absurd h (by decide)), (fun h => absurd h (by decide)), (fun _ => rfl), (fun _ => rfl), rfl, rfl, rfl, (by decide +kernel), rfl, (by decide), (by decide), (fun h => absurd h (by decide))⟩
set_option maxRecDepth 100000 in
theorem mi_pc217 : mi_PC (12, 280, 188, 1, 0, 1441, 1443, 60, 83, 1444) := ⟨(fun _ => rfl), (fun h => absurd h (by decide)), (fun h => absurd h (by decide)), (fun _ => rfl), (fun _ => rfl), rfl, rfl, rfl, (by decide +kernel), rfl, (by decide), (by decide), (fun h => absurd h (by decide))⟩
set_option maxRecDepth 100000 in
theorem mi_pc218 : mi_PC (12, 283, 159, 5, 0, 1445, 1262, 1263, 83, 1264) := ⟨(fun _ => rfl), (fun h => absurd h (by decide)), (fun h => absurd h (by decide)), (fun _ => rfl), (fun _ => rfl), rfl, rfl, rfl, (by decide +kernel), rfl, (by decide), (by decide), (fun h => absurd h (by decide))⟩
set_option maxRecDepth 100000 in
theorem mi_pc219 : mi_PC (12, 287, 160, 3, 0, 1446, 1307, 1308, 83, 1309) := ⟨(fun _ => rfl), (fun h => absurd h (by decide)), (fun h => absurd h (by decide)), (fun _ => rfl), (fun _ => rfl), rfl, rfl, rfl, (by decide +kernel), rfl, (by decide), (by decide), (fun h => absurd h (by decide))⟩
set_option maxRecDepth 100000 in
theorem mi_pc220 : mi_PC (12, 291, 162, 2, 0, 1447, 1311, 1312, 83, 1313) := ⟨(fun _ => rfl), (fun h => absurd h (by decide)), (fun h => absurd h (by decide)), (fun _ => rfl), (fun _ => rfl), rfl, rfl, rfl, (by decide +kernel), rfl, (by decide), (by decide), (fun h => absurd h (by decide))⟩
set_option maxRecDepth 100000 in
theorem mi_pc221 : mi_PC (12, 294, 163, 2, 0, 1448, 1319, 1320, 83, 1321) := ⟨(fun _ => rfl), (fun h => absurd h (by decide)), (fun h => absurd h (by decide)), (fun _ => rfl), (fun _ => rfl), rfl, rfl, rfl, (by decide +kernel), rfl, (by decide), (by decide), (fun h => absurd h (by decide))⟩
set_option maxRecDepth 100000 in
theorem mi_pc222 : mi_PC (12, 296, 190, 1, 0, 1449, 1451, 61, 83, 1452) := ⟨(fun _ => rfl), (fun h => absurd h (by decide)), (fun h => absurd h (by decide)), (fun _ => rfl), (fun _ => rfl), rfl, rfl, rfl, (by decide +kernel), rfl, (by decide), (by decide), (fun h => absurd h (by decide))⟩
set_option maxRecDepth 100000 in
theorem mi_pc223 : mi_PC (12, 299, 174, 3, 0, 1454, 1367, 1368, 83, 1369) := ⟨(fun _ => rfl), (fun h => absurd h (by decide)), (fun h => absurd h (by decide)), (fun _ => rfl), (fun _ => rfl), rfl, rfl, rfl, (by decide +kernel), rfl, (by decide), (by decide), (fun h => absurd h (by decide))⟩
set_option maxRecDepth 100000 in
theorem mi_pc224 : mi_PC (12, 302, 178, 1, 0, 1455, 1375, 1376, 83, 1377) := ⟨(fun _ => rfl), (fun h => absurd h (by decide)), (fun h => absurd h (by decide)), (fun _ => rfl), (fun _ => rfl), rfl, rfl, rfl, (by decide +kernel), rfl, (by decide), (by decide), (fun h => absurd h (by decide))⟩
set_option maxRecDepth 100000 in
theorem mi_pc225 : mi_PC (12, 305, 179, 1, 0, 1456, 1387, 1388, 83, 1389) := ⟨(fun _ => rfl), (fun h => absurd h (by decide)), (fun h => absurd h (by decide)), (fun _ => rfl), (fun _ => rfl), rfl, rfl, rfl, (by decide +kernel), rfl, (by decide), (by decide), (fun h => absurd h (by decide))⟩
set_option maxRecDepth 100000 in
theorem mi_pc226 : mi_PC (13, 81, 193, 2, 0, 1457, 1458, 1459, 83, 1460) := ⟨(fun _ => rfl), (fun h => absurd h (by decide)), (fun h => absurd h (by decide)), (fun _ => rfl), (fun _ => rfl), rfl, rfl, rfl, (by decide +kernel), rfl, (by decide), (by decide), (fun h => absurd h (by decide))⟩
set_option maxRecDepth 100000 in
theorem mi_pc227 : mi_PC (13, 85, 194, 3, 0, 1461, 1462, 1463, 83, 1464) := ⟨(fun _ => rfl), (fun h => absurd h (by decide)), (fun h => absurd h (by decide)), (fun _ => rfl), (fun _ => rfl), rfl, rfl, rfl, (by decide +kernel), rfl, (by decide), (by decide), (fun h => absurd h (by decide))⟩
set_option maxRecDepth 100000 in
theorem mi_pc228 : mi_PC (13, 90, 197, 2, 0, 1465, 1466, 1467, 83, 1468) := ⟨(fun _ => rfl), (fun h => absurd h (by decide)), (fun h => absurd h (by decide)), (fun _ => rfl), (fun _ => rfl), rfl, rfl, rfl, (by decide +kernel), rfl, (by decide), (by decide), (fun h => absurd h (by decide))⟩
set_option maxRecDepth 100000 in
theorem mi_pc229 : mi_PC (12, 320, 196, 2, 0, 1469, 1471, 62, 83, 1472) := ⟨(fun _ => rfl), (fun h => absurd h (by decide)), (fun h => absurd h (by decide)), (fun _ => rfl), (fun _ => rfl), rfl, rfl, rfl, (by decide +kernel), rfl, (by decide), (by decide), (fun h => absurd h (by decide))⟩
set_option maxRecDepth 100000 in
theorem mi_pc230 : mi_PC (12, 316, 195, 3, 0, 1473, 1475, 63, 83, 1476) := ⟨(fun _ => rfl), (fun h => absurd h (by decide)), (fun h => absurd h (by decide)), (fun _ => rfl), (fun _ => rfl), rfl, rfl, rfl, (by decide +kernel), rfl, (by decide), (by decide), (fun h => absurd h (by decide))⟩
set_option maxRecDepth 100000 in
theorem mi_pc231 : mi_PC (13, 95, 198, 4, 0, 1477, 1478, 1479, 83, 1480) := ⟨(fun _ => rfl), (fun h => absurd h (by decide)), (fun h => absurd h (by decide)), (fun _ => rfl), (fun _ => rfl), rfl, rfl, rfl, (by decide +kernel), rfl, (by decide), (by decide), (fun h => absurd h (by decide))⟩
set_option maxRecDepth 100000 in
theorem mi_pc232 : mi_PC (13, 99, 199, 3, 0, 1481, 1482, 1483, 83, 1484) := ⟨(fun _ => rfl), (fun h => absurd h (by decide)), (fun h => absurd h (by decide)), (fun _ => rfl), (fun _ => rfl), rfl, rfl, rfl, (by decide +kernel), rfl, (by decide), (by decide), (fun h => absurd h (by decide))⟩
set_option maxRecDepth 100000 in
theorem mi_pc233 : mi_PC (13, 103, 200, 4, 0, 1485, 1486, 1487, 83, 1488) := ⟨(fun _ => rfl), (fun h => absurd h (by decide)), (fun h => absurd h (by decide)), (fun _ => rfl), (fun _ => rfl), rfl, rfl, rfl, (by decide +kernel), rfl, (by decide), (by decide), (fun h => absurd h (by decide))⟩
set_option maxRecDepth 100000 in
theorem mi_pc234 : mi_PC (13, 107, 201, 4, 0, 1489, 1490, 1491, 83, 1492) := ⟨(fun _ => rfl), (fun h => absurd h (by decide)), (fun h => absurd h (by decide)), (fun _ => rfl), (fun _ => rfl), rfl, rfl, rfl, (by decide +kernel), rfl, (by decide), (by decide), (fun h => absurd h (by decide))⟩
set_option maxRecDepth 100000 in
theorem mi_pc235 : mi_PC (13, 111, 202, 3, 0, 1493, 1494, 1495, 83, 1496) := ⟨(fun _ => rfl), (fun h => absurd h (by decide)), (fun h => absurd h (by decide)), (fun _ => rfl), (fun _ => rfl), rfl, rfl, rfl, (by decide +kernel), rfl, (by decide), (by decide), (fun h => absurd h (by decide))⟩
set_option maxRecDepth 100000 in
theorem mi_pc236 : mi_PC (13, 115, 209, 2, 0, 1497, 1498, 1499, 83, 1500) := ⟨(fun _ => rfl), (fun h => absurd h (by decide)), (fun h => absurd h (by decide)), (fun _ => rfl), (fun _ => rfl), rfl, rfl, rfl, (by decide +kernel), rfl, (by decide), (by decide), (fun h => absurd h (by decide))⟩
set_option maxRecDepth 100000 in
theorem mi_pc237 : mi_PC (12, 332, 205, 2, 0, 1501, 1503, 64, 83, 1504) := ⟨(fun _ => rfl), (fun h => absurd h (by decide)), (fun h => absurd h (by decide)), (fun _ => rfl), (fun _ => rfl), rfl, rfl, rfl, (by decide +kernel), rfl, (by decide), (by decide), (fun h => absurd h (by decide))⟩
set_option maxRecDepth 100000 in
theorem mi_pc238 : mi_PC (12, 324, 203, 2, 0, 1505, 1507, 65, 83, 1508) := ⟨(fun _ => rfl), (fun h => absurd h (by decide)), (fun h => absurd h (by decide)), (fun _ => rfl), (fun _ => rfl), rfl, rfl, rfl, (by decide +kernel), rfl, (by decide), (by decide), (fun h => absurd h (by decide))⟩
set_option maxRecDepth 100000 in
theorem mi_pc239 : mi_PC (12, 329, 204, 2, 0, 1509, 1511, 66, 83, 1512) := ⟨(fun _ => rfl), (fun h => absurd h (by decide)), (fun h => absurd h (by decide)), (fun _ => rfl), (fun _ => rfl), rfl, rfl, rfl, (by decide +kernel), rfl, (by decide), (by decide), (fun h => absurd h (by decide))⟩
set_option maxRecDepth 100000 in
theorem mi_pc240 : mi_PC (12, 338, 206, 1, 0, 1514, 1516, 67, 83, 1517) := ⟨(fun _ => rfl), (fun h => absurd h (by decide)), (fun h => absurd h (by decide)), (fun _ => rfl), (fun _ => rfl), rfl, rfl, rfl, (by decide +kernel), rfl, (by decide), (by decide), (fun h => absurd h (by decide))⟩
set_option maxRecDepth 100000 in
theorem mi_pc241 : mi_PC (12, 341, 208, 3, 0, 1518, 1520, 68, 83, 1521) := ⟨(fun _ => rfl), (fun h => absurd h (by decide)), (fun h => absurd h (by decide)), (fun _ => rfl), (fun _ => rfl), rfl, rfl, rfl, (by decide +kernel), rfl, (by decide), (by decide), (fun h => absurd h (by decide))⟩
set_option maxRecDepth 100000 in
theorem mi_pc242 : mi_PC (12, 335, 207, 2, 0, 1522, 1524, 69, 83, 1525) := ⟨(fun _ => rfl), (fun h => absurd h (by decide)), (fun h => absurd h (by decide)), (fun _ => rfl), (fun _ => rfl), rfl, rfl, rfl, (by decide +kernel), rfl, (by decide), (by decide), (fun h => absurd h (by decide))⟩
set_option maxRecDepth 100000 in
theorem mi_pc243 : mi_PC (13, 119, 210, 2, 0, 1526, 1527, 1528, 83, 1529) := ⟨(fun _ => rfl), (fun h => absurd h (by decide)), (fun h => absurd h (by decide)), (fun _ => rfl), (fun _ => rfl), rfl, rfl, rfl, (by decide +kernel), rfl, (by decide), (by decide), (fun h => absurd h (by decide))⟩
set_option maxRecDepth 100000 in
theorem mi_pc244 : mi_PC (13, 128, 211, 2, 0, 1530, 1531, 1532, 83, 1533) := ⟨(fun _ => rfl), (fun h => absurd h (by decide)), (fun h => absurd h (by decide)), (fun _ => rfl), (fun _ => rfl), rfl, rfl, rfl, (by decide +kernel), rfl, (by decide), (by decide), (fun h => absurd h (by decide))⟩
set_option maxRecDepth 100000 in
theorem mi_pc245 : mi_PC (11, 9, 15, 1, 3, 97, 98, 0, 72, 99) := ⟨(fun h => absurd h (by decide)), (fun _ => rfl), (fun h => absurd h (by decide)), (fun _ => rfl), (fun h => absurd h (by decide)), rfl, rfl, rfl, (by decide +kernel), rfl, (by decide), (by decide), (fun _ => ⟨rfl, rfl⟩)⟩
set_option maxRecDepth 100000 in
theorem mi_pc246 : mi_PC (1, 11, 0, 1, 3, 103, 104, 0, 73, 105) := ⟨(fun h => absurd h (by decide)), (fun _ => rfl), (fun h => absurd h (by decide)), (fun _ => rfl), (fun h => absurd h (by decide)), rfl, rfl, rfl, (by decide +kernel), rfl, (by decide), (by decide), (fun _ => ⟨rfl, rfl⟩)⟩
set_option maxRecDepth 100000 in
theorem mi_pc247 : mi_PC (1, 20, 70, 1, 3, 182, 183, 0, 76, 184) := ⟨(fun h => absurd h (by decide)), (fun _ => rfl), (fun h => absurd h (by decide)), (fun _ => rfl), (fun h => absurd h (by decide)), rfl, rfl, rfl, (by decide +kernel), rfl, (by decide), (by decide), (fun _ => ⟨rfl, rfl⟩)⟩
set_option maxRecDepth 100000 in
theorem mi_pc248 : mi_PC (1, 27, 37, 1, 3, 207, 208, 0, 77, 209) := ⟨(fun h => absurd h (by decide)), (fun _ => rfl), (fun h => absurd h (by decide)), (fun _ => rfl), (fun h => absurd h (by decide)), rfl, rfl, rfl, (by decide +kernel), rfl, (by decide), (by decide), (fun _ => ⟨rfl, rfl⟩)⟩
set_option maxRecDepth 100000 in
theorem mi_pc249 : mi_PC (11, 18, 51, 1, 3, 281, 282, 0, 78, 283) := ⟨(fun h => absurd h (by decide)), (fun _ => rfl), (fun h => absurd h (by decide)), (fun _ => rfl), (fun h => absurd h (by decide)), rfl, rfl, rfl, (by decide +kernel), rfl, (by decide), (by decide), (fun _ => ⟨rfl, rfl⟩)⟩
set_option maxRecDepth 100000 in
theorem mi_pc250 : mi_PC (11, 46, 98, 1, 3, 372, 373, 0, 81, 374) := ⟨(fun h => absurd h (by decide)), (fun _ => rfl), (fun h => absurd h (by decide)), (fun _ => rfl), (fun h => absurd h (by decide)), rfl, rfl, rfl, (by decide +kernel), rfl, (by decide), (by decide), (fun _ => ⟨rfl, rfl⟩)⟩
set_option maxRecDepth 100000 in
theorem mi_pc251 : mi_PC (1, 85, 147, 1, 4, 601, 602, 0, 71, 603) := ⟨(fun h => absurd h (by decide)), (fun _ => rfl), (fun _ => rfl), (fun h => absurd h (by decide)), (fun h => absurd h (by decide)), rfl, rfl, rfl, (by decide +kernel), rfl, (by decide), (by decide), (fun h => absurd h (by decide))⟩
set_option maxRecDepth 100000 in
theorem mi_pc252 : mi_PC (1, 132, 148, 2, 4, 673, 606, 0, 71, 607) := ⟨(fun h => absurd h (by decide)), (fun _ => rfl), (fun _ => rfl), (fun h => absurd h (by decide)), (fun h => absurd h (by decide)), rfl, rfl, rfl, (by decide +kernel), rfl, (by decide), (by decide), (fun h => absurd h (by decide))⟩
set_option maxRecDepth 100000 in
theorem mi_tC_ok : ∀ e ∈ mi_tC, mi_PC e := List.forall_mem_cons.mpr ⟨mi_pc0, List.forall_mem_cons.mpr ⟨mi_pc1, List.forall_mem_cons.mpr ⟨mi_pc2, List.forall_mem_cons.mpr ⟨mi_pc3, List.forall_mem_cons.mpr ⟨mi_pc4, List.forall_mem_cons.mpr ⟨mi_pc5, List.forall_mem_cons.mpr ⟨mi_pc6, List.forall_mem_cons.mpr ⟨mi_pc7, List.forall_mem_cons.mpr ⟨mi_pc8, List.forall_mem_cons.mpr ⟨mi_pc9, List.forall_mem_cons.mpr ⟨mi_pc10, List.forall_mem_cons.mpr ⟨mi_pc11, List.forall_mem_cons.mpr ⟨mi_pc12, List.forall_mem_cons.mpr ⟨mi_pc13, List.forall_mem_cons.mpr ⟨mi_pc14, List.forall_mem_cons.mpr ⟨mi_pc15, List.forall_mem_cons.mpr ⟨mi_pc16, List.forall_mem_cons.mpr ⟨mi_pc17, List.forall_mem_cons.mpr ⟨mi_pc18, List.forall_mem_cons.mpr ⟨mi_pc19, List.forall_mem_cons.mpr ⟨mi_pc20, List.forall_mem_cons.mpr ⟨mi_pc21, List.forall_mem_cons.mpr ⟨mi_pc22, List.forall_mem_cons.mpr ⟨mi_pc23, List.forall_mem_cons.mpr ⟨mi_pc24, List.forall_mem_cons.mpr ⟨mi_pc25, List.forall_mem_cons.mpr ⟨mi_pc26, List.forall_mem_cons.mpr ⟨mi_pc27, List.forall_mem_cons.mpr ⟨mi_pc28, List.forall_mem_cons.mpr ⟨mi_pc29, List.forall_mem_cons.mpr ⟨mi_pc30, List.forall_mem_cons.mpr ⟨mi_pc31, List.forall_mem_cons.mpr ⟨mi_pc32, List.forall_mem_cons.mpr ⟨mi_pc33, List.forall_mem_cons.mpr ⟨mi_pc34, List.forall_mem_cons.mpr ⟨mi_pc35, List.forall_mem_cons.mpr ⟨mi_pc36, List.forall_mem_cons.mpr ⟨mi_pc37, List.forall_mem_cons.mpr ⟨mi_pc38, List.forall_mem_cons.mpr ⟨mi_pc39, List.forall_mem_cons.mpr ⟨mi_pc40, List.forall_mem_cons.mpr ⟨mi_pc41, List.forall_mem_cons.mpr ⟨mi_pc42, List.forall_mem_cons.mpr ⟨mi_pc43, List.forall_mem_cons.mpr ⟨mi_pc44, List.forall_mem_cons.mpr ⟨mi_pc45, List.forall_mem_cons.mpr ⟨mi_pc46, List.forall_mem_cons.mpr ⟨mi_pc47, List.forall_mem_cons.mpr ⟨mi_pc48, List.forall_mem_cons.mpr ⟨mi_pc49, List.forall_mem_cons.mpr ⟨mi_pc50, List.forall_mem_cons.mpr ⟨mi_pc51, List.forall_mem_cons.mpr ⟨mi_pc52, List.forall_mem_cons.mpr ⟨mi_pc53, List.forall_mem_cons.mpr ⟨mi_pc54, List.forall_mem_cons.mpr ⟨mi_pc55, List.forall_mem_cons.mpr ⟨mi_pc56, List.forall_mem_cons.mpr ⟨mi_pc57, List.forall_mem_cons.mpr ⟨mi_pc58, List.forall_mem_cons.mpr ⟨mi_pc59, List.forall_mem_cons.mpr ⟨mi_pc60, List.forall_mem_cons.mpr ⟨mi_pc61, List.forall_mem_cons.mpr ⟨mi_pc62, List.forall_mem_cons.mpr ⟨mi_pc63, List.forall_mem_cons.mpr ⟨mi_pc64, List.forall_mem_cons.mpr ⟨mi_pc65, List.forall_mem_cons.mpr ⟨mi_pc66, List.forall_mem_cons.mpr ⟨mi_pc67, List.forall_mem_cons.mpr ⟨mi_pc68, List.forall_mem_cons.mpr ⟨mi_pc69, List.forall_mem_cons.mpr ⟨mi_pc70, List.forall_mem_cons.mpr ⟨mi_pc71, List.forall_mem_cons.mpr ⟨mi_pc72, List.forall_mem_cons.mpr ⟨mi_pc73, List.forall_mem_cons.mpr ⟨mi_pc74, List.forall_mem_cons.mpr ⟨mi_pc75, List.forall_mem_cons.mpr ⟨mi_pc76, List.forall_mem_cons.mpr ⟨mi_pc77, List.forall_mem_cons.mpr ⟨mi_pc78, List.forall_mem_cons.mpr ⟨mi_pc79, List.forall_mem_cons.mpr ⟨mi_pc80, List.forall_mem_cons.mpr ⟨mi_pc81, List.forall_mem_cons.mpr ⟨mi_pc82, List.forall_mem_cons.mpr ⟨mi_pc83, List.forall_mem_cons.mpr ⟨mi_pc84, List.forall_mem_cons.mpr ⟨mi_pc85, List.forall_mem_cons.mpr ⟨mi_pc86, List.forall_mem_cons.mpr ⟨mi_pc87, List.forall_mem_cons.mpr ⟨mi_pc88, List.forall_mem_cons.mpr ⟨mi_pc89, List.forall_mem_cons.mpr ⟨mi_pc90, List.forall_mem_cons.mpr ⟨mi_pc91, List.forall_mem_cons.mpr ⟨mi_pc92, List.forall_mem_cons.mpr ⟨mi_pc93, List.forall_mem_cons.mpr ⟨mi_pc94, List.forall_mem_cons.mpr ⟨mi_pc95, List.forall_mem_cons.mpr ⟨mi_pc96, List.forall_mem_cons.mpr ⟨mi_pc97, List.forall_mem_cons.mpr ⟨mi_pc98, List.forall_mem_cons.mpr ⟨mi_pc99, List.forall_mem_cons.mpr ⟨mi_pc100, List.forall_mem_cons.mpr ⟨mi_pc101, List.forall_mem_cons.mpr ⟨mi_pc102, List.forall_mem_cons.mpr ⟨mi_pc103, List.forall_mem_cons.mpr ⟨mi_pc104, List.forall_mem_cons.mpr ⟨mi_pc105, List.forall_mem_cons.mpr ⟨mi_pc106, List.forall_mem_cons.mpr ⟨mi_pc107, List.forall_mem_cons.mpr ⟨mi_pc108, List.forall_mem_cons.mpr ⟨mi_pc109, List.forall_mem_cons.mpr ⟨mi_pc110, List.forall_mem_cons.mpr ⟨mi_pc111, List.forall_mem_cons.mpr ⟨mi_pc112, List.forall_mem_cons.mpr ⟨mi_pc113, List.forall_mem_cons.mpr ⟨mi_pc114, List.forall_mem_cons.mpr ⟨mi_pc115, List.forall_mem_cons.mpr ⟨mi_pc116, List.forall_mem_cons.mpr ⟨mi_pc117, List.forall_mem_cons.mpr ⟨mi_pc118, List.forall_mem_cons.mpr ⟨mi_pc119, List.forall_mem_cons.mpr ⟨mi_pc120, List.forall_mem_cons.mpr ⟨mi_pc121, List.forall_mem_cons.mpr ⟨mi_pc122, List.forall_mem_cons.mpr ⟨mi_pc123, List.forall_mem_cons.mpr ⟨mi_pc124, List.forall_mem_cons.mpr ⟨mi_pc125, List.forall_mem_cons.mpr ⟨mi_pc126, List.forall_mem_cons.mpr ⟨mi_pc127, List.forall_mem_cons.mpr ⟨mi_pc128, List.forall_mem_cons.mpr ⟨mi_pc129, List.forall_mem_cons.mpr ⟨mi_pc130, List.forall_mem_cons.mpr ⟨mi_pc131, List.forall_mem_cons.mpr ⟨mi_pc132, List.forall_mem_cons.mpr ⟨mi_pc133, List.forall_mem_cons.mpr ⟨mi_pc134, List.forall_mem_cons.mpr ⟨mi_pc135, List.forall_mem_cons.mpr ⟨mi_pc136, List.forall_mem_cons.mpr ⟨mi_pc137, List.forall_mem_cons.mpr ⟨mi_pc138, List.forall_mem_cons.mpr ⟨mi_pc139, List.forall_mem_cons.mpr ⟨mi_pc140, List.forall_mem_cons.mpr ⟨mi_pc141, List.forall_mem_cons.mpr ⟨mi_pc142, List.forall_mem_cons.mpr ⟨mi_pc143, List.forall_mem_cons.mpr ⟨mi_pc144, List.forall_mem_cons.mpr ⟨mi_pc145, List.forall_mem_cons.mpr ⟨mi_pc146, List.forall_mem_cons.mpr ⟨mi_pc147, List.forall_mem_cons.mpr ⟨mi_pc148, List.forall_mem_cons.mpr ⟨mi_pc149, List.forall_mem_cons.mpr ⟨mi_pc150, List.forall_mem_cons.mpr ⟨mi_pc151, List.forall_mem_cons.mpr ⟨mi_pc152, List.forall_mem_cons.mpr ⟨mi_pc153, List.forall_mem_cons.mpr ⟨mi_pc154, List.forall_mem_cons.mpr ⟨mi_pc155, List.forall_mem_cons.mpr ⟨mi_pc156, List.forall_mem_cons.mpr ⟨mi_pc157, List.forall_mem_cons.mpr ⟨mi_pc158, List.forall_mem_cons.mpr ⟨mi_pc159, List.forall_mem_cons.mpr ⟨mi_pc160, List.forall_mem_cons.mpr ⟨mi_pc161, List.forall_mem_cons.mpr ⟨mi_pc162, List.forall_mem_cons.mpr ⟨mi_pc163, List.forall_mem_cons.mpr ⟨mi_pc164, List.forall_mem_cons.mpr ⟨mi_pc165, List.forall_mem_cons.mpr ⟨mi_pc166, List.forall_mem_cons.mpr ⟨mi_pc167, List.forall_mem_cons.mpr ⟨mi_pc168, List.forall_mem_cons.mpr ⟨mi_pc169, List.forall_mem_cons.mpr ⟨mi_pc170, List.forall_mem_cons.mpr ⟨mi_pc171, List.forall_mem_cons.mpr ⟨mi_pc172, List.forall_mem_cons.mpr ⟨mi_pc173, List.forall_mem_cons.mpr ⟨mi_pc174, List.forall_mem_cons.mpr ⟨mi_pc175, List.forall_mem_cons.mpr ⟨mi_pc176, List.forall_mem_cons.mpr ⟨mi_pc177, List.forall_mem_cons.mpr ⟨mi_pc178, List.forall_mem_cons.mpr ⟨mi_pc179, List.forall_mem_cons.mpr ⟨mi_pc180, List.forall_mem_cons.mpr ⟨mi_pc181, List.forall_mem_cons.mpr ⟨mi_pc182, List.forall_mem_cons.mpr ⟨mi_pc183, List.forall_mem_cons.mpr ⟨mi_pc184, List.forall_mem_cons.mpr ⟨mi_pc185, List.forall_mem_cons.mpr ⟨mi_pc186, List.forall_mem_cons.mpr ⟨mi_pc187, List.forall_mem_cons.mpr ⟨mi_pc188, List.forall_mem_cons.mpr ⟨mi_pc189, List.forall_mem_cons.mpr ⟨mi_pc190, List.forall_mem_cons.mpr ⟨mi_pc191, List.forall_mem_cons.mpr ⟨mi_pc192, List.forall_mem_cons.mpr ⟨mi_pc193, List.forall_mem_cons.mpr ⟨mi_pc194, List.forall_mem_cons.mpr ⟨mi_pc195, List.forall_mem_cons.mpr ⟨mi_pc196, List.forall_mem_cons.mpr ⟨mi_pc197, List.forall_mem_cons.mpr ⟨mi_pc198, List.forall_mem_cons.mpr ⟨mi_pc199, List.forall_mem_cons.mpr ⟨mi_pc200, List.forall_mem_cons.mpr ⟨mi_pc201, List.forall_mem_cons.mpr ⟨mi_pc202, List.forall_mem_cons.mpr ⟨mi_pc203, List.forall_mem_cons.mpr ⟨mi_pc204, List.forall_mem_cons.mpr ⟨mi_pc205, List.forall_mem_cons.mpr ⟨mi_pc206, List.forall_mem_cons.mpr ⟨mi_pc207, List.forall_mem_cons.mpr ⟨mi_pc208, List.forall_mem_cons.mpr ⟨mi_pc209, List.forall_mem_cons.mpr ⟨mi_pc210, List.forall_mem_cons.mpr ⟨mi_pc211, List.forall_mem_cons.mpr ⟨mi_pc212, List.forall_mem_cons.mpr ⟨mi_pc213, List.forall_mem_cons.mpr ⟨mi_pc214, List.forall_mem_cons.mpr ⟨mi_pc215, List.forall_mem_cons.mpr ⟨mi_pc216, List.forall_mem_cons.mpr ⟨mi_pc217, List.forall_mem_cons.mpr ⟨mi_pc218, List.forall_mem_cons.mpr ⟨mi_pc219, List.forall_mem_cons.mpr ⟨mi_pc220, List.forall_mem_cons.mpr ⟨mi_pc221, List.forall_mem_cons.mpr ⟨mi_pc222, List.forall_mem_cons.mpr ⟨mi_pc223, List.forall_mem_cons.mpr ⟨mi_pc224, List.forall_mem_cons.mpr ⟨mi_pc225, List.forall_mem_cons.mpr ⟨mi_pc226, List.forall_mem_cons.mpr ⟨mi_pc227, List.forall_mem_cons.mpr ⟨mi_pc228, List.forall_mem_cons.mpr ⟨mi_pc229, List.forall_mem_cons.mpr ⟨mi_pc230, List.forall_mem_cons.mpr ⟨mi_pc231, List.forall_mem_cons.mpr ⟨mi_pc232, List.forall_mem_cons.mpr ⟨mi_pc233, List.forall_mem_cons.mpr ⟨mi_pc234, List.forall_mem_cons.mpr ⟨mi_pc235, List.forall_mem_cons.mpr ⟨mi_pc236, List.forall_mem_cons.mpr ⟨mi_pc237, List.forall_mem_cons.mpr ⟨mi_pc238, List.forall_mem_cons.mpr ⟨mi_pc239, List.forall_mem_cons.mpr ⟨mi_pc240, List.forall_mem_cons.mpr ⟨mi_pc241, List.forall_mem_cons.mpr ⟨mi_pc242, List.forall_mem_cons.mpr ⟨mi_pc243, List.forall_mem_cons.mpr ⟨mi_pc244, List.forall_mem_cons.mpr ⟨mi_pc245, List.forall_mem_cons.mpr ⟨mi_pc246, List.forall_mem_cons.mpr ⟨mi_pc247, List.forall_mem_cons.mpr ⟨mi_pc248, List.forall_mem_cons.mpr ⟨mi_pc249, List.forall_mem_cons.mpr ⟨mi_pc250, List.forall_mem_cons.mpr ⟨mi_pc251, List.forall_mem_cons.mpr ⟨mi_pc252, fun _ h => absurd h List.not_mem_nil⟩⟩⟩⟩⟩⟩⟩⟩⟩⟩⟩⟩⟩⟩⟩⟩⟩⟩⟩⟩⟩⟩⟩⟩⟩⟩⟩⟩⟩⟩⟩⟩⟩⟩⟩⟩⟩⟩⟩⟩⟩⟩⟩⟩⟩⟩⟩⟩⟩⟩⟩⟩⟩⟩⟩⟩⟩⟩⟩⟩⟩⟩⟩⟩⟩⟩⟩⟩⟩⟩⟩⟩⟩⟩⟩⟩⟩⟩⟩⟩⟩⟩⟩⟩⟩⟩⟩⟩⟩⟩⟩⟩⟩⟩⟩⟩⟩⟩⟩⟩⟩⟩⟩⟩⟩⟩⟩⟩⟩⟩⟩⟩⟩⟩⟩⟩⟩⟩⟩⟩⟩⟩⟩⟩⟩⟩⟩⟩⟩⟩⟩⟩⟩⟩⟩⟩⟩⟩⟩⟩⟩⟩⟩⟩⟩⟩⟩⟩⟩⟩⟩⟩⟩⟩⟩⟩⟩⟩⟩⟩⟩⟩⟩⟩⟩⟩⟩⟩⟩⟩⟩⟩⟩⟩⟩⟩⟩⟩⟩⟩⟩⟩⟩⟩⟩⟩⟩⟩⟩⟩⟩⟩⟩⟩⟩⟩⟩⟩⟩⟩⟩⟩⟩⟩⟩⟩⟩⟩⟩⟩⟩⟩⟩⟩⟩⟩⟩⟩⟩⟩⟩⟩⟩⟩⟩⟩⟩⟩⟩⟩⟩⟩⟩⟩⟩⟩⟩⟩⟩⟩⟩⟩⟩⟩⟩⟩⟩⟩⟩⟩⟩⟩⟩
def mi_PF : Nat × Nat × Nat × Nat × Nat → Prop := fun e => match e with
  | (o, i, k, sl, p) => lw_tbl[p]? = some (Cond.fieldLink (mi_RX o) i (mi_T k sl).1 (mi_T k sl).2.1 (mi_T k sl).2.2.1) ∧ sl < mi_n k ∧ k < 13 ∧ (mi_T k sl).1 = mi_RX k ∧ k ≠ 3 ∧ k ≠ 6
set_option maxRecDepth 100000 in
theorem mi_pf0 : mi_PF (0, 14, 0, 0, 135) := ⟨rfl, by decide, by decide, rfl, by decide, by decide⟩
set_option maxRecDepth 100000 in
theorem mi_pf1 : mi_PF (10, 97, 0, 0, 136) := ⟨rfl, by decide, by decide, rfl, by decide, by decide⟩
set_option maxRecDepth 100000 in
theorem mi_pf2 : mi_PF (0, 20, 0, 1, 137) := ⟨rfl, by decide, by decide, rfl, by decide, by decide⟩
set_option maxRecDepth 100000 in
theorem mi_pf3 : mi_PF (10, 73, 0, 1, 138) := ⟨rfl, by decide, by decide, rfl, by decide, by decide⟩
set_option maxRecDepth 100000 in
theorem mi_pf4 : mi_PF (1, 75, 0, 1, 139) := ⟨rfl, by decide, by decide, rfl, by decide, by decide⟩
set_option maxRecDepth 100000 in
theorem mi_pf5 : mi_PF (0, 23, 0, 2, 140) := ⟨rfl, by decide, by decide, rfl, by decide, by decide⟩
set_option maxRecDepth 100000 in
theorem mi_pf6 : mi_PF (10, 70, 0, 2, 141) := ⟨rfl, by decide, by decide, rfl, by decide, by decide⟩
set_option maxRecDepth 100000 in
theorem mi_pf7 : mi_PF (0, 26, 0, 3, 142) := ⟨rfl, by decide, by decide, rfl, by decide, by decide⟩
set_option maxRecDepth 100000 in
theorem mi_pf8 : mi_PF (10, 94, 0, 3, 143) := ⟨rfl, by decide, by decide, rfl, by decide, by decide⟩
set_option maxRecDepth 100000 in
theorem mi_pf9 : mi_PF (0, 29, 0, 4, 144) := ⟨rfl, by decide, by decide, rfl, by decide, by decide⟩
set_option maxRecDepth 100000 in
theorem mi_pf10 : mi_PF (11, 227, 0, 4, 145) := ⟨rfl, by decide, by decide, rfl, by decide, by decide⟩
set_option maxRecDepth 100000 in
theorem mi_pf11 : mi_PF (0, 32, 0, 5, 146) := ⟨rfl, by decide, by decide, rfl, by decide, by decide⟩
set_option maxRecDepth 100000 in
theorem mi_pf12 : mi_PF (10, 47, 0, 5, 147) := ⟨rfl, by decide, by decide, rfl, by decide, by decide⟩
set_option maxRecDepth 100000 in
theorem mi_pf13 : mi_PF (1, 182, 0, 5, 148) := ⟨rfl, by decide, by decide, rfl, by decide, by decide⟩
set_option maxRecDepth 100000 in
theorem mi_pf14 : mi_PF (0, 38, 0, 6, 149) := ⟨rfl, by decide, by decide, rfl, by decide, by decide⟩
set_option maxRecDepth 100000 in
theorem mi_pf15 : mi_PF (10, 58, 0, 6, 150) := ⟨rfl, by decide, by decide, rfl, by decide, by decide⟩
set_option maxRecDepth 100000 in
theorem mi_pf16 : mi_PF (1, 127, 0, 6, 151) := ⟨rfl, by decide, by decide, rfl, by decide, by decide⟩
set_option maxRecDepth 100000 in
theorem mi_pf17 : mi_PF (11, 194, 0, 6, 152) := ⟨rfl, by decide, by decide, rfl, by decide, by decide⟩
set_option maxRecDepth 100000 in
theorem mi_pf18 : mi_PF (0, 42, 0, 7, 153) := ⟨rfl, by decide, by decide, rfl, by decide, by decide⟩
set_option maxRecDepth 100000 in
theorem mi_pf19 : mi_PF (0, 45, 0, 8, 154) := ⟨rfl, by decide, by decide, rfl, by decide, by decide⟩
set_option maxRecDepth 100000 in
theorem mi_pf20 : mi_PF (0, 48, 0, 9, 155) := ⟨rfl, by decide, by decide, rfl, by decide, by decide⟩
set_option maxRecDepth 100000 in
theorem mi_pf21 : mi_PF (1, 61, 0, 9, 156) := ⟨rfl, by decide, by decide, rfl, by decide, by decide⟩
set_option maxRecDepth 100000 in
theorem mi_pf22 : mi_PF (10, 44, 0, 9, 157) := ⟨rfl, by decide, by decide, rfl, by decide, by decide⟩
set_option maxRecDepth 100000 in
theorem mi_pf23 : mi_PF (11, 267, 0, 9, 158) := ⟨rfl, by decide, by decide, rfl, by decide, by decide⟩
set_option maxRecDepth 100000 in
theorem mi_pf24 : mi_PF (7, 14, 7, 0, 188) := ⟨rfl, by decide, by decide, rfl, by decide, by decide⟩
set_option maxRecDepth 100000 in
theorem mi_pf25 : mi_PF (7, 20, 7, 1, 189) := ⟨rfl, by decide, by decide, rfl, by decide, by decide⟩
set_option maxRecDepth 100000 in
theorem mi_pf26 : mi_PF (7, 23, 7, 2, 190) := ⟨rfl, by decide, by decide, rfl, by decide, by decide⟩
set_option maxRecDepth 100000 in
theorem mi_pf27 : mi_PF (1, 74, 7, 2, 191) := ⟨rfl, by decide, by decide, rfl, by decide, by decide⟩
set_option maxRecDepth 100000 in
theorem mi_pf28 : mi_PF (11, 268, 7, 2, 192) := ⟨rfl, by decide, by decide, rfl, by decide, by decide⟩
set_option maxRecDepth 100000 in
theorem mi_pf29 : mi_PF (7, 27, 7, 3, 193) := ⟨rfl, by decide, by decide, rfl, by decide, by decide⟩
set_option maxRecDepth 100000 in
theorem mi_pf30 : mi_PF (1, 99, 7, 3, 194) := ⟨rfl, by decide, by decide, rfl, by decide, by decide⟩
set_option maxRecDepth 100000 in
theorem mi_pf31 : mi_PF (11, 269, 7, 3, 195) := ⟨rfl, by decide, by decide, rfl, by decide, by decide⟩
set_option maxRecDepth 100000 in
theorem mi_pf32 : mi_PF (2, 14, 2, 0, 215) := ⟨rfl, by decide, by decide, rfl, by decide, by decide⟩
set_option maxRecDepth 100000 in
theorem mi_pf33 : mi_PF (2, 20, 2, 1, 216) := ⟨rfl, by decide, by decide, rfl, by decide, by decide⟩
set_option maxRecDepth 100000 in
theorem mi_pf34 : mi_PF (1, 158, 2, 1, 217) := ⟨rfl, by decide, by decide, rfl, by decide, by decide⟩
set_option maxRecDepth 100000 in
theorem mi_pf35 : mi_PF (2, 23, 2, 2, 218) := ⟨rfl, by decide, by decide, rfl, by decide, by decide⟩
set_option maxRecDepth 100000 in
theorem mi_pf36 : mi_PF (1, 144, 2, 2, 219) := ⟨rfl, by decide, by decide, rfl, by decide, by decide⟩
set_option maxRecDepth 100000 in
theorem mi_pf37 : mi_PF (2, 26, 2, 3, 220) := ⟨rfl, by decide, by decide, rfl, by decide, by decide⟩
set_option maxRecDepth 100000 in
theorem mi_pf38 : mi_PF (11, 214, 2, 3, 221) := ⟨rfl, by decide, by decide, rfl, by decide, by decide⟩
set_option maxRecDepth 100000 in
theorem mi_pf39 : mi_PF (2, 29, 2, 4, 222) := ⟨rfl, by decide, by decide, rfl, by decide, by decide⟩
set_option maxRecDepth 100000 in
theorem mi_pf40 : mi_PF (1, 147, 2, 4, 223) := ⟨rfl, by decide, by decide, rfl, by decide, by decide⟩
set_option maxRecDepth 100000 in
theorem mi_pf41 : mi_PF (2, 32, 2, 5, 224) := ⟨rfl, by decide, by decide, rfl, by decide, by decide⟩
set_option maxRecDepth 100000 in
theorem mi_pf42 : mi_PF (2, 35, 2, 6, 225) := ⟨rfl, by decide, by decide, rfl, by decide, by decide⟩
set_option maxRecDepth 100000 in
theorem mi_pf43 : mi_PF (2, 38, 2, 7, 226) := ⟨rfl, by decide, by decide, rfl, by decide, by decide⟩
set_option maxRecDepth 100000 in
theorem mi_pf44 : mi_PF (2, 44, 2, 8, 227) := ⟨rfl, by decide, by decide, rfl, by decide, by decide⟩
set_option maxRecDepth 100000 in
theorem mi_pf45 : mi_PF (2, 48, 2, 9, 228) := ⟨rfl, by decide, by decide, rfl, by decide, by decide⟩
set_option maxRecDepth 100000 in
theorem mi_pf46 : mi_PF (1, 113, 2, 9, 229) := ⟨rfl, by decide, by decide, rfl, by decide, by decide⟩
set_option maxRecDepth 100000 in
theorem mi_pf47 : mi_PF (11, 272, 2, 9, 230) := ⟨rfl, by decide, by decide, rfl, by decide, by decide⟩
set_option maxRecDepth 100000 in
theorem mi_pf48 : mi_PF (2, 52, 2, 10, 231) := ⟨rfl, by decide, by decide, rfl, by decide, by decide⟩
set_option maxRecDepth 100000 in
theorem mi_pf49 : mi_PF (1, 12, 1, 0, 257) := ⟨rfl, by decide, by decide, rfl, by decide, by decide⟩
set_option maxRecDepth 100000 in
theorem mi_pf50 : mi_PF (11, 53, 1, 0, 258) := ⟨rfl, by decide, by decide, rfl, by decide, by decide⟩
set_option maxRecDepth 100000 in
theorem mi_pf51 : mi_PF (8, 105, 1, 0, 259) := ⟨rfl, by decide, by decide, rfl, by decide, by decide⟩
set_option maxRecDepth 100000 in
theorem mi_pf52 : mi_PF (1, 21, 1, 1, 260) := ⟨rfl, by decide, by decide, rfl, by decide, by decide⟩
set_option maxRecDepth 100000 in
theorem mi_pf53 : mi_PF (11, 101, 1, 1, 261) := ⟨rfl, by decide, by decide, rfl, by decide, by decide⟩
set_option maxRecDepth 100000 in
theorem mi_pf54 : mi_PF (8, 126, 1, 1, 262) := ⟨rfl, by decide, by decide, rfl, by decide, by decide⟩
set_option maxRecDepth 100000 in
theorem mi_pf55 : mi_PF (1, 28, 1, 2, 263) := ⟨rfl, by decide, by decide, rfl, by decide, by decide⟩
set_option maxRecDepth 100000 in
theorem mi_pf56 : mi_PF (11, 206, 1, 2, 264) := ⟨rfl, by decide, by decide, rfl, by decide, by decide⟩
set_option maxRecDepth 100000 in
theorem mi_pf57 : mi_PF (1, 32, 1, 3, 265) := ⟨rfl, by decide, by decide, rfl, by decide, by decide⟩
set_option maxRecDepth 100000 in
theorem mi_pf58 : mi_PF (11, 273, 1, 3, 266) := ⟨rfl, by decide, by decide, rfl, by decide, by decide⟩
set_option maxRecDepth 100000 in
theorem mi_pf59 : mi_PF (1, 41, 1, 4, 267) := ⟨rfl, by decide, by decide, rfl, by decide, by decide⟩
set_option maxRecDepth 100000 in
theorem mi_pf60 : mi_PF (4, 14, 4, 0, 287) := ⟨rfl, by decide, by decide, rfl, by decide, by decide⟩
set_option maxRecDepth 100000 in
theorem mi_pf61 : mi_PF (8, 58, 4, 0, 288) := ⟨rfl, by decide, by decide, rfl, by decide, by decide⟩
set_option maxRecDepth 100000 in
theorem mi_pf62 : mi_PF (11, 175, 4, 0, 289) := ⟨rfl, by decide, by decide, rfl, by decide, by decide⟩
set_option maxRecDepth 100000 in
theorem mi_pf63 : mi_PF (4, 20, 4, 1, 290) := ⟨rfl, by decide, by decide, rfl, by decide, by decide⟩
set_option maxRecDepth 100000 in
theorem mi_pf64 : mi_PF (4, 27, 4, 2, 291) := ⟨rfl, by decide, by decide, rfl, by decide, by decide⟩
set_option maxRecDepth 100000 in
theorem mi_pf65 : mi_PF (4, 23, 4, 3, 292) := ⟨rfl, by decide, by decide, rfl, by decide, by decide⟩
set_option maxRecDepth 100000 in
theorem mi_pf66 : mi_PF (4, 36, 4, 4, 293) := ⟨rfl, by decide, by decide, rfl, by decide, by decide⟩
set_option maxRecDepth 100000 in
theorem mi_pf67 : mi_PF (11, 168, 4, 4, 294) := ⟨rfl, by decide, by decide, rfl, by decide, by decide⟩
set_option maxRecDepth 100000 in
theorem mi_pf68 : mi_PF (4, 54, 4, 5, 295) := ⟨rfl, by decide, by decide, rfl, by decide, by decide⟩
set_option maxRecDepth 100000 in
theorem mi_pf69 : mi_PF (11, 261, 4, 5, 296) := ⟨rfl, by decide, by decide, rfl, by decide, by decide⟩
set_option maxRecDepth 100000 in
theorem mi_pf70 : mi_PF (4, 49, 4, 6, 297) := ⟨rfl, by decide, by decide, rfl, by decide, by decide⟩
set_option maxRecDepth 100000 in
theorem mi_pf71 : mi_PF (11, 172, 4, 6, 298) := ⟨rfl, by decide, by decide, rfl, by decide, by decide⟩
set_option maxRecDepth 100000 in
theorem mi_pf72 : mi_PF (5, 12, 5, 0, 330) := ⟨rfl, by decide, by decide, rfl, by decide, by decide⟩
set_option maxRecDepth 100000 in
theorem mi_pf73 : mi_PF (2, 62, 5, 0, 331) := ⟨rfl, by decide, by decide, rfl, by decide, by decide⟩
set_option maxRecDepth 100000 in
theorem mi_pf74 : mi_PF (1, 114, 5, 0, 332) := ⟨rfl, by decide, by decide, rfl, by decide, by decide⟩
set_option maxRecDepth 100000 in
theorem mi_pf75 : mi_PF (11, 280, 5, 0, 333) := ⟨rfl, by decide, by decide, rfl, by decide, by decide⟩
set_option maxRecDepth 100000 in
theorem mi_pf76 : mi_PF (5, 21, 5, 1, 334) := ⟨rfl, by decide, by decide, rfl, by decide, by decide⟩
set_option maxRecDepth 100000 in
theorem mi_pf77 : mi_PF (2, 69, 5, 1, 335) := ⟨rfl, by decide, by decide, rfl, by decide, by decide⟩
set_option maxRecDepth 100000 in
theorem mi_pf78 : mi_PF (1, 117, 5, 1, 336) := ⟨rfl, by decide, by decide, rfl, by decide, by decide⟩
set_option maxRecDepth 100000 in
theorem mi_pf79 : mi_PF (11, 282, 5, 1, 337) := ⟨rfl, by decide, by decide, rfl, by decide, by decide⟩
set_option maxRecDepth 100000 in
theorem mi_pf80 : mi_PF (5, 25, 5, 2, 338) := ⟨rfl, by decide, by decide, rfl, by decide, by decide⟩
set_option maxRecDepth 100000 in
theorem mi_pf81 : mi_PF (2, 59, 5, 2, 339) := ⟨rfl, by decide, by decide, rfl, by decide, by decide⟩
set_option maxRecDepth 100000 in
theorem mi_pf82 : mi_PF (11, 119, 5, 2, 340) := ⟨rfl, by decide, by decide, rfl, by decide, by decide⟩
set_option maxRecDepth 100000 in
theorem mi_pf83 : mi_PF (1, 89, 5, 2, 341) := ⟨rfl, by decide, by decide, rfl, by decide, by decide⟩
set_option maxRecDepth 100000 in
theorem mi_pf84 : mi_PF (8, 20, 8, 0, 349) := ⟨rfl, by decide, by decide, rfl, by decide, by decide⟩
set_option maxRecDepth 100000 in
theorem mi_pf85 : mi_PF (8, 24, 8, 1, 350) := ⟨rfl, by decide, by decide, rfl, by decide, by decide⟩
set_option maxRecDepth 100000 in
theorem mi_pf86 : mi_PF (8, 14, 8, 2, 351) := ⟨rfl, by decide, by decide, rfl, by decide, by decide⟩
set_option maxRecDepth 100000 in
theorem mi_pf87 : mi_PF (8, 47, 8, 3, 352) := ⟨rfl, by decide, by decide, rfl, by decide, by decide⟩
set_option maxRecDepth 100000 in
theorem mi_pf88 : mi_PF (8, 51, 8, 4, 353) := ⟨rfl, by decide, by decide, rfl, by decide, by decide⟩
set_option maxRecDepth 100000 in
theorem mi_pf89 : mi_PF (8, 54, 8, 5, 354) := ⟨rfl, by decide, by decide, rfl, by decide, by decide⟩
set_option maxRecDepth 100000 in
theorem mi_pf90 : mi_PF (9, 14, 9, 0, 380) := ⟨rfl, by decide, by decide, rfl, by decide, by decide⟩
set_option maxRecDepth 100000 in
theorem mi_pf91 : mi_PF (11, 253, 9, 0, 381) := ⟨rfl, by decide, by decide, rfl, by decide, by decide⟩
set_option maxRecDepth 100000 in
theorem mi_pf92 : mi_PF (9, 23, 9, 1, 382) := ⟨rfl, by decide, by decide, rfl, by decide, by decide⟩
set_option maxRecDepth 100000 in
theorem mi_pf93 : mi_PF (9, 27, 9, 2, 383) := ⟨rfl, by decide, by decide, rfl, by decide, by decide⟩
set_option maxRecDepth 100000 in
theorem mi_pf94 : mi_PF (9, 30, 9, 3, 384) := ⟨rfl, by decide, by decide, rfl, by decide, by decide⟩
set_option maxRecDepth 100000 in
theorem mi_pf95 : mi_PF (10, 14, 10, 0, 402) := ⟨rfl, by decide, by decide, rfl, by decide, by decide⟩
set_option maxRecDepth 100000 in
theorem mi_pf96 : mi_PF (11, 236, 10, 0, 403) := ⟨rfl, by decide, by decide, rfl, by decide, by decide⟩
set_option maxRecDepth 100000 in
theorem mi_pf97 : mi_PF (10, 23, 10, 1, 404) := ⟨rfl, by decide, by decide, rfl, by decide, by decide⟩
set_option maxRecDepth 100000 in
theorem mi_pf98 : mi_PF (10, 20, 10, 2, 405) := ⟨rfl, by decide, by decide, rfl, by decide, by decide⟩
set_option maxRecDepth 100000 in
theorem mi_pf99 : mi_PF (10, 27, 10, 3, 406) := ⟨rfl, by decide, by decide, rfl, by decide, by decide⟩
set_option maxRecDepth 100000 in
theorem mi_pf100 : mi_PF (11, 235, 10, 3, 407) := ⟨rfl, by decide, by decide, rfl, by decide, by decide⟩
set_option maxRecDepth 100000 in
theorem mi_pf101 : mi_PF (11, 10, 11, 0, 417) := ⟨rfl, by decide, by decide, rfl, by decide, by decide⟩
set_option maxRecDepth 100000 in
theorem mi_pf102 : mi_PF (11, 19, 11, 1, 418) := ⟨rfl, by decide, by decide, rfl, by decide, by decide⟩
set_option maxRecDepth 100000 in
theorem mi_pf103 : mi_PF (11, 28, 11, 2, 419) := ⟨rfl, by decide, by decide, rfl, by decide, by decide⟩
set_option maxRecDepth 100000 in
theorem mi_pf104 : mi_PF (11, 37, 11, 3, 420) := ⟨rfl, by decide, by decide, rfl, by decide, by decide⟩
set_option maxRecDepth 100000 in
theorem mi_pf105 : mi_PF (11, 41, 11, 4, 421) := ⟨rfl, by decide, by decide, rfl, by decide, by decide⟩
set_option maxRecDepth 100000 in
theorem mi_pf106 : mi_PF (11, 47, 11, 5, 422) := ⟨rfl, by decide, by decide, rfl, by decide, by decide⟩
set_option maxRecDepth 100000 in
theorem mi_pf107 : mi_PF (11, 60, 11, 6, 423) := ⟨rfl, by decide, by decide, rfl, by decide, by decide⟩
set_option maxRecDepth 100000 in
theorem mi_pf108 : mi_PF (11, 64, 11, 7, 424) := ⟨rfl, by decide, by decide, rfl, by decide, by decide⟩
set_option maxRecDepth 100000 in
theorem mi_pf109 : mi_PF (12, 7, 12, 0, 1112) := ⟨rfl, by decide, by decide, rfl, by decide, by decide⟩
set_option maxRecDepth 100000 in
theorem mi_pf110 : mi_PF (12, 129, 12, 1, 1113) := ⟨rfl, by decide, by decide, rfl, by decide, by decide⟩
set_option maxRecDepth 100000 in
theorem mi_pf111 : mi_PF (12, 113, 12, 2, 1114) := ⟨rfl, by decide, by decide, rfl, by decide, by decide⟩
set_option maxRecDepth 100000 in
theorem mi_pf112 : mi_PF (12, 13, 12, 3, 1115) := ⟨rfl, by decide, by decide, rfl, by decide, by decide⟩
set_option maxRecDepth 100000 in
theorem mi_pf113 : mi_PF (12, 17, 12, 4, 1116) := ⟨rfl, by decide, by decide, rfl, by decide, by decide⟩
set_option maxRecDepth 100000 in
theorem mi_pf114 : mi_PF (12, 20, 12, 5, 1117) := ⟨rfl, by decide, by decide, rfl, by decide, by decide⟩
set_option maxRecDepth 100000 in
theorem mi_pf115 : mi_PF (12, 23, 12, 6, 1118) := ⟨rfl, by decide, by decide, rfl, by decide, by decide⟩
set_option maxRecDepth 100000 in
theorem mi_pf116 : mi_PF (12, 27, 12, 7, 1119) := ⟨rfl, by decide, by decide, rfl, by decide, by decide⟩
set_option maxRecDepth 100000 in
theorem mi_pf117 : mi_PF (12, 30, 12, 8, 1120) := ⟨rfl, by decide, by decide, rfl, by decide, by decide⟩
set_option maxRecDepth 100000 in
theorem mi_pf118 : mi_PF (12, 33, 12, 9, 1121) := ⟨rfl, by decide, by decide, rfl, by decide, by decide⟩
set_option maxRecDepth 100000 in
theorem mi_pf119 : mi_PF (12, 37, 12, 10, 1122) := ⟨rfl, by decide, by decide, rfl, by decide, by decide⟩
set_option maxRecDepth 100000 in
theorem mi_pf120 : mi_PF (12, 173, 12, 11, 1123) := ⟨rfl, by decide, by decide, rfl, by decide, by decide⟩
set_option maxRecDepth 100000 in
theorem mi_pf121 : mi_PF (12, 197, 12, 12, 1124) := ⟨rfl, by decide, by decide, rfl, by decide, by decide⟩
set_option maxRecDepth 100000 in
theorem mi_pf122 : mi_PF (12, 41, 12, 13, 1125) := ⟨rfl, by decide, by decide, rfl, by decide, by decide⟩
set_option maxRecDepth 100000 in
theorem mi_pf123 : mi_PF (12, 44, 12, 14, 1126) := ⟨rfl, by decide, by decide, rfl, by decide, by decide⟩
set_option maxRecDepth 100000 in
theorem mi_pf124 : mi_PF (12, 203, 12, 15, 1127) := ⟨rfl, by decide, by decide, rfl, by decide, by decide⟩
set_option maxRecDepth 100000 in
theorem mi_pf125 : mi_PF (12, 47, 12, 16, 1128) := ⟨rfl, by decide, by decide, rfl, by decide, by decide⟩
set_option maxRecDepth 100000 in
theorem mi_pf126 : mi_PF (12, 50, 12, 17, 1129) := ⟨rfl, by decide, by decide, rfl, by decide, by decide⟩
set_option maxRecDepth 100000 in
theorem mi_pf127 : mi_PF (12, 53, 12, 18, 1130) := ⟨rfl, by decide, by decide, rfl, by decide, by decide⟩
set_option maxRecDepth 100000 in
theorem mi_pf128 : mi_PF (12, 56, 12, 19, 1131) := ⟨rfl, by decide, by decide, rfl, by decide, by decide⟩
set_option maxRecDepth 100000 in
theorem mi_pf129 : mi_PF (12, 59, 12, 20, 1132) := ⟨rfl, by decide, by decide, rfl, by decide, by decide⟩
set_option maxRecDepth 100000 in
theorem mi_pf130 : mi_PF (12, 62, 12, 21, 1133) := ⟨rfl, by decide, by decide, rfl, by decide, by decide⟩
set_option maxRecDepth 100000 in
theorem mi_pf131 : mi_PF (12, 65, 12, 22, 1134) := ⟨rfl, by decide, by decide, rfl, by decide, by decide⟩
set_option maxRecDepth 100000 in
theorem mi_pf132 : mi_PF (12, 68, 12, 23, 1135) := ⟨rfl, by decide, by decide, rfl, by decide, by decide⟩
set_option maxRecDepth 100000 in
theorem mi_pf133 : mi_PF (12, 184, 12, 24, 1136) := ⟨rfl, by decide, by decide, rfl, by decide, by decide⟩
set_option maxRecDepth 100000 in
theorem mi_pf134 : mi_PF (12, 71, 12, 25, 1137) := ⟨rfl, by decide, by decide, rfl, by decide, by decide⟩
set_option maxRecDepth 100000 in
theorem mi_pf135 : mi_PF (12, 74, 12, 26, 1138) := ⟨rfl, by decide, by decide, rfl, by decide, by decide⟩
set_option maxRecDepth 100000 in
theorem mi_pf136 : mi_PF (12, 187, 12, 27, 1139) := ⟨rfl, by decide, by decide, rfl, by decide, by decide⟩
set_option maxRecDepth 100000 in
theorem mi_pf137 : mi_PF (12, 77, 12, 28, 1140) := ⟨rfl, by decide, by decide, rfl, by decide, by decide⟩
set_option maxRecDepth 100000 in
theorem mi_pf138 : mi_PF (12, 80, 12, 29, 1141) := ⟨rfl, by decide, by decide, rfl, by decide, by decide⟩
set_option maxRecDepth 100000 in
theorem mi_pf139 : mi_PF (12, 132, 12, 30, 1142) := ⟨rfl, by decide, by decide, rfl, by decide, by decide⟩
set_option maxRecDepth 100000 in
theorem mi_pf140 : mi_PF (12, 248, 12, 31, 1143) := ⟨rfl, by decide, by decide, rfl, by decide, by decide⟩
set_option maxRecDepth 100000 in
theorem mi_pf141 : mi_PF (12, 137, 12, 32, 1144) := ⟨rfl, by decide, by decide, rfl, by decide, by decide⟩
set_option maxRecDepth 100000 in
theorem mi_pf142 : mi_PF (12, 83, 12, 33, 1145) := ⟨rfl, by decide, by decide, rfl, by decide, by decide⟩
set_option maxRecDepth 100000 in
theorem mi_pf143 : mi_PF (12, 120, 12, 34, 1146) := ⟨rfl, by decide, by decide, rfl, by decide, by decide⟩
set_option maxRecDepth 100000 in
theorem mi_pf144 : mi_PF (12, 86, 12, 35, 1147) := ⟨rfl, by decide, by decide, rfl, by decide, by decide⟩
set_option maxRecDepth 100000 in
theorem mi_pf145 : mi_PF (12, 253, 12, 36, 1148) := ⟨rfl, by decide, by decide, rfl, by decide, by decide⟩
set_option maxRecDepth 100000 in
theorem mi_pf146 : mi_PF (12, 89, 12, 37, 1149) := ⟨rfl, by decide, by decide, rfl, by decide, by decide⟩
set_option maxRecDepth 100000 in
theorem mi_pf147 : mi_PF (12, 92, 12, 38, 1150) := ⟨rfl, by decide, by decide, rfl, by decide, by decide⟩
set_option maxRecDepth 100000 in
theorem mi_pf148 : mi_PF (12, 95, 12, 39, 1151) := ⟨rfl, by decide, by decide, rfl, by decide, by decide⟩
set_option maxRecDepth 100000 in
theorem mi_pf149 : mi_PF (12, 98, 12, 40, 1152) := ⟨rfl, by decide, by decide, rfl, by decide, by decide⟩
set_option maxRecDepth 100000 in
theorem mi_pf150 : mi_PF (12, 234, 12, 41, 1153) := ⟨rfl, by decide, by decide, rfl, by decide, by decide⟩
set_option maxRecDepth 100000 in
theorem mi_pf151 : mi_PF (12, 101, 12, 42, 1154) := ⟨rfl, by decide, by decide, rfl, by decide, by decide⟩
set_option maxRecDepth 100000 in
theorem mi_pf152 : mi_PF (12, 104, 12, 43, 1155) := ⟨rfl, by decide, by decide, rfl, by decide, by decide⟩
set_option maxRecDepth 100000 in
theorem mi_pf153 : mi_PF (12, 107, 12, 44, 1156) := ⟨rfl, by decide, by decide, rfl, by decide, by decide⟩
set_option maxRecDepth 100000 in
theorem mi_pf154 : mi_PF (12, 110, 12, 45, 1157) := ⟨rfl, by decide, by decide, rfl, by decide, by decide⟩
set_option maxRecDepth 100000 in
theorem mi_pf155 : mi_PF (12, 259, 12, 46, 1158) := ⟨rfl, by decide, by decide, rfl, by decide, by decide⟩
set_option maxRecDepth 100000 in
theorem mi_pf156 : mi_PF (12, 262, 12, 47, 1159) := ⟨rfl, by decide, by decide, rfl, by decide, by decide⟩
set_option maxRecDepth 100000 in
theorem mi_pf157 : mi_PF (12, 256, 12, 48, 1160) := ⟨rfl, by decide, by decide, rfl, by decide, by decide⟩
set_option maxRecDepth 100000 in
theorem mi_tF_ok : ∀ e ∈ mi_tF, mi_PF e := List.forall_mem_cons.mpr ⟨mi_pf0, List.forall_mem_cons.mpr ⟨mi_pf1, List.forall_mem_cons.mpr ⟨mi_pf2, List.forall_mem_cons.mpr ⟨mi_pf3, List.forall_mem_cons.mpr ⟨mi_pf4, List.forall_mem_cons.mpr ⟨mi_pf5, List.forall_mem_cons.mpr ⟨mi_pf6, List.forall_mem_cons.mpr ⟨mi_pf7, List.forall_mem_cons.mpr ⟨mi_pf8, List.forall_mem_cons.mpr ⟨mi_pf9, List.forall_mem_cons.mpr ⟨mi_pf10, List.forall_mem_cons.mpr ⟨mi_pf11, List.forall_mem_cons.mpr ⟨mi_pf12, List.forall_mem_cons.mpr ⟨mi_pf13, List.forall_mem_cons.mpr ⟨mi_pf14, List.forall_mem_cons.mpr ⟨mi_pf15, List.forall_mem_cons.mpr ⟨mi_pf16, List.forall_mem_cons.mpr ⟨mi_pf17, List.forall_mem_cons.mpr ⟨mi_pf18, List.forall_mem_cons.mpr ⟨mi_pf19, List.forall_mem_cons.mpr ⟨mi_pf20, List.forall_mem_cons.mpr ⟨mi_pf21, List.forall_mem_cons.mpr ⟨mi_pf22, List.forall_mem_cons.mpr ⟨mi_pf23, List.forall_mem_cons.mpr ⟨mi_pf24, List.forall_mem_cons.mpr ⟨mi_pf25, List.forall_mem_cons.mpr ⟨mi_pf26, List.forall_mem_cons.mpr ⟨mi_pf27, List.forall_mem_cons.mpr ⟨mi_pf28, List.forall_mem_cons.mpr ⟨mi_pf29, List.forall_mem_cons.mpr ⟨mi_pf30, List.forall_mem_cons.mpr ⟨mi_pf31, List.forall_mem_cons.mpr ⟨mi_pf32, List.forall_mem_cons.mpr ⟨mi_pf33, List.forall_mem_cons.mpr ⟨mi_pf34, List.forall_mem_cons.mpr ⟨mi_pf35, List.forall_mem_cons.mpr ⟨mi_pf36, List.forall_mem_cons.mpr ⟨mi_pf37, List.forall_mem_cons.mpr ⟨mi_pf38, List.forall_mem_cons.mpr ⟨mi_pf39, List.forall_mem_cons.mpr ⟨mi_pf40, List.forall_mem_cons.mpr ⟨mi_pf41, List.forall_mem_cons.mpr ⟨mi_pf42, List.forall_mem_cons.mpr ⟨mi_pf43, List.forall_mem_cons.mpr ⟨mi_pf44, List.forall_mem_cons.mpr ⟨mi_pf45, List.forall_mem_cons.mpr ⟨mi_pf46, List.forall_mem_cons.mpr ⟨mi_pf47, List.forall_mem_cons.mpr ⟨mi_pf48, List.forall_mem_cons.mpr ⟨mi_pf49, List.forall_mem_cons.mpr ⟨mi_pf50, List.forall_mem_cons.mpr ⟨mi_pf51, List.forall_mem_cons.mpr ⟨mi_pf52, List.forall_mem_cons.mpr ⟨mi_pf53, List.forall_mem_cons.mpr ⟨mi_pf54, List.forall_mem_cons.mpr ⟨mi_pf55, List.forall_mem_cons.mpr ⟨mi_pf56, List.forall_mem_cons.mpr ⟨mi_pf57, List.forall_mem_cons.mpr ⟨mi_pf58, List.forall_mem_cons.mpr ⟨mi_pf59, List.forall_mem_cons.mpr ⟨mi_pf60, List.forall_mem_cons.mpr ⟨mi_pf61, List.forall_mem_cons.mpr ⟨mi_pf62, List.forall_mem_cons.mpr ⟨mi_pf63, List.forall_mem_cons.mpr ⟨mi_pf64, List.forall_mem_cons.mpr ⟨mi_pf65, List.forall_mem_cons.mpr ⟨mi_pf66, List.forall_mem_cons.mpr ⟨mi_pf67, List.forall_mem_cons.mpr ⟨mi_pf68, List.forall_mem_cons.mpr ⟨mi_pf69, List.forall_mem_cons.mpr ⟨mi_pf70, List.forall_mem_cons.mpr ⟨mi_pf71, List.forall_mem_cons.mpr ⟨mi_pf72, List.forall_mem_cons.mpr ⟨mi_pf73, List.forall_mem_cons.mpr ⟨mi_pf74, List.forall_mem_cons.mpr ⟨mi_pf75, List.forall_mem_cons.mpr ⟨mi_pf76, List.forall_mem_cons.mpr ⟨mi_pf77, List.forall_mem_cons.mpr ⟨mi_pf78, List.forall_mem_cons.mpr ⟨mi_pf79, List.forall_mem_cons.mpr ⟨mi_pf80, List.forall_mem_cons.mpr ⟨mi_pf81, List.forall_mem_cons.mpr ⟨mi_pf82, List.forall_mem_cons.mpr ⟨mi_pf83, List.forall_mem_cons.mpr ⟨mi_pf84, List.forall_mem_cons.mpr ⟨mi_pf85, List.forall_mem_cons.mpr ⟨mi_pf86, List.forall_mem_cons.mpr ⟨mi_pf87, List.forall_mem_cons.mpr ⟨mi_pf88, List.forall_mem_cons.mpr ⟨mi_pf89, List.forall_mem_cons.mpr ⟨mi_pf90, List.forall_mem_cons.mpr ⟨mi_pf91, List.forall_mem_cons.mpr ⟨mi_pf92, List.forall_mem_cons.mpr ⟨mi_pf93, List.forall_mem_cons.mpr ⟨mi_pf94, List.forall_mem_cons.mpr ⟨mi_pf95, List.forall_mem_cons.mpr ⟨mi_pf96, List.forall_mem_cons.mpr ⟨mi_pf97, List.forall_mem_cons.mpr ⟨mi_pf98, List.forall_mem_cons.mpr ⟨mi_pf99, List.forall_mem_cons.mpr ⟨mi_pf100, List.forall_mem_cons.mpr ⟨mi_pf101, List.forall_mem_cons.mpr ⟨mi_pf102, List.forall_mem_cons.mpr ⟨mi_pf103, List.forall_mem_cons.mpr ⟨mi_pf104, List.forall_mem_cons.mpr ⟨mi_pf105, List.forall_mem_cons.mpr ⟨mi_pf106, List.forall_mem_cons.mpr ⟨mi_pf107, List.forall_mem_cons.mpr ⟨mi_pf108, List.forall_mem_cons.mpr ⟨mi_pf109, List.forall_mem_cons.mpr ⟨mi_pf110, List.forall_mem_cons.mpr ⟨mi_pf111, List.forall_mem_cons.mpr ⟨mi_pf112, List.forall_mem_cons.mpr ⟨mi_pf113, List.forall_mem_cons.mpr ⟨mi_pf114, List.forall_mem_cons.mpr ⟨mi_pf115, List.forall_mem_cons.mpr ⟨mi_pf116, List.forall_mem_cons.mpr ⟨mi_pf117, List.forall_mem_cons.mpr ⟨mi_pf118, List.forall_mem_cons.mpr ⟨mi_pf119, List.forall_mem_cons.mpr ⟨mi_pf120, List.forall_mem_cons.mpr ⟨mi_pf121, List.forall_mem_cons.mpr ⟨mi_pf122, List.forall_mem_cons.mpr ⟨mi_pf123, List.forall_mem_cons.mpr ⟨mi_pf124, List.forall_mem_cons.mpr ⟨mi_pf125, List.forall_mem_cons.mpr ⟨mi_pf126, List.forall_mem_cons.mpr ⟨mi_pf127, List.forall_mem_cons.mpr ⟨mi_pf128, List.forall_mem_cons.mpr ⟨mi_pf129, List.forall_mem_cons.mpr ⟨mi_pf130, List.forall_mem_cons.mpr ⟨mi_pf131, List.forall_mem_cons.mpr ⟨mi_pf132, List.forall_mem_cons.mpr ⟨mi_pf133, List.forall_mem_cons.mpr ⟨mi_pf134, List.forall_mem_cons.mpr ⟨mi_pf135, List.forall_mem_cons.mpr ⟨mi_pf136, List.forall_mem_cons.mpr ⟨mi_pf137, List.forall_mem_cons.mpr ⟨mi_pf138, List.forall_mem_cons.mpr ⟨mi_pf139, List.forall_mem_cons.mpr ⟨mi_pf140, List.forall_mem_cons.mpr ⟨mi_pf141, List.forall_mem_cons.mpr ⟨mi_pf142, List.forall_mem_cons.mpr ⟨mi_pf143, List.forall_mem_cons.mpr ⟨mi_pf144, List.forall_mem_cons.mpr ⟨mi_pf145, List.forall_mem_cons.mpr ⟨mi_pf146, List.forall_mem_cons.mpr ⟨mi_pf147, List.forall_mem_cons.mpr ⟨mi_pf148, List.forall_mem_cons.mpr ⟨mi_pf149, List.forall_mem_cons.mpr ⟨mi_pf150, List.forall_mem_cons.mpr ⟨mi_pf151, List.forall_mem_cons.mpr ⟨mi_pf152, List.forall_mem_cons.mpr ⟨mi_pf153, List.forall_mem_cons.mpr ⟨mi_pf154, List.forall_mem_cons.mpr ⟨mi_pf155, List.forall_mem_cons.mpr ⟨mi_pf156, List.forall_mem_cons.mpr ⟨mi_pf157, fun _ h => absurd h List.not_mem_nil⟩⟩⟩⟩⟩⟩⟩⟩⟩⟩⟩⟩⟩⟩⟩⟩⟩⟩⟩⟩⟩⟩⟩⟩⟩⟩⟩⟩⟩⟩⟩⟩⟩⟩⟩⟩⟩⟩⟩⟩⟩⟩⟩⟩⟩⟩⟩⟩⟩⟩⟩⟩⟩⟩⟩⟩⟩⟩⟩⟩⟩⟩⟩⟩⟩⟩⟩⟩⟩⟩⟩⟩⟩⟩⟩⟩⟩⟩⟩⟩⟩⟩⟩⟩⟩⟩⟩⟩⟩⟩⟩⟩⟩⟩⟩⟩⟩⟩⟩⟩⟩⟩⟩⟩⟩⟩⟩⟩⟩⟩⟩⟩⟩⟩⟩⟩⟩⟩⟩⟩⟩⟩⟩⟩⟩⟩⟩⟩⟩⟩⟩⟩⟩⟩⟩⟩⟩⟩⟩⟩⟩⟩⟩⟩⟩⟩⟩⟩⟩⟩⟩⟩⟩⟩⟩⟩⟩⟩
def mi_PW : Nat × Nat × Nat × Nat × Nat × Nat → Prop := fun e => match e with
  | (o, i, k, p1, p2, p3) => lw_tbl[p1]? = some (Cond.classLink (mi_RX o) i (mi_RX k)) ∧ lw_tbl[p2]? = some (Cond.instantiable (mi_RX k) (mi_n k)) ∧ lw_tbl[p3]? = some (Cond.initialized (mi_RX k)) ∧ k < 13
set_option maxRecDepth 100000 in
theorem mi_pw0 : mi_PW (13, 7, 11, 87, 88, 71) := ⟨rfl, rfl, rfl, by decide⟩
set_option maxRecDepth 100000 in
theorem mi_pw1 : mi_PW (11, 7, 1, 95, 96, 72) := ⟨rfl, rfl, rfl, by decide⟩
set_option maxRecDepth 100000 in
theorem mi_pw2 : mi_PW (1, 9, 0, 101, 102, 73) := ⟨rfl, rfl, rfl, by decide⟩
set_option maxRecDepth 100000 in
theorem mi_pw3 : mi_PW (0, 9, 3, 107, 108, 74) := ⟨rfl, rfl, rfl, by decide⟩
set_option maxRecDepth 100000 in
theorem mi_pw4 : mi_PW (0, 35, 6, 121, 122, 75) := ⟨rfl, rfl, rfl, by decide⟩
set_option maxRecDepth 100000 in
theorem mi_pw5 : mi_PW (1, 18, 7, 180, 181, 76) := ⟨rfl, rfl, rfl, by decide⟩
set_option maxRecDepth 100000 in
theorem mi_pw6 : mi_PW (7, 9, 3, 186, 108, 74) := ⟨rfl, rfl, rfl, by decide⟩
set_option maxRecDepth 100000 in
theorem mi_pw7 : mi_PW (1, 25, 2, 205, 206, 77) := ⟨rfl, rfl, rfl, by decide⟩
set_option maxRecDepth 100000 in
theorem mi_pw8 : mi_PW (2, 9, 3, 211, 108, 74) := ⟨rfl, rfl, rfl, by decide⟩
set_option maxRecDepth 100000 in
theorem mi_pw9 : mi_PW (2, 41, 6, 213, 122, 75) := ⟨rfl, rfl, rfl, by decide⟩
set_option maxRecDepth 100000 in
theorem mi_pw10 : mi_PW (1, 36, 6, 255, 122, 75) := ⟨rfl, rfl, rfl, by decide⟩
set_option maxRecDepth 100000 in
theorem mi_pw11 : mi_PW (11, 16, 4, 279, 280, 78) := ⟨rfl, rfl, rfl, by decide⟩
set_option maxRecDepth 100000 in
theorem mi_pw12 : mi_PW (4, 9, 3, 285, 108, 74) := ⟨rfl, rfl, rfl, by decide⟩
set_option maxRecDepth 100000 in
theorem mi_pw13 : mi_PW (11, 23, 8, 314, 315, 79) := ⟨rfl, rfl, rfl, by decide⟩
set_option maxRecDepth 100000 in
theorem mi_pw14 : mi_PW (8, 9, 5, 320, 321, 80) := ⟨rfl, rfl, rfl, by decide⟩
set_option maxRecDepth 100000 in
theorem mi_pw15 : mi_PW (5, 7, 3, 326, 108, 74) := ⟨rfl, rfl, rfl, by decide⟩
set_option maxRecDepth 100000 in
theorem mi_pw16 : mi_PW (5, 18, 6, 328, 122, 75) := ⟨rfl, rfl, rfl, by decide⟩
set_option maxRecDepth 100000 in
theorem mi_pw17 : mi_PW (11, 32, 5, 368, 321, 80) := ⟨rfl, rfl, rfl, by decide⟩
set_option maxRecDepth 100000 in
theorem mi_pw18 : mi_PW (11, 44, 9, 370, 371, 81) := ⟨rfl, rfl, rfl, by decide⟩
set_option maxRecDepth 100000 in
theorem mi_pw19 : mi_PW (9, 9, 6, 376, 122, 75) := ⟨rfl, rfl, rfl, by decide⟩
set_option maxRecDepth 100000 in
theorem mi_pw20 : mi_PW (9, 20, 3, 378, 108, 74) := ⟨rfl, rfl, rfl, by decide⟩
set_option maxRecDepth 100000 in
theorem mi_pw21 : mi_PW (11, 51, 10, 394, 395, 82) := ⟨rfl, rfl, rfl, by decide⟩
set_option maxRecDepth 100000 in
theorem mi_pw22 : mi_PW (10, 9, 3, 400, 108, 74) := ⟨rfl, rfl, rfl, by decide⟩
set_option maxRecDepth 100000 in
theorem mi_pw23 : mi_PW (13, 10, 12, 1106, 1107, 83) := ⟨rfl, rfl, rfl, by decide⟩
theorem mi_tW_ok : ∀ e ∈ mi_tW, mi_PW e := List.forall_mem_cons.mpr ⟨mi_pw0, List.forall_mem_cons.mpr ⟨mi_pw1, List.forall_mem_cons.mpr ⟨mi_pw2, List.forall_mem_cons.mpr ⟨mi_pw3, List.forall_mem_cons.mpr ⟨mi_pw4, List.forall_mem_cons.mpr ⟨mi_pw5, List.forall_mem_cons.mpr ⟨mi_pw6, List.forall_mem_cons.mpr ⟨mi_pw7, List.forall_mem_cons.mpr ⟨mi_pw8, List.forall_mem_cons.mpr ⟨mi_pw9, List.forall_mem_cons.mpr ⟨mi_pw10, List.forall_mem_cons.mpr ⟨mi_pw11, List.forall_mem_cons.mpr ⟨mi_pw12, List.forall_mem_cons.mpr ⟨mi_pw13, List.forall_mem_cons.mpr ⟨mi_pw14, List.forall_mem_cons.mpr ⟨mi_pw15, List.forall_mem_cons.mpr ⟨mi_pw16, List.forall_mem_cons.mpr ⟨mi_pw17, List.forall_mem_cons.mpr ⟨mi_pw18, List.forall_mem_cons.mpr ⟨mi_pw19, List.forall_mem_cons.mpr ⟨mi_pw20, List.forall_mem_cons.mpr ⟨mi_pw21, List.forall_mem_cons.mpr ⟨mi_pw22, List.forall_mem_cons.mpr ⟨mi_pw23, fun _ h => absurd h List.not_mem_nil⟩⟩⟩⟩⟩⟩⟩⟩⟩⟩⟩⟩⟩⟩⟩⟩⟩⟩⟩⟩⟩⟩⟩⟩
def mi_PKL : Nat × Nat × Int64 × Nat → Prop := fun e => lw_tbl[e.2.2.2]? = some (Cond.constantLong (mi_RX e.1) e.2.1 e.2.2.1)
set_option maxRecDepth 100000 in
theorem mi_pkl0 : mi_PKL (4, 30, 127, 474) := rfl
set_option maxRecDepth 100000 in
theorem mi_pkl1 : mi_PKL (11, 237, 1000000000000000, 604) := rfl
set_option maxRecDepth 100000 in
theorem mi_pkl2 : mi_PKL (1, 130, 10000000000000000, 672) := rfl
set_option maxRecDepth 100000 in
theorem mi_pkl3 : mi_PKL (11, 296, 1000, 796) := rfl
set_option maxRecDepth 100000 in
theorem mi_pkl4 : mi_PKL (9, 58, -1, 825) := rfl
set_option maxRecDepth 100000 in
theorem mi_pkl5 : mi_PKL (11, 192, -9223372036854775808, 976) := rfl
set_option maxRecDepth 100000 in
theorem mi_pkl6 : mi_PKL (2, 100, -9223372036854775808, 1022) := rfl
set_option maxRecDepth 100000 in
theorem mi_pkl7 : mi_PKL (10, 110, 10, 1068) := rfl
set_option maxRecDepth 100000 in
theorem mi_pkl8 : mi_PKL (12, 152, 9999, 1272) := rfl
set_option maxRecDepth 100000 in
theorem mi_pkl9 : mi_PKL (12, 154, 4, 1273) := rfl
set_option maxRecDepth 100000 in
theorem mi_pkl10 : mi_PKL (12, 123, -2, 1286) := rfl
set_option maxRecDepth 100000 in
theorem mi_pkl11 : mi_PKL (12, 125, 2, 1287) := rfl
set_option maxRecDepth 100000 in
theorem mi_pkl12 : mi_PKL (12, 127, 127, 1288) := rfl
set_option maxRecDepth 100000 in
theorem mi_pkl13 : mi_PKL (12, 180, -1000000000000000, 1326) := rfl
set_option maxRecDepth 100000 in
theorem mi_pkl14 : mi_PKL (12, 182, 1000000000000000, 1327) := rfl
set_option maxRecDepth 100000 in
theorem mi_pkl15 : mi_PKL (12, 190, -10000000000000000, 1360) := rfl
set_option maxRecDepth 100000 in
theorem mi_pkl16 : mi_PKL (12, 192, 10000000000000000, 1361) := rfl
set_option maxRecDepth 100000 in
theorem mi_pkl17 : mi_PKL (12, 239, 1000, 1394) := rfl
set_option maxRecDepth 100000 in
theorem mi_pkl18 : mi_PKL (12, 237, -1, 1399) := rfl
set_option maxRecDepth 100000 in
theorem mi_pkl19 : mi_PKL (12, 244, 3, 1404) := rfl
set_option maxRecDepth 100000 in
theorem mi_pkl20 : mi_PKL (12, 246, -9223372036854775808, 1405) := rfl
set_option maxRecDepth 100000 in
theorem mi_pkl21 : mi_PKL (12, 251, 255, 1414) := rfl
set_option maxRecDepth 100000 in
theorem mi_pkl22 : mi_PKL (12, 269, -2147483648, 1435) := rfl
set_option maxRecDepth 100000 in
theorem mi_pkl23 : mi_PKL (12, 271, 2147483647, 1436) := rfl
set_option maxRecDepth 100000 in
theorem mi_pkl24 : mi_PKL (12, 308, 8, 1453) := rfl
set_option maxRecDepth 100000 in
theorem mi_pkl25 : mi_PKL (12, 327, 10, 1513) := rfl
set_option maxRecDepth 100000 in
theorem mi_pkl26 : mi_PKL (12, 344, 5, 1534) := rfl
set_option maxRecDepth 100000 in
theorem mi_pkl27 : mi_PKL (12, 346, 7, 1535) := rfl
set_option maxRecDepth 100000 in
theorem mi_pkl28 : mi_PKL (12, 348, 9, 1536) := rfl
set_option maxRecDepth 100000 in
theorem mi_pkl29 : mi_PKL (13, 32, 4294967295, 1537) := rfl
theorem mi_tKL_ok : ∀ e ∈ mi_tKL, mi_PKL e := List.forall_mem_cons.mpr ⟨mi_pkl0, List.forall_mem_cons.mpr ⟨mi_pkl1, List.forall_mem_cons.mpr ⟨mi_pkl2, List.forall_mem_cons.mpr ⟨mi_pkl3, List.forall_mem_cons.mpr ⟨mi_pkl4, List.forall_mem_cons.mpr ⟨mi_pkl5, List.forall_mem_cons.mpr ⟨mi_pkl6, List.forall_mem_cons.mpr ⟨mi_pkl7, List.forall_mem_cons.mpr ⟨mi_pkl8, List.forall_mem_cons.mpr ⟨mi_pkl9, List.forall_mem_cons.mpr ⟨mi_pkl10, List.forall_mem_cons.mpr ⟨mi_pkl11, List.forall_mem_cons.mpr ⟨mi_pkl12, List.forall_mem_cons.mpr ⟨mi_pkl13, List.forall_mem_cons.mpr ⟨mi_pkl14, List.forall_mem_cons.mpr ⟨mi_pkl15, List.forall_mem_cons.mpr ⟨mi_pkl16, List.forall_mem_cons.mpr ⟨mi_pkl17, List.forall_mem_cons.mpr ⟨mi_pkl18, List.forall_mem_cons.mpr ⟨mi_pkl19, List.forall_mem_cons.mpr ⟨mi_pkl20, List.forall_mem_cons.mpr ⟨mi_pkl21, List.forall_mem_cons.mpr ⟨mi_pkl22, List.forall_mem_cons.mpr ⟨mi_pkl23, List.forall_mem_cons.mpr ⟨mi_pkl24, List.forall_mem_cons.mpr ⟨mi_pkl25, List.forall_mem_cons.mpr ⟨mi_pkl26, List.forall_mem_cons.mpr ⟨mi_pkl27, List.forall_mem_cons.mpr ⟨mi_pkl28, List.forall_mem_cons.mpr ⟨mi_pkl29, fun _ h => absurd h List.not_mem_nil⟩⟩⟩⟩⟩⟩⟩⟩⟩⟩⟩⟩⟩⟩⟩⟩⟩⟩⟩⟩⟩⟩⟩⟩⟩⟩⟩⟩⟩⟩
def mi_PKI : Nat × Nat × Int32 × Nat → Prop := fun e => lw_tbl[e.2.2.2]? = some (Cond.constant (mi_RX e.1) e.2.1 e.2.2.1)
set_option maxRecDepth 100000 in
theorem mi_pki0 : mi_PKI (4, 52, 65535, 512) := rfl
set_option maxRecDepth 100000 in
theorem mi_pki1 : mi_PKI (4, 53, 32768, 513) := rfl
set_option maxRecDepth 100000 in
theorem mi_pki2 : mi_PKI (12, 136, 65535, 1297) := rfl
set_option maxRecDepth 100000 in
theorem mi_pki3 : mi_PKI (12, 135, 32768, 1301) := rfl
theorem mi_tKI_ok : ∀ e ∈ mi_tKI, mi_PKI e := List.forall_mem_cons.mpr ⟨mi_pki0, List.forall_mem_cons.mpr ⟨mi_pki1, List.forall_mem_cons.mpr ⟨mi_pki2, List.forall_mem_cons.mpr ⟨mi_pki3, fun _ h => absurd h List.not_mem_nil⟩⟩⟩⟩
def mi_QN (k : Nat) : MethodName := ([yX3_init, yX3_at, yX3_put, yX6_init, yX6_at, yX6_put, yX6_addTo, yX6_clear, Lib.MathLoose.abs_long.x, Lib.Math.min.name, Lib.Math.max.name, Lib.objectInit] : List MethodName).getD k Lib.objectInit
def mi_PQ : Nat × Nat × Nat × Nat → Prop := fun e => lw_tbl[e.2.2.2]? = some (Cond.methodLink (mi_RX e.1) e.2.1 (mi_QN e.2.2.1)) ∧ e.2.2.1 < 12
set_option maxRecDepth 100000 in
theorem mi_pq0 : mi_PQ (11, 1, 11, 92) := ⟨rfl, by decide⟩
set_option maxRecDepth 100000 in
theorem mi_pq1 : mi_PQ (1, 3, 11, 100) := ⟨rfl, by decide⟩
set_option maxRecDepth 100000 in
theorem mi_pq2 : mi_PQ (0, 3, 11, 106) := ⟨rfl, by decide⟩
set_option maxRecDepth 100000 in
theorem mi_pq3 : mi_PQ (0, 11, 0, 109) := ⟨rfl, by decide⟩
set_option maxRecDepth 100000 in
theorem mi_pq4 : mi_PQ (3, 1, 11, 112) := ⟨rfl, by decide⟩
set_option maxRecDepth 100000 in
theorem mi_pq5 : mi_PQ (0, 37, 3, 123) := ⟨rfl, by decide⟩
set_option maxRecDepth 100000 in
theorem mi_pq6 : mi_PQ (6, 1, 11, 126) := ⟨rfl, by decide⟩
set_option maxRecDepth 100000 in
theorem mi_pq7 : mi_PQ (7, 3, 11, 185) := ⟨rfl, by decide⟩
set_option maxRecDepth 100000 in
theorem mi_pq8 : mi_PQ (7, 11, 0, 187) := ⟨rfl, by decide⟩
set_option maxRecDepth 100000 in
theorem mi_pq9 : mi_PQ (2, 3, 11, 210) := ⟨rfl, by decide⟩
set_option maxRecDepth 100000 in
theorem mi_pq10 : mi_PQ (2, 11, 0, 212) := ⟨rfl, by decide⟩
set_option maxRecDepth 100000 in
theorem mi_pq11 : mi_PQ (2, 43, 3, 214) := ⟨rfl, by decide⟩
set_option maxRecDepth 100000 in
theorem mi_pq12 : mi_PQ (1, 38, 3, 256) := ⟨rfl, by decide⟩
set_option maxRecDepth 100000 in
theorem mi_pq13 : mi_PQ (4, 3, 11, 284) := ⟨rfl, by decide⟩
set_option maxRecDepth 100000 in
theorem mi_pq14 : mi_PQ (4, 11, 0, 286) := ⟨rfl, by decide⟩
set_option maxRecDepth 100000 in
theorem mi_pq15 : mi_PQ (8, 3, 11, 319) := ⟨rfl, by decide⟩
set_option maxRecDepth 100000 in
theorem mi_pq16 : mi_PQ (5, 1, 11, 325) := ⟨rfl, by decide⟩
set_option maxRecDepth 100000 in
theorem mi_pq17 : mi_PQ (5, 9, 0, 327) := ⟨rfl, by decide⟩
set_option maxRecDepth 100000 in
theorem mi_pq18 : mi_PQ (5, 20, 3, 329) := ⟨rfl, by decide⟩
set_option maxRecDepth 100000 in
theorem mi_pq19 : mi_PQ (9, 3, 11, 375) := ⟨rfl, by decide⟩
set_option maxRecDepth 100000 in
theorem mi_pq20 : mi_PQ (9, 11, 3, 377) := ⟨rfl, by decide⟩
set_option maxRecDepth 100000 in
theorem mi_pq21 : mi_PQ (9, 22, 0, 379) := ⟨rfl, by decide⟩
set_option maxRecDepth 100000 in
theorem mi_pq22 : mi_PQ (10, 3, 11, 399) := ⟨rfl, by decide⟩
set_option maxRecDepth 100000 in
theorem mi_pq23 : mi_PQ (10, 11, 0, 401) := ⟨rfl, by decide⟩
set_option maxRecDepth 100000 in
theorem mi_pq24 : mi_PQ (0, 56, 1, 458) := ⟨rfl, by decide⟩
set_option maxRecDepth 100000 in
theorem mi_pq25 : mi_PQ (4, 32, 2, 475) := ⟨rfl, by decide⟩
set_option maxRecDepth 100000 in
theorem mi_pq26 : mi_PQ (3, 17, 9, 479) := ⟨rfl, by decide⟩
set_option maxRecDepth 100000 in
theorem mi_pq27 : mi_PQ (3, 23, 10, 482) := ⟨rfl, by decide⟩
set_option maxRecDepth 100000 in
theorem mi_pq28 : mi_PQ (4, 41, 1, 507) := ⟨rfl, by decide⟩
set_option maxRecDepth 100000 in
theorem mi_pq29 : mi_PQ (0, 60, 2, 518) := ⟨rfl, by decide⟩
set_option maxRecDepth 100000 in
theorem mi_pq30 : mi_PQ (0, 64, 5, 519) := ⟨rfl, by decide⟩
set_option maxRecDepth 100000 in
theorem mi_pq31 : mi_PQ (6, 17, 9, 523) := ⟨rfl, by decide⟩
set_option maxRecDepth 100000 in
theorem mi_pq32 : mi_PQ (6, 23, 10, 524) := ⟨rfl, by decide⟩
set_option maxRecDepth 100000 in
theorem mi_pq33 : mi_PQ (7, 34, 1, 574) := ⟨rfl, by decide⟩
set_option maxRecDepth 100000 in
theorem mi_pq34 : mi_PQ (7, 30, 2, 579) := ⟨rfl, by decide⟩
set_option maxRecDepth 100000 in
theorem mi_pq35 : mi_PQ (1, 79, 1, 588) := ⟨rfl, by decide⟩
set_option maxRecDepth 100000 in
theorem mi_pq36 : mi_PQ (5, 29, 2, 612) := ⟨rfl, by decide⟩
set_option maxRecDepth 100000 in
theorem mi_pq37 : mi_PQ (5, 33, 5, 613) := ⟨rfl, by decide⟩
set_option maxRecDepth 100000 in
theorem mi_pq38 : mi_PQ (5, 36, 4, 638) := ⟨rfl, by decide⟩
set_option maxRecDepth 100000 in
theorem mi_pq39 : mi_PQ (1, 116, 7, 658) := ⟨rfl, by decide⟩
set_option maxRecDepth 100000 in
theorem mi_pq40 : mi_PQ (1, 120, 4, 665) := ⟨rfl, by decide⟩
set_option maxRecDepth 100000 in
theorem mi_pq41 : mi_PQ (1, 123, 6, 666) := ⟨rfl, by decide⟩
set_option maxRecDepth 100000 in
theorem mi_pq42 : mi_PQ (6, 32, 4, 670) := ⟨rfl, by decide⟩
set_option maxRecDepth 100000 in
theorem mi_pq43 : mi_PQ (6, 36, 5, 671) := ⟨rfl, by decide⟩
set_option maxRecDepth 100000 in
theorem mi_pq44 : mi_PQ (11, 179, 1, 674) := ⟨rfl, by decide⟩
set_option maxRecDepth 100000 in
theorem mi_pq45 : mi_PQ (11, 256, 4, 675) := ⟨rfl, by decide⟩
set_option maxRecDepth 100000 in
theorem mi_pq46 : mi_PQ (0, 70, 6, 684) := ⟨rfl, by decide⟩
set_option maxRecDepth 100000 in
theorem mi_pq47 : mi_PQ (2, 55, 2, 689) := ⟨rfl, by decide⟩
set_option maxRecDepth 100000 in
theorem mi_pq48 : mi_PQ (2, 65, 1, 690) := ⟨rfl, by decide⟩
set_option maxRecDepth 100000 in
theorem mi_pq49 : mi_PQ (2, 72, 4, 691) := ⟨rfl, by decide⟩
set_option maxRecDepth 100000 in
theorem mi_pq50 : mi_PQ (2, 75, 5, 692) := ⟨rfl, by decide⟩
set_option maxRecDepth 100000 in
theorem mi_pq51 : mi_PQ (1, 164, 2, 725) := ⟨rfl, by decide⟩
set_option maxRecDepth 100000 in
theorem mi_pq52 : mi_PQ (2, 92, 7, 747) := ⟨rfl, by decide⟩
set_option maxRecDepth 100000 in
theorem mi_pq53 : mi_PQ (2, 93, 6, 748) := ⟨rfl, by decide⟩
set_option maxRecDepth 100000 in
theorem mi_pq54 : mi_PQ (9, 34, 2, 810) := ⟨rfl, by decide⟩
set_option maxRecDepth 100000 in
theorem mi_pq55 : mi_PQ (9, 38, 1, 815) := ⟨rfl, by decide⟩
set_option maxRecDepth 100000 in
theorem mi_pq56 : mi_PQ (9, 42, 5, 816) := ⟨rfl, by decide⟩
set_option maxRecDepth 100000 in
theorem mi_pq57 : mi_PQ (9, 45, 8, 817) := ⟨rfl, by decide⟩
set_option maxRecDepth 100000 in
theorem mi_pq58 : mi_PQ (9, 51, 4, 820) := ⟨rfl, by decide⟩
set_option maxRecDepth 100000 in
theorem mi_pq59 : mi_PQ (9, 64, 6, 830) := ⟨rfl, by decide⟩
set_option maxRecDepth 100000 in
theorem mi_pq60 : mi_PQ (4, 57, 9, 847) := ⟨rfl, by decide⟩
set_option maxRecDepth 100000 in
theorem mi_pq61 : mi_PQ (8, 62, 1, 884) := ⟨rfl, by decide⟩
set_option maxRecDepth 100000 in
theorem mi_pq62 : mi_PQ (0, 76, 4, 982) := ⟨rfl, by decide⟩
set_option maxRecDepth 100000 in
theorem mi_pq63 : mi_PQ (10, 50, 1, 1050) := ⟨rfl, by decide⟩
set_option maxRecDepth 100000 in
theorem mi_pq64 : mi_PQ (10, 62, 4, 1052) := ⟨rfl, by decide⟩
set_option maxRecDepth 100000 in
theorem mi_pq65 : mi_PQ (10, 112, 2, 1061) := ⟨rfl, by decide⟩
set_option maxRecDepth 100000 in
theorem mi_pq66 : mi_PQ (10, 104, 8, 1067) := ⟨rfl, by decide⟩
set_option maxRecDepth 100000 in
theorem mi_pq67 : mi_PQ (12, 1, 11, 1111) := ⟨rfl, by decide⟩
theorem mi_tQ_ok : ∀ e ∈ mi_tQ, mi_PQ e := List.forall_mem_cons.mpr ⟨mi_pq0, List.forall_mem_cons.mpr ⟨mi_pq1, List.forall_mem_cons.mpr ⟨mi_pq2, List.forall_mem_cons.mpr ⟨mi_pq3, List.forall_mem_cons.mpr ⟨mi_pq4, List.forall_mem_cons.mpr ⟨mi_pq5, List.forall_mem_cons.mpr ⟨mi_pq6, List.forall_mem_cons.mpr ⟨mi_pq7, List.forall_mem_cons.mpr ⟨mi_pq8, List.forall_mem_cons.mpr ⟨mi_pq9, List.forall_mem_cons.mpr ⟨mi_pq10, List.forall_mem_cons.mpr ⟨mi_pq11, List.forall_mem_cons.mpr ⟨mi_pq12, List.forall_mem_cons.mpr ⟨mi_pq13, List.forall_mem_cons.mpr ⟨mi_pq14, List.forall_mem_cons.mpr ⟨mi_pq15, List.forall_mem_cons.mpr ⟨mi_pq16, List.forall_mem_cons.mpr ⟨mi_pq17, List.forall_mem_cons.mpr ⟨mi_pq18, List.forall_mem_cons.mpr ⟨mi_pq19, List.forall_mem_cons.mpr ⟨mi_pq20, List.forall_mem_cons.mpr ⟨mi_pq21, List.forall_mem_cons.mpr ⟨mi_pq22, List.forall_mem_cons.mpr ⟨mi_pq23, List.forall_mem_cons.mpr ⟨mi_pq24, List.forall_mem_cons.mpr ⟨mi_pq25, List.forall_mem_cons.mpr ⟨mi_pq26, List.forall_mem_cons.mpr ⟨mi_pq27, List.forall_mem_cons.mpr ⟨mi_pq28, List.forall_mem_cons.mpr ⟨mi_pq29, List.forall_mem_cons.mpr ⟨mi_pq30, List.forall_mem_cons.mpr ⟨mi_pq31, List.forall_mem_cons.mpr ⟨mi_pq32, List.forall_mem_cons.mpr ⟨mi_pq33, List.forall_mem_cons.mpr ⟨mi_pq34, List.forall_mem_cons.mpr ⟨mi_pq35, List.forall_mem_cons.mpr ⟨mi_pq36, List.forall_mem_cons.mpr ⟨mi_pq37, List.forall_mem_cons.mpr ⟨mi_pq38, List.forall_mem_cons.mpr ⟨mi_pq39, List.forall_mem_cons.mpr ⟨mi_pq40, List.forall_mem_cons.mpr ⟨mi_pq41, List.forall_mem_cons.mpr ⟨mi_pq42, List.forall_mem_cons.mpr ⟨mi_pq43, List.forall_mem_cons.mpr ⟨mi_pq44, List.forall_mem_cons.mpr ⟨mi_pq45, List.forall_mem_cons.mpr ⟨mi_pq46, List.forall_mem_cons.mpr ⟨mi_pq47, List.forall_mem_cons.mpr ⟨mi_pq48, List.forall_mem_cons.mpr ⟨mi_pq49, List.forall_mem_cons.mpr ⟨mi_pq50, List.forall_mem_cons.mpr ⟨mi_pq51, List.forall_mem_cons.mpr ⟨mi_pq52, List.forall_mem_cons.mpr ⟨mi_pq53, List.forall_mem_cons.mpr ⟨mi_pq54, List.forall_mem_cons.mpr ⟨mi_pq55, List.forall_mem_cons.mpr ⟨mi_pq56, List.forall_mem_cons.mpr ⟨mi_pq57, List.forall_mem_cons.mpr ⟨mi_pq58, List.forall_mem_cons.mpr ⟨mi_pq59, List.forall_mem_cons.mpr ⟨mi_pq60, List.forall_mem_cons.mpr ⟨mi_pq61, List.forall_mem_cons.mpr ⟨mi_pq62, List.forall_mem_cons.mpr ⟨mi_pq63, List.forall_mem_cons.mpr ⟨mi_pq64, List.forall_mem_cons.mpr ⟨mi_pq65, List.forall_mem_cons.mpr ⟨mi_pq66, List.forall_mem_cons.mpr ⟨mi_pq67, fun _ h => absurd h List.not_mem_nil⟩⟩⟩⟩⟩⟩⟩⟩⟩⟩⟩⟩⟩⟩⟩⟩⟩⟩⟩⟩⟩⟩⟩⟩⟩⟩⟩⟩⟩⟩⟩⟩⟩⟩⟩⟩⟩⟩⟩⟩⟩⟩⟩⟩⟩⟩⟩⟩⟩⟩⟩⟩⟩⟩⟩⟩⟩⟩⟩⟩⟩⟩⟩⟩⟩⟩⟩⟩
theorem mi_cl (k : Nat) (h : k < 13) : vwCl[k]? = some (mi_RX k, mi_T k, mi_n k) := by
  rcases (show k = 0 ∨ k = 1 ∨ k = 2 ∨ k = 3 ∨ k = 4 ∨ k = 5 ∨ k = 6 ∨ k = 7 ∨ k = 8 ∨ k = 9 ∨ k = 10 ∨ k = 11 ∨ k = 12 by omega) with rfl | rfl | rfl | rfl | rfl | rfl | rfl | rfl | rfl | rfl | rfl | rfl | rfl <;> rfl
theorem mi_Ty_ok (k : Nat) (h : k < 13) : ∀ j, j < mi_n k → parseFieldDescriptor (mi_T k j).2.2.1 = some (mi_Ty k j) := by
  rcases (show k = 0 ∨ k = 1 ∨ k = 2 ∨ k = 3 ∨ k = 4 ∨ k = 5 ∨ k = 6 ∨ k = 7 ∨ k = 8 ∨ k = 9 ∨ k = 10 ∨ k = 11 ∨ k = 12 by omega) with rfl | rfl | rfl | rfl | rfl | rfl | rfl | rfl | rfl | rfl | rfl | rfl | rfl
  · exact tyX0_ok
  · exact tyX1_ok
  · exact tyX2_ok
  · exact tyX3_ok
  · exact tyX4_ok
  · exact tyX5_ok
  · exact tyX6_ok
  · exact tyX7_ok
  · exact tyX8_ok
  · exact tyX9_ok
  · exact tyX10_ok
  · exact tyX11_ok
  · exact tyX12_ok
theorem mi_nm_ok (k : Nat) (h : k < 13) : ∀ a, a < mi_n k → ∀ b, b < mi_n k → a ≠ b → (mi_T k a).2.1 ≠ (mi_T k b).2.1 := by
  rcases (show k = 0 ∨ k = 1 ∨ k = 2 ∨ k = 3 ∨ k = 4 ∨ k = 5 ∨ k = 6 ∨ k = 7 ∨ k = 8 ∨ k = 9 ∨ k = 10 ∨ k = 11 ∨ k = 12 by omega) with rfl | rfl | rfl | rfl | rfl | rfl | rfl | rfl | rfl | rfl | rfl | rfl | rfl
  · exact nmX0
  · exact nmX1
  · exact nmX2
  · exact nmX3
  · exact nmX4
  · exact nmX5
  · exact nmX6
  · exact nmX7
  · exact nmX8
  · exact nmX9
  · exact nmX10
  · exact nmX11
  · exact nmX12
set_option maxRecDepth 100000 in
theorem mi_inw0 : u_ws RX0 TX0 10 = ([159, 161, 163, 165, 167, 169, 171, 173, 175, 177] : List Nat).filterMap (fun i => lw_tbl[i]?) := rfl
set_option maxRecDepth 100000 in
theorem mi_inw1 : u_ws RX1 TX1 5 = ([268, 270, 272, 274, 276] : List Nat).filterMap (fun i => lw_tbl[i]?) := rfl
set_option maxRecDepth 100000 in
theorem mi_inw2 : u_ws RX2 TX2 11 = ([232, 234, 236, 238, 240, 242, 244, 246, 248, 250, 252] : List Nat).filterMap (fun i => lw_tbl[i]?) := rfl
set_option maxRecDepth 100000 in
theorem mi_inw3 : u_ws RX3 TX3 2 = ([115, 117] : List Nat).filterMap (fun i => lw_tbl[i]?) := rfl
set_option maxRecDepth 100000 in
theorem mi_inw4 : u_ws RX4 TX4 7 = ([299, 301, 303, 305, 307, 309, 311] : List Nat).filterMap (fun i => lw_tbl[i]?) := rfl
set_option maxRecDepth 100000 in
theorem mi_inw5 : u_ws RX5 TX5 3 = ([342, 344, 346] : List Nat).filterMap (fun i => lw_tbl[i]?) := rfl
set_option maxRecDepth 100000 in
theorem mi_inw6 : u_ws RX6 TX6 2 = ([129, 131] : List Nat).filterMap (fun i => lw_tbl[i]?) := rfl
set_option maxRecDepth 100000 in
theorem mi_inw7 : u_ws RX7 TX7 4 = ([196, 198, 200, 202] : List Nat).filterMap (fun i => lw_tbl[i]?) := rfl
set_option maxRecDepth 100000 in
theorem mi_inw8 : u_ws RX8 TX8 6 = ([355, 357, 359, 361, 363, 365] : List Nat).filterMap (fun i => lw_tbl[i]?) := rfl
set_option maxRecDepth 100000 in
theorem mi_inw9 : u_ws RX9 TX9 4 = ([385, 387, 389, 391] : List Nat).filterMap (fun i => lw_tbl[i]?) := rfl
set_option maxRecDepth 100000 in
theorem mi_inw10 : u_ws RX10 TX10 4 = ([408, 410, 412, 414] : List Nat).filterMap (fun i => lw_tbl[i]?) := rfl
set_option maxRecDepth 100000 in
theorem mi_inw11 : u_ws RX11 TX11 8 = ([425, 427, 429, 431, 433, 435, 437, 439] : List Nat).filterMap (fun i => lw_tbl[i]?) := rfl
set_option maxRecDepth 100000 in
theorem mi_inw12 : u_ws RX12 TX12 49 = ([1161, 1163, 1165, 1167, 1169, 1171, 1173, 1175, 1177, 1179, 1181, 1183, 1185, 1187, 1189, 1191, 1193, 1195, 1197, 1199, 1201, 1203, 1205, 1207, 1209, 1211, 1213, 1215, 1217, 1219, 1221, 1223, 1225, 1227, 1229, 1231, 1233, 1235, 1237, 1239, 1241, 1243, 1245, 1247, 1249, 1251, 1253, 1255, 1257] : List Nat).filterMap (fun i => lw_tbl[i]?) := rfl
theorem mi_in_of {ws : List Cond} (ps : List Nat) (h : ws = ps.filterMap (fun i => lw_tbl[i]?)) : ∀ w ∈ ws, w ∈ lw_tbl := by
  intro w hw
  rw [h] at hw
  obtain ⟨i, -, hi⟩ := List.mem_filterMap.mp hw
  exact List.mem_of_getElem? hi
theorem mi_in (k : Nat) (h : k < 13) : ∀ w ∈ u_ws (mi_RX k) (mi_T k) (mi_n k), w ∈ lw_tbl := by
  rcases (show k = 0 ∨ k = 1 ∨ k = 2 ∨ k = 3 ∨ k = 4 ∨ k = 5 ∨ k = 6 ∨ k = 7 ∨ k = 8 ∨ k = 9 ∨ k = 10 ∨ k = 11 ∨ k = 12 by omega) with rfl | rfl | rfl | rfl | rfl | rfl | rfl | rfl | rfl | rfl | rfl | rfl | rfl
  · exact mi_in_of _ mi_inw0
  · exact mi_in_of _ mi_inw1
  · exact mi_in_of _ mi_inw2
  · exact mi_in_of _ mi_inw3
  · exact mi_in_of _ mi_inw4
  · exact mi_in_of _ mi_inw5
  · exact mi_in_of _ mi_inw6
  · exact mi_in_of _ mi_inw7
  · exact mi_in_of _ mi_inw8
  · exact mi_in_of _ mi_inw9
  · exact mi_in_of _ mi_inw10
  · exact mi_in_of _ mi_inw11
  · exact mi_in_of _ mi_inw12
end
