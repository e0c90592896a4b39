-- ===== PART A: goes FIRST, ahead of the names: the tables' words, and 'selects' of the private methods out of them =====
/-- a private method of a class that the tables say can be made, by its rows of tables_1 -/
def lw_okq (q : MethodName × Nat) : Prop := (q.1.cls ≠ "java/lang/invoke/MethodHandle" ∧ q.1.cls ≠ "java/lang/invoke/VarHandle") ∧ Cond.instantiable q.1.cls q.2 ∈ tables_1 ∧ Cond.privateMethod q.1 ∈ tables_1 ∧ Cond.instanceMethod q.1 ∈ tables_1
theorem lw_p0 : lw_okq (⟨"LedgerTwice$Journal", "put", "(I)V"⟩, 7) := ⟨⟨by decide +kernel, by decide +kernel⟩, List.mem_of_getElem? (i := 210) (by decide +kernel), List.mem_of_getElem? (i := 434) (by decide +kernel), List.mem_of_getElem? (i := 435) (by decide +kernel)⟩
theorem lw_p1 : lw_okq (⟨"LedgerTwice$Journal", "checkOf", "(II)I"⟩, 7) := ⟨⟨by decide +kernel, by decide +kernel⟩, List.mem_of_getElem? (i := 210) (by decide +kernel), List.mem_of_getElem? (i := 439) (by decide +kernel), List.mem_of_getElem? (i := 440) (by decide +kernel)⟩
theorem lw_p2 : lw_okq (⟨"LedgerTwice$Accounts", "putByCode", "(I)V"⟩, 10) := ⟨⟨by decide +kernel, by decide +kernel⟩, List.mem_of_getElem? (i := 32) (by decide +kernel), List.mem_of_getElem? (i := 464) (by decide +kernel), List.mem_of_getElem? (i := 465) (by decide +kernel)⟩
theorem lw_p3 : lw_okq (⟨"LedgerTwice", "writePlain", "(LLedgerTwice$Lines;II)I"⟩, 8) := ⟨⟨by decide +kernel, by decide +kernel⟩, List.mem_of_getElem? (i := 18) (by decide +kernel), List.mem_of_getElem? (i := 557) (by decide +kernel), List.mem_of_getElem? (i := 558) (by decide +kernel)⟩
theorem lw_p4 : lw_okq (⟨"LedgerTwice$Books", "hasShut", "(LLedgerTwice$Lines;)Z"⟩, 5) := ⟨⟨by decide +kernel, by decide +kernel⟩, List.mem_of_getElem? (i := 26) (by decide +kernel), List.mem_of_getElem? (i := 577) (by decide +kernel), List.mem_of_getElem? (i := 578) (by decide +kernel)⟩
theorem lw_p5 : lw_okq (⟨"LedgerTwice$Books", "refusesUnjudged", "(LLedgerTwice$Lines;)I"⟩, 5) := ⟨⟨by decide +kernel, by decide +kernel⟩, List.mem_of_getElem? (i := 26) (by decide +kernel), List.mem_of_getElem? (i := 581) (by decide +kernel), List.mem_of_getElem? (i := 582) (by decide +kernel)⟩
theorem lw_p6 : lw_okq (⟨"LedgerTwice$Books", "goesOver", "(LLedgerTwice$Lines;)Z"⟩, 5) := ⟨⟨by decide +kernel, by decide +kernel⟩, List.mem_of_getElem? (i := 26) (by decide +kernel), List.mem_of_getElem? (i := 585) (by decide +kernel), List.mem_of_getElem? (i := 586) (by decide +kernel)⟩
theorem lw_p7 : lw_okq (⟨"LedgerTwice$Books", "fillClosing", "(ILLedgerTwice$Lines;)V"⟩, 5) := ⟨⟨by decide +kernel, by decide +kernel⟩, List.mem_of_getElem? (i := 26) (by decide +kernel), List.mem_of_getElem? (i := 652) (by decide +kernel), List.mem_of_getElem? (i := 653) (by decide +kernel)⟩
theorem lw_p8 : lw_okq (⟨"LedgerTwice$Books", "isClosedOut", "(I)Z"⟩, 5) := ⟨⟨by decide +kernel, by decide +kernel⟩, List.mem_of_getElem? (i := 26) (by decide +kernel), List.mem_of_getElem? (i := 673) (by decide +kernel), List.mem_of_getElem? (i := 674) (by decide +kernel)⟩
theorem lw_p9 : lw_okq (⟨"LedgerTwice", "refusesShare", "(IJ)I"⟩, 8) := ⟨⟨by decide +kernel, by decide +kernel⟩, List.mem_of_getElem? (i := 18) (by decide +kernel), List.mem_of_getElem? (i := 710) (by decide +kernel), List.mem_of_getElem? (i := 711) (by decide +kernel)⟩
theorem lw_p10 : lw_okq (⟨"LedgerTwice", "shareOut", "(IJ)V"⟩, 8) := ⟨⟨by decide +kernel, by decide +kernel⟩, List.mem_of_getElem? (i := 18) (by decide +kernel), List.mem_of_getElem? (i := 721) (by decide +kernel), List.mem_of_getElem? (i := 722) (by decide +kernel)⟩
theorem lw_p11 : lw_okq (⟨"LedgerTwice$Shares", "giveRest", "(J)V"⟩, 4) := ⟨⟨by decide +kernel, by decide +kernel⟩, List.mem_of_getElem? (i := 301) (by decide +kernel), List.mem_of_getElem? (i := 744) (by decide +kernel), List.mem_of_getElem? (i := 745) (by decide +kernel)⟩
theorem lw_p12 : lw_okq (⟨"LedgerTwice$Shares", "withGreatestRemainder", "()I"⟩, 4) := ⟨⟨by decide +kernel, by decide +kernel⟩, List.mem_of_getElem? (i := 301) (by decide +kernel), List.mem_of_getElem? (i := 749) (by decide +kernel), List.mem_of_getElem? (i := 750) (by decide +kernel)⟩
theorem lw_p13 : lw_okq (⟨"LedgerTwice$Recovery", "redoAccount", "()Z"⟩, 6) := ⟨⟨by decide +kernel, by decide +kernel⟩, List.mem_of_getElem? (i := 245) (by decide +kernel), List.mem_of_getElem? (i := 803) (by decide +kernel), List.mem_of_getElem? (i := 804) (by decide +kernel)⟩
theorem lw_p14 : lw_okq (⟨"LedgerTwice$Recovery", "nextInt", "()I"⟩, 6) := ⟨⟨by decide +kernel, by decide +kernel⟩, List.mem_of_getElem? (i := 245) (by decide +kernel), List.mem_of_getElem? (i := 807) (by decide +kernel), List.mem_of_getElem? (i := 808) (by decide +kernel)⟩
theorem lw_p15 : lw_okq (⟨"LedgerTwice$Recovery", "nextNumber", "()J"⟩, 6) := ⟨⟨by decide +kernel, by decide +kernel⟩, List.mem_of_getElem? (i := 245) (by decide +kernel), List.mem_of_getElem? (i := 811) (by decide +kernel), List.mem_of_getElem? (i := 812) (by decide +kernel)⟩
def lw_privs_1 : List (MethodName × Nat) := [(⟨"LedgerTwice$Journal", "put", "(I)V"⟩, 7), (⟨"LedgerTwice$Journal", "checkOf", "(II)I"⟩, 7), (⟨"LedgerTwice$Accounts", "putByCode", "(I)V"⟩, 10), (⟨"LedgerTwice", "writePlain", "(LLedgerTwice$Lines;II)I"⟩, 8), (⟨"LedgerTwice$Books", "hasShut", "(LLedgerTwice$Lines;)Z"⟩, 5), (⟨"LedgerTwice$Books", "refusesUnjudged", "(LLedgerTwice$Lines;)I"⟩, 5), (⟨"LedgerTwice$Books", "goesOver", "(LLedgerTwice$Lines;)Z"⟩, 5), (⟨"LedgerTwice$Books", "fillClosing", "(ILLedgerTwice$Lines;)V"⟩, 5), (⟨"LedgerTwice$Books", "isClosedOut", "(I)Z"⟩, 5), (⟨"LedgerTwice", "refusesShare", "(IJ)I"⟩, 8), (⟨"LedgerTwice", "shareOut", "(IJ)V"⟩, 8), (⟨"LedgerTwice$Shares", "giveRest", "(J)V"⟩, 4), (⟨"LedgerTwice$Shares", "withGreatestRemainder", "()I"⟩, 4), (⟨"LedgerTwice$Recovery", "redoAccount", "()Z"⟩, 6), (⟨"LedgerTwice$Recovery", "nextInt", "()I"⟩, 6), (⟨"LedgerTwice$Recovery", "nextNumber", "()J"⟩, 6)]
theorem lw_r1 : ∀ q ∈ lw_privs_1, lw_okq q := List.forall_mem_cons.mpr ⟨lw_p0, List.forall_mem_cons.mpr ⟨lw_p1, List.forall_mem_cons.mpr ⟨lw_p2, List.forall_mem_cons.mpr ⟨lw_p3, List.forall_mem_cons.mpr ⟨lw_p4, List.forall_mem_cons.mpr ⟨lw_p5, List.forall_mem_cons.mpr ⟨lw_p6, List.forall_mem_cons.mpr ⟨lw_p7, List.forall_mem_cons.mpr ⟨lw_p8, List.forall_mem_cons.mpr ⟨lw_p9, List.forall_mem_cons.mpr ⟨lw_p10, List.forall_mem_cons.mpr ⟨lw_p11, List.forall_mem_cons.mpr ⟨lw_p12, List.forall_mem_cons.mpr ⟨lw_p13, List.forall_mem_cons.mpr ⟨lw_p14, List.forall_mem_cons.mpr ⟨lw_p15, fun _ h => absurd h List.not_mem_nil⟩⟩⟩⟩⟩⟩⟩⟩⟩⟩⟩⟩⟩⟩⟩⟩
theorem lw_p16 : lw_okq (⟨"LedgerTwice$Recovery", "nextFlag", "()Z"⟩, 6) := ⟨⟨by decide +kernel, by decide +kernel⟩, List.mem_of_getElem? (i := 245) (by decide +kernel), List.mem_of_getElem? (i := 815) (by decide +kernel), List.mem_of_getElem? (i := 816) (by decide +kernel)⟩
theorem lw_p17 : lw_okq (⟨"LedgerTwice$Recovery", "isReadWhole", "()Z"⟩, 6) := ⟨⟨by decide +kernel, by decide +kernel⟩, List.mem_of_getElem? (i := 245) (by decide +kernel), List.mem_of_getElem? (i := 819) (by decide +kernel), List.mem_of_getElem? (i := 820) (by decide +kernel)⟩
theorem lw_p18 : lw_okq (⟨"LedgerTwice$Recovery", "redoShut", "()Z"⟩, 6) := ⟨⟨by decide +kernel, by decide +kernel⟩, List.mem_of_getElem? (i := 245) (by decide +kernel), List.mem_of_getElem? (i := 825) (by decide +kernel), List.mem_of_getElem? (i := 826) (by decide +kernel)⟩
theorem lw_p19 : lw_okq (⟨"LedgerTwice$Recovery", "redoPeriod", "()Z"⟩, 6) := ⟨⟨by decide +kernel, by decide +kernel⟩, List.mem_of_getElem? (i := 245) (by decide +kernel), List.mem_of_getElem? (i := 831) (by decide +kernel), List.mem_of_getElem? (i := 832) (by decide +kernel)⟩
theorem lw_p20 : lw_okq (⟨"LedgerTwice$Recovery", "redoOwner", "()Z"⟩, 6) := ⟨⟨by decide +kernel, by decide +kernel⟩, List.mem_of_getElem? (i := 245) (by decide +kernel), List.mem_of_getElem? (i := 837) (by decide +kernel), List.mem_of_getElem? (i := 838) (by decide +kernel)⟩
theorem lw_p21 : lw_okq (⟨"LedgerTwice$Recovery", "redoPost", "()Z"⟩, 6) := ⟨⟨by decide +kernel, by decide +kernel⟩, List.mem_of_getElem? (i := 245) (by decide +kernel), List.mem_of_getElem? (i := 843) (by decide +kernel), List.mem_of_getElem? (i := 844) (by decide +kernel)⟩
theorem lw_p22 : lw_okq (⟨"LedgerTwice$Recovery", "readLines", "()Z"⟩, 6) := ⟨⟨by decide +kernel, by decide +kernel⟩, List.mem_of_getElem? (i := 245) (by decide +kernel), List.mem_of_getElem? (i := 847) (by decide +kernel), List.mem_of_getElem? (i := 848) (by decide +kernel)⟩
theorem lw_p23 : lw_okq (⟨"LedgerTwice$Recovery", "redoBack", "()Z"⟩, 6) := ⟨⟨by decide +kernel, by decide +kernel⟩, List.mem_of_getElem? (i := 245) (by decide +kernel), List.mem_of_getElem? (i := 856) (by decide +kernel), List.mem_of_getElem? (i := 857) (by decide +kernel)⟩
theorem lw_p24 : lw_okq (⟨"LedgerTwice$Recovery", "redoClose", "()Z"⟩, 6) := ⟨⟨by decide +kernel, by decide +kernel⟩, List.mem_of_getElem? (i := 245) (by decide +kernel), List.mem_of_getElem? (i := 862) (by decide +kernel), List.mem_of_getElem? (i := 863) (by decide +kernel)⟩
theorem lw_p25 : lw_okq (⟨"LedgerTwice$Recovery", "redoReopen", "()Z"⟩, 6) := ⟨⟨by decide +kernel, by decide +kernel⟩, List.mem_of_getElem? (i := 245) (by decide +kernel), List.mem_of_getElem? (i := 868) (by decide +kernel), List.mem_of_getElem? (i := 869) (by decide +kernel)⟩
theorem lw_p26 : lw_okq (⟨"LedgerTwice$Accounts", "isUnder", "(II)Z"⟩, 10) := ⟨⟨by decide +kernel, by decide +kernel⟩, List.mem_of_getElem? (i := 32) (by decide +kernel), List.mem_of_getElem? (i := 900) (by decide +kernel), List.mem_of_getElem? (i := 901) (by decide +kernel)⟩
theorem lw_p27 : lw_okq (⟨"LedgerTwice$Sheet", "writeLeaves", "()V"⟩, 4) := ⟨⟨by decide +kernel, by decide +kernel⟩, List.mem_of_getElem? (i := 325) (by decide +kernel), List.mem_of_getElem? (i := 963) (by decide +kernel), List.mem_of_getElem? (i := 964) (by decide +kernel)⟩
theorem lw_p28 : lw_okq (⟨"LedgerTwice$Sheet", "writeRow", "(I)V"⟩, 4) := ⟨⟨by decide +kernel, by decide +kernel⟩, List.mem_of_getElem? (i := 325) (by decide +kernel), List.mem_of_getElem? (i := 970) (by decide +kernel), List.mem_of_getElem? (i := 971) (by decide +kernel)⟩
theorem lw_p29 : lw_okq (⟨"LedgerTwice$Sheet", "put", "(I)V"⟩, 4) := ⟨⟨by decide +kernel, by decide +kernel⟩, List.mem_of_getElem? (i := 325) (by decide +kernel), List.mem_of_getElem? (i := 974) (by decide +kernel), List.mem_of_getElem? (i := 975) (by decide +kernel)⟩
theorem lw_p30 : lw_okq (⟨"LedgerTwice$Sheet", "putMoney", "(J)V"⟩, 4) := ⟨⟨by decide +kernel, by decide +kernel⟩, List.mem_of_getElem? (i := 325) (by decide +kernel), List.mem_of_getElem? (i := 980) (by decide +kernel), List.mem_of_getElem? (i := 981) (by decide +kernel)⟩
theorem lw_p31 : lw_okq (⟨"LedgerTwice$Sheet", "writeKinds", "()V"⟩, 4) := ⟨⟨by decide +kernel, by decide +kernel⟩, List.mem_of_getElem? (i := 325) (by decide +kernel), List.mem_of_getElem? (i := 989) (by decide +kernel), List.mem_of_getElem? (i := 990) (by decide +kernel)⟩
def lw_privs_2 : List (MethodName × Nat) := [(⟨"LedgerTwice$Recovery", "nextFlag", "()Z"⟩, 6), (⟨"LedgerTwice$Recovery", "isReadWhole", "()Z"⟩, 6), (⟨"LedgerTwice$Recovery", "redoShut", "()Z"⟩, 6), (⟨"LedgerTwice$Recovery", "redoPeriod", "()Z"⟩, 6), (⟨"LedgerTwice$Recovery", "redoOwner", "()Z"⟩, 6), (⟨"LedgerTwice$Recovery", "redoPost", "()Z"⟩, 6), (⟨"LedgerTwice$Recovery", "readLines", "()Z"⟩, 6), (⟨"LedgerTwice$Recovery", "redoBack", "()Z"⟩, 6), (⟨"LedgerTwice$Recovery", "redoClose", "()Z"⟩, 6), (⟨"LedgerTwice$Recovery", "redoReopen", "()Z"⟩, 6), (⟨"LedgerTwice$Accounts", "isUnder", "(II)Z"⟩, 10), (⟨"LedgerTwice$Sheet", "writeLeaves", "()V"⟩, 4), (⟨"LedgerTwice$Sheet", "writeRow", "(I)V"⟩, 4), (⟨"LedgerTwice$Sheet", "put", "(I)V"⟩, 4), (⟨"LedgerTwice$Sheet", "putMoney", "(J)V"⟩, 4), (⟨"LedgerTwice$Sheet", "writeKinds", "()V"⟩, 4)]
theorem lw_r2 : ∀ q ∈ lw_privs_2, lw_okq q := List.forall_mem_cons.mpr ⟨lw_p16, List.forall_mem_cons.mpr ⟨lw_p17, List.forall_mem_cons.mpr ⟨lw_p18, List.forall_mem_cons.mpr ⟨lw_p19, List.forall_mem_cons.mpr ⟨lw_p20, List.forall_mem_cons.mpr ⟨lw_p21, List.forall_mem_cons.mpr ⟨lw_p22, List.forall_mem_cons.mpr ⟨lw_p23, List.forall_mem_cons.mpr ⟨lw_p24, List.forall_mem_cons.mpr ⟨lw_p25, List.forall_mem_cons.mpr ⟨lw_p26, List.forall_mem_cons.mpr ⟨lw_p27, List.forall_mem_cons.mpr ⟨lw_p28, List.forall_mem_cons.mpr ⟨lw_p29, List.forall_mem_cons.mpr ⟨lw_p30, List.forall_mem_cons.mpr ⟨lw_p31, fun _ h => absurd h List.not_mem_nil⟩⟩⟩⟩⟩⟩⟩⟩⟩⟩⟩⟩⟩⟩⟩⟩
theorem lw_p32 : lw_okq (⟨"LedgerTwice$Sheet", "writeTotal", "(CJ)V"⟩, 4) := ⟨⟨by decide +kernel, by decide +kernel⟩, List.mem_of_getElem? (i := 325) (by decide +kernel), List.mem_of_getElem? (i := 999) (by decide +kernel), List.mem_of_getElem? (i := 1000) (by decide +kernel)⟩
theorem lw_p33 : lw_okq (⟨"LedgerTwice", "countOfBooks", "(I)I"⟩, 8) := ⟨⟨by decide +kernel, by decide +kernel⟩, List.mem_of_getElem? (i := 18) (by decide +kernel), List.mem_of_getElem? (i := 1018) (by decide +kernel), List.mem_of_getElem? (i := 1019) (by decide +kernel)⟩
theorem lw_p34 : lw_okq (⟨"LedgerTwiceModel", "isAccount", "(I)Z"⟩, 49) := ⟨⟨by decide +kernel, by decide +kernel⟩, List.mem_of_getElem? (i := 1022) (by decide +kernel), List.mem_of_getElem? (i := 1181) (by decide +kernel), List.mem_of_getElem? (i := 1182) (by decide +kernel)⟩
theorem lw_p35 : lw_okq (⟨"LedgerTwiceModel", "isTold", "(I)Z"⟩, 49) := ⟨⟨by decide +kernel, by decide +kernel⟩, List.mem_of_getElem? (i := 1022) (by decide +kernel), List.mem_of_getElem? (i := 1190) (by decide +kernel), List.mem_of_getElem? (i := 1191) (by decide +kernel)⟩
theorem lw_p36 : lw_okq (⟨"LedgerTwiceModel", "begin", "()V"⟩, 49) := ⟨⟨by decide +kernel, by decide +kernel⟩, List.mem_of_getElem? (i := 1022) (by decide +kernel), List.mem_of_getElem? (i := 1194) (by decide +kernel), List.mem_of_getElem? (i := 1195) (by decide +kernel)⟩
theorem lw_p37 : lw_okq (⟨"LedgerTwiceModel", "say", "(J)V"⟩, 49) := ⟨⟨by decide +kernel, by decide +kernel⟩, List.mem_of_getElem? (i := 1022) (by decide +kernel), List.mem_of_getElem? (i := 1198) (by decide +kernel), List.mem_of_getElem? (i := 1199) (by decide +kernel)⟩
theorem lw_p38 : lw_okq (⟨"LedgerTwiceModel", "hasRoom", "()Z"⟩, 49) := ⟨⟨by decide +kernel, by decide +kernel⟩, List.mem_of_getElem? (i := 1022) (by decide +kernel), List.mem_of_getElem? (i := 1205) (by decide +kernel), List.mem_of_getElem? (i := 1206) (by decide +kernel)⟩
theorem lw_p39 : lw_okq (⟨"LedgerTwiceModel", "write", "(I)V"⟩, 49) := ⟨⟨by decide +kernel, by decide +kernel⟩, List.mem_of_getElem? (i := 1022) (by decide +kernel), List.mem_of_getElem? (i := 1209) (by decide +kernel), List.mem_of_getElem? (i := 1210) (by decide +kernel)⟩
theorem lw_p40 : lw_okq (⟨"LedgerTwiceModel", "append", "(I)V"⟩, 49) := ⟨⟨by decide +kernel, by decide +kernel⟩, List.mem_of_getElem? (i := 1022) (by decide +kernel), List.mem_of_getElem? (i := 1218) (by decide +kernel), List.mem_of_getElem? (i := 1219) (by decide +kernel)⟩
theorem lw_p41 : lw_okq (⟨"LedgerTwiceModel", "firstDay", "(I)I"⟩, 49) := ⟨⟨by decide +kernel, by decide +kernel⟩, List.mem_of_getElem? (i := 1022) (by decide +kernel), List.mem_of_getElem? (i := 1230) (by decide +kernel), List.mem_of_getElem? (i := 1231) (by decide +kernel)⟩
theorem lw_p42 : lw_okq (⟨"LedgerTwiceModel", "hand", "(IJ)V"⟩, 49) := ⟨⟨by decide +kernel, by decide +kernel⟩, List.mem_of_getElem? (i := 1022) (by decide +kernel), List.mem_of_getElem? (i := 1252) (by decide +kernel), List.mem_of_getElem? (i := 1253) (by decide +kernel)⟩
theorem lw_p43 : lw_okq (⟨"LedgerTwiceModel", "posted", "(II)I"⟩, 49) := ⟨⟨by decide +kernel, by decide +kernel⟩, List.mem_of_getElem? (i := 1022) (by decide +kernel), List.mem_of_getElem? (i := 1256) (by decide +kernel), List.mem_of_getElem? (i := 1257) (by decide +kernel)⟩
theorem lw_p44 : lw_okq (⟨"LedgerTwiceModel", "sayPost", "(II)V"⟩, 49) := ⟨⟨by decide +kernel, by decide +kernel⟩, List.mem_of_getElem? (i := 1022) (by decide +kernel), List.mem_of_getElem? (i := 1260) (by decide +kernel), List.mem_of_getElem? (i := 1261) (by decide +kernel)⟩
theorem lw_p45 : lw_okq (⟨"LedgerTwiceModel", "judged", "(I)I"⟩, 49) := ⟨⟨by decide +kernel, by decide +kernel⟩, List.mem_of_getElem? (i := 1022) (by decide +kernel), List.mem_of_getElem? (i := 1264) (by decide +kernel), List.mem_of_getElem? (i := 1265) (by decide +kernel)⟩
theorem lw_p46 : lw_okq (⟨"LedgerTwiceModel", "periodAt", "(I)I"⟩, 49) := ⟨⟨by decide +kernel, by decide +kernel⟩, List.mem_of_getElem? (i := 1022) (by decide +kernel), List.mem_of_getElem? (i := 1268) (by decide +kernel), List.mem_of_getElem? (i := 1269) (by decide +kernel)⟩
theorem lw_p47 : lw_okq (⟨"LedgerTwiceModel", "isOver", "()Z"⟩, 49) := ⟨⟨by decide +kernel, by decide +kernel⟩, List.mem_of_getElem? (i := 1022) (by decide +kernel), List.mem_of_getElem? (i := 1272) (by decide +kernel), List.mem_of_getElem? (i := 1273) (by decide +kernel)⟩
def lw_privs_3 : List (MethodName × Nat) := [(⟨"LedgerTwice$Sheet", "writeTotal", "(CJ)V"⟩, 4), (⟨"LedgerTwice", "countOfBooks", "(I)I"⟩, 8), (⟨"LedgerTwiceModel", "isAccount", "(I)Z"⟩, 49), (⟨"LedgerTwiceModel", "isTold", "(I)Z"⟩, 49), (⟨"LedgerTwiceModel", "begin", "()V"⟩, 49), (⟨"LedgerTwiceModel", "say", "(J)V"⟩, 49), (⟨"LedgerTwiceModel", "hasRoom", "()Z"⟩, 49), (⟨"LedgerTwiceModel", "write", "(I)V"⟩, 49), (⟨"LedgerTwiceModel", "append", "(I)V"⟩, 49), (⟨"LedgerTwiceModel", "firstDay", "(I)I"⟩, 49), (⟨"LedgerTwiceModel", "hand", "(IJ)V"⟩, 49), (⟨"LedgerTwiceModel", "posted", "(II)I"⟩, 49), (⟨"LedgerTwiceModel", "sayPost", "(II)V"⟩, 49), (⟨"LedgerTwiceModel", "judged", "(I)I"⟩, 49), (⟨"LedgerTwiceModel", "periodAt", "(I)I"⟩, 49), (⟨"LedgerTwiceModel", "isOver", "()Z"⟩, 49)]
theorem lw_r3 : ∀ q ∈ lw_privs_3, lw_okq q := List.forall_mem_cons.mpr ⟨lw_p32, List.forall_mem_cons.mpr ⟨lw_p33, List.forall_mem_cons.mpr ⟨lw_p34, List.forall_mem_cons.mpr ⟨lw_p35, List.forall_mem_cons.mpr ⟨lw_p36, List.forall_mem_cons.mpr ⟨lw_p37, List.forall_mem_cons.mpr ⟨lw_p38, List.forall_mem_cons.mpr ⟨lw_p39, List.forall_mem_cons.mpr ⟨lw_p40, List.forall_mem_cons.mpr ⟨lw_p41, List.forall_mem_cons.mpr ⟨lw_p42, List.forall_mem_cons.mpr ⟨lw_p43, List.forall_mem_cons.mpr ⟨lw_p44, List.forall_mem_cons.mpr ⟨lw_p45, List.forall_mem_cons.mpr ⟨lw_p46, List.forall_mem_cons.mpr ⟨lw_p47, fun _ h => absurd h List.not_mem_nil⟩⟩⟩⟩⟩⟩⟩⟩⟩⟩⟩⟩⟩⟩⟩⟩
theorem lw_p48 : lw_okq (⟨"LedgerTwiceModel", "enter", "(IIII)I"⟩, 49) := ⟨⟨by decide +kernel, by decide +kernel⟩, List.mem_of_getElem? (i := 1022) (by decide +kernel), List.mem_of_getElem? (i := 1278) (by decide +kernel), List.mem_of_getElem? (i := 1279) (by decide +kernel)⟩
theorem lw_p49 : lw_okq (⟨"LedgerTwiceModel", "turned", "(I)V"⟩, 49) := ⟨⟨by decide +kernel, by decide +kernel⟩, List.mem_of_getElem? (i := 1022) (by decide +kernel), List.mem_of_getElem? (i := 1286) (by decide +kernel), List.mem_of_getElem? (i := 1287) (by decide +kernel)⟩
theorem lw_p50 : lw_okq (⟨"LedgerTwiceModel", "nextCode", "(I)I"⟩, 49) := ⟨⟨by decide +kernel, by decide +kernel⟩, List.mem_of_getElem? (i := 1022) (by decide +kernel), List.mem_of_getElem? (i := 1294) (by decide +kernel), List.mem_of_getElem? (i := 1295) (by decide +kernel)⟩
theorem lw_p51 : lw_okq (⟨"LedgerTwiceModel", "sumOf", "(III)J"⟩, 49) := ⟨⟨by decide +kernel, by decide +kernel⟩, List.mem_of_getElem? (i := 1022) (by decide +kernel), List.mem_of_getElem? (i := 1298) (by decide +kernel), List.mem_of_getElem? (i := 1299) (by decide +kernel)⟩
theorem lw_p52 : lw_okq (⟨"LedgerTwiceModel", "shares", "(J)V"⟩, 49) := ⟨⟨by decide +kernel, by decide +kernel⟩, List.mem_of_getElem? (i := 1022) (by decide +kernel), List.mem_of_getElem? (i := 1311) (by decide +kernel), List.mem_of_getElem? (i := 1312) (by decide +kernel)⟩
theorem lw_p53 : lw_okq (⟨"LedgerTwiceModel", "isNext", "()Z"⟩, 49) := ⟨⟨by decide +kernel, by decide +kernel⟩, List.mem_of_getElem? (i := 1022) (by decide +kernel), List.mem_of_getElem? (i := 1335) (by decide +kernel), List.mem_of_getElem? (i := 1336) (by decide +kernel)⟩
theorem lw_p54 : lw_okq (⟨"LedgerTwiceModel", "isDone", "(I)Z"⟩, 49) := ⟨⟨by decide +kernel, by decide +kernel⟩, List.mem_of_getElem? (i := 1022) (by decide +kernel), List.mem_of_getElem? (i := 1339) (by decide +kernel), List.mem_of_getElem? (i := 1340) (by decide +kernel)⟩
theorem lw_p55 : lw_okq (⟨"LedgerTwiceModel", "whole", "()I"⟩, 49) := ⟨⟨by decide +kernel, by decide +kernel⟩, List.mem_of_getElem? (i := 1022) (by decide +kernel), List.mem_of_getElem? (i := 1343) (by decide +kernel), List.mem_of_getElem? (i := 1344) (by decide +kernel)⟩
theorem lw_p56 : lw_okq (⟨"LedgerTwiceModel", "number", "()J"⟩, 49) := ⟨⟨by decide +kernel, by decide +kernel⟩, List.mem_of_getElem? (i := 1022) (by decide +kernel), List.mem_of_getElem? (i := 1347) (by decide +kernel), List.mem_of_getElem? (i := 1348) (by decide +kernel)⟩
theorem lw_p57 : lw_okq (⟨"LedgerTwiceModel", "truth", "()Z"⟩, 49) := ⟨⟨by decide +kernel, by decide +kernel⟩, List.mem_of_getElem? (i := 1022) (by decide +kernel), List.mem_of_getElem? (i := 1353) (by decide +kernel), List.mem_of_getElem? (i := 1354) (by decide +kernel)⟩
theorem lw_p58 : lw_okq (⟨"LedgerTwiceModel", "isEnded", "()Z"⟩, 49) := ⟨⟨by decide +kernel, by decide +kernel⟩, List.mem_of_getElem? (i := 1022) (by decide +kernel), List.mem_of_getElem? (i := 1357) (by decide +kernel), List.mem_of_getElem? (i := 1358) (by decide +kernel)⟩
theorem lw_p59 : lw_okq (⟨"LedgerTwiceModel", "isPosted", "()Z"⟩, 49) := ⟨⟨by decide +kernel, by decide +kernel⟩, List.mem_of_getElem? (i := 1022) (by decide +kernel), List.mem_of_getElem? (i := 1365) (by decide +kernel), List.mem_of_getElem? (i := 1366) (by decide +kernel)⟩
theorem lw_p60 : lw_okq (⟨"LedgerTwiceModel", "balanceOf", "(I)J"⟩, 49) := ⟨⟨by decide +kernel, by decide +kernel⟩, List.mem_of_getElem? (i := 1022) (by decide +kernel), List.mem_of_getElem? (i := 1385) (by decide +kernel), List.mem_of_getElem? (i := 1386) (by decide +kernel)⟩
theorem lw_p61 : lw_okq (⟨"LedgerTwiceModel", "isUnder", "(II)Z"⟩, 49) := ⟨⟨by decide +kernel, by decide +kernel⟩, List.mem_of_getElem? (i := 1022) (by decide +kernel), List.mem_of_getElem? (i := 1389) (by decide +kernel), List.mem_of_getElem? (i := 1390) (by decide +kernel)⟩
theorem lw_p62 : lw_okq (⟨"LedgerTwiceModel", "row", "(I)V"⟩, 49) := ⟨⟨by decide +kernel, by decide +kernel⟩, List.mem_of_getElem? (i := 1022) (by decide +kernel), List.mem_of_getElem? (i := 1417) (by decide +kernel), List.mem_of_getElem? (i := 1418) (by decide +kernel)⟩
theorem lw_p63 : lw_okq (⟨"LedgerTwiceModel", "put", "(I)V"⟩, 49) := ⟨⟨by decide +kernel, by decide +kernel⟩, List.mem_of_getElem? (i := 1022) (by decide +kernel), List.mem_of_getElem? (i := 1421) (by decide +kernel), List.mem_of_getElem? (i := 1422) (by decide +kernel)⟩
def lw_privs_4 : List (MethodName × Nat) := [(⟨"LedgerTwiceModel", "enter", "(IIII)I"⟩, 49), (⟨"LedgerTwiceModel", "turned", "(I)V"⟩, 49), (⟨"LedgerTwiceModel", "nextCode", "(I)I"⟩, 49), (⟨"LedgerTwiceModel", "sumOf", "(III)J"⟩, 49), (⟨"LedgerTwiceModel", "shares", "(J)V"⟩, 49), (⟨"LedgerTwiceModel", "isNext", "()Z"⟩, 49), (⟨"LedgerTwiceModel", "isDone", "(I)Z"⟩, 49), (⟨"LedgerTwiceModel", "whole", "()I"⟩, 49), (⟨"LedgerTwiceModel", "number", "()J"⟩, 49), (⟨"LedgerTwiceModel", "truth", "()Z"⟩, 49), (⟨"LedgerTwiceModel", "isEnded", "()Z"⟩, 49), (⟨"LedgerTwiceModel", "isPosted", "()Z"⟩, 49), (⟨"LedgerTwiceModel", "balanceOf", "(I)J"⟩, 49), (⟨"LedgerTwiceModel", "isUnder", "(II)Z"⟩, 49), (⟨"LedgerTwiceModel", "row", "(I)V"⟩, 49), (⟨"LedgerTwiceModel", "put", "(I)V"⟩, 49)]
theorem lw_r4 : ∀ q ∈ lw_privs_4, lw_okq q := List.forall_mem_cons.mpr ⟨lw_p48, List.forall_mem_cons.mpr ⟨lw_p49, List.forall_mem_cons.mpr ⟨lw_p50, List.forall_mem_cons.mpr ⟨lw_p51, List.forall_mem_cons.mpr ⟨lw_p52, List.forall_mem_cons.mpr ⟨lw_p53, List.forall_mem_cons.mpr ⟨lw_p54, List.forall_mem_cons.mpr ⟨lw_p55, List.forall_mem_cons.mpr ⟨lw_p56, List.forall_mem_cons.mpr ⟨lw_p57, List.forall_mem_cons.mpr ⟨lw_p58, List.forall_mem_cons.mpr ⟨lw_p59, List.forall_mem_cons.mpr ⟨lw_p60, List.forall_mem_cons.mpr ⟨lw_p61, List.forall_mem_cons.mpr ⟨lw_p62, List.forall_mem_cons.mpr ⟨lw_p63, fun _ h => absurd h List.not_mem_nil⟩⟩⟩⟩⟩⟩⟩⟩⟩⟩⟩⟩⟩⟩⟩⟩
theorem lw_p64 : lw_okq (⟨"LedgerTwiceModel", "money", "(J)V"⟩, 49) := ⟨⟨by decide +kernel, by decide +kernel⟩, List.mem_of_getElem? (i := 1022) (by decide +kernel), List.mem_of_getElem? (i := 1425) (by decide +kernel), List.mem_of_getElem? (i := 1426) (by decide +kernel)⟩
theorem lw_p65 : lw_okq (⟨"LedgerTwiceModel", "tree", "()V"⟩, 49) := ⟨⟨by decide +kernel, by decide +kernel⟩, List.mem_of_getElem? (i := 1022) (by decide +kernel), List.mem_of_getElem? (i := 1430) (by decide +kernel), List.mem_of_getElem? (i := 1431) (by decide +kernel)⟩
theorem lw_p66 : lw_okq (⟨"LedgerTwiceModel", "total", "(II)V"⟩, 49) := ⟨⟨by decide +kernel, by decide +kernel⟩, List.mem_of_getElem? (i := 1022) (by decide +kernel), List.mem_of_getElem? (i := 1434) (by decide +kernel), List.mem_of_getElem? (i := 1435) (by decide +kernel)⟩
theorem lw_p67 : lw_okq (⟨"LedgerTwiceModel", "ofKind", "(I)J"⟩, 49) := ⟨⟨by decide +kernel, by decide +kernel⟩, List.mem_of_getElem? (i := 1022) (by decide +kernel), List.mem_of_getElem? (i := 1438) (by decide +kernel), List.mem_of_getElem? (i := 1439) (by decide +kernel)⟩
def lw_privs_5 : List (MethodName × Nat) := [(⟨"LedgerTwiceModel", "money", "(J)V"⟩, 49), (⟨"LedgerTwiceModel", "tree", "()V"⟩, 49), (⟨"LedgerTwiceModel", "total", "(II)V"⟩, 49), (⟨"LedgerTwiceModel", "ofKind", "(I)J"⟩, 49)]
theorem lw_r5 : ∀ q ∈ lw_privs_5, lw_okq q := List.forall_mem_cons.mpr ⟨lw_p64, List.forall_mem_cons.mpr ⟨lw_p65, List.forall_mem_cons.mpr ⟨lw_p66, List.forall_mem_cons.mpr ⟨lw_p67, fun _ h => absurd h List.not_mem_nil⟩⟩⟩⟩
def lw_privs : List (MethodName × Nat) := lw_privs_1 ++ (lw_privs_2 ++ (lw_privs_3 ++ (lw_privs_4 ++ (lw_privs_5))))
def lw_tbl : List Cond := k2_sels lw_privs ++ tables_1
theorem lw_privs_ok : ∀ q ∈ lw_privs, lw_okq q := by
  show ∀ q ∈ lw_privs_1 ++ (lw_privs_2 ++ (lw_privs_3 ++ (lw_privs_4 ++ (lw_privs_5)))), lw_okq q
  exact List.forall_mem_append.mpr ⟨lw_r1, List.forall_mem_append.mpr ⟨lw_r2, List.forall_mem_append.mpr ⟨lw_r3, List.forall_mem_append.mpr ⟨lw_r4, lw_r5⟩⟩⟩⟩

def RX0 : String := "LedgerTwice$Accounts"
def TX0 : u_T := fun k => match k with
  | 0 => ("LedgerTwice$Accounts", "codes", "LLedgerTwice$Ints;", true)
  | 1 => ("LedgerTwice$Accounts", "kinds", "LLedgerTwice$Ints;", true)
  | 2 => ("LedgerTwice$Accounts", "parents", "LLedgerTwice$Ints;", true)
  | 3 => ("LedgerTwice$Accounts", "depths", "LLedgerTwice$Ints;", true)
  | 4 => ("LedgerTwice$Accounts", "lineCounts", "LLedgerTwice$Ints;", true)
  | 5 => ("LedgerTwice$Accounts", "byCode", "LLedgerTwice$Ints;", true)
  | 6 => ("LedgerTwice$Accounts", "balances", "LLedgerTwice$Longs;", true)
  | 7 => ("LedgerTwice$Accounts", "groups", "LLedgerTwice$Ints;", true)
  | 8 => ("LedgerTwice$Accounts", "shuts", "LLedgerTwice$Ints;", true)
  | _ => ("LedgerTwice$Accounts", "size", "I", false)
def tyX0 : Nat → FieldType := fun k => match k with
  | 0 => .object "LedgerTwice$Ints"
  | 1 => .object "LedgerTwice$Ints"
  | 2 => .object "LedgerTwice$Ints"
  | 3 => .object "LedgerTwice$Ints"
  | 4 => .object "LedgerTwice$Ints"
  | 5 => .object "LedgerTwice$Ints"
  | 6 => .object "LedgerTwice$Longs"
  | 7 => .object "LedgerTwice$Ints"
  | 8 => .object "LedgerTwice$Ints"
  | _ => .int
theorem nmX0 : ∀ a, a < 10 → ∀ b, b < 10 → a ≠ b → (TX0 a).2.1 ≠ (TX0 b).2.1 := by decide +kernel
theorem tyX0_ok : ∀ k, k < 10 → parseFieldDescriptor (TX0 k).2.2.1 = some (tyX0 k) := by decide +kernel
abbrev cX0_init : ByteArray := prog_2_method_1_code
def yX0_init : MethodName := ⟨RX0, "<init>", "()V"⟩
abbrev cX0_clear : ByteArray := prog_2_method_2_code
def yX0_clear : MethodName := ⟨RX0, "clear", "()V"⟩
abbrev cX0_has : ByteArray := prog_2_method_3_code
def yX0_has : MethodName := ⟨RX0, "has", "(I)Z"⟩
abbrev cX0_isLeaf : ByteArray := prog_2_method_4_code
def yX0_isLeaf : MethodName := ⟨RX0, "isLeaf", "(I)Z"⟩
abbrev cX0_isShut : ByteArray := prog_2_method_5_code
def yX0_isShut : MethodName := ⟨RX0, "isShut", "(I)Z"⟩
abbrev cX0_setShut : ByteArray := prog_2_method_6_code
def yX0_setShut : MethodName := ⟨RX0, "setShut", "(IZ)V"⟩
abbrev cX0_takesChild : ByteArray := prog_2_method_7_code
def yX0_takesChild : MethodName := ⟨RX0, "takesChild", "(II)Z"⟩
abbrev cX0_hasCode : ByteArray := prog_2_method_8_code
def yX0_hasCode : MethodName := ⟨RX0, "hasCode", "(I)Z"⟩
abbrev cX0_add : ByteArray := prog_2_method_9_code
def yX0_add : MethodName := ⟨RX0, "add", "(IIIZ)I"⟩
abbrev cX0_putByCode : ByteArray := prog_2_method_10_code
def yX0_putByCode : MethodName := ⟨RX0, "putByCode", "(I)V"⟩
abbrev cX0_enterLine : ByteArray := prog_2_method_11_code
def yX0_enterLine : MethodName := ⟨RX0, "enterLine", "(IJ)V"⟩
abbrev cX0_totalUnder : ByteArray := prog_2_method_12_code
def yX0_totalUnder : MethodName := ⟨RX0, "totalUnder", "(ILLedgerTwice$Longs;)J"⟩
abbrev cX0_isUnder : ByteArray := prog_2_method_13_code
def yX0_isUnder : MethodName := ⟨RX0, "isUnder", "(II)Z"⟩
abbrev cX0_totalOfKind : ByteArray := prog_2_method_14_code
def yX0_totalOfKind : MethodName := ⟨RX0, "totalOfKind", "(I)J"⟩
abbrev cX0_told : ByteArray := prog_2_method_15_code
def yX0_told : MethodName := ⟨RX0, "told", "(II)I"⟩
def RX1 : String := "LedgerTwice$Books"
def TX1 : u_T := fun k => match k with
  | 0 => ("LedgerTwice$Books", "accounts", "LLedgerTwice$Accounts;", true)
  | 1 => ("LedgerTwice$Books", "periods", "LLedgerTwice$Periods;", true)
  | 2 => ("LedgerTwice$Books", "entries", "LLedgerTwice$Entries;", true)
  | 3 => ("LedgerTwice$Books", "owner", "I", false)
  | _ => ("LedgerTwice$Books", "tally", "LLedgerTwice$Longs;", true)
def tyX1 : Nat → FieldType := fun k => match k with
  | 0 => .object "LedgerTwice$Accounts"
  | 1 => .object "LedgerTwice$Periods"
  | 2 => .object "LedgerTwice$Entries"
  | 3 => .int
  | _ => .object "LedgerTwice$Longs"
theorem nmX1 : ∀ a, a < 5 → ∀ b, b < 5 → a ≠ b → (TX1 a).2.1 ≠ (TX1 b).2.1 := by decide +kernel
theorem tyX1_ok : ∀ k, k < 5 → parseFieldDescriptor (TX1 k).2.2.1 = some (tyX1 k) := by decide +kernel
abbrev cX1_init : ByteArray := prog_3_method_1_code
def yX1_init : MethodName := ⟨RX1, "<init>", "()V"⟩
abbrev cX1_clear : ByteArray := prog_3_method_2_code
def yX1_clear : MethodName := ⟨RX1, "clear", "()V"⟩
abbrev cX1_refusesAccount : ByteArray := prog_3_method_3_code
def yX1_refusesAccount : MethodName := ⟨RX1, "refusesAccount", "(III)I"⟩
abbrev cX1_refusesShut : ByteArray := prog_3_method_4_code
def yX1_refusesShut : MethodName := ⟨RX1, "refusesShut", "(IZ)I"⟩
abbrev cX1_refusesPeriod : ByteArray := prog_3_method_5_code
def yX1_refusesPeriod : MethodName := ⟨RX1, "refusesPeriod", "(I)I"⟩
abbrev cX1_refusesOwner : ByteArray := prog_3_method_6_code
def yX1_refusesOwner : MethodName := ⟨RX1, "refusesOwner", "(I)I"⟩
abbrev cX1_changeOwner : ByteArray := prog_3_method_7_code
def yX1_changeOwner : MethodName := ⟨RX1, "changeOwner", "(I)I"⟩
abbrev cX1_refusesLine : ByteArray := prog_3_method_8_code
def yX1_refusesLine : MethodName := ⟨RX1, "refusesLine", "(IJ)I"⟩
abbrev cX1_judge : ByteArray := prog_3_method_9_code
def yX1_judge : MethodName := ⟨RX1, "judge", "(LLedgerTwice$Lines;I)I"⟩
abbrev cX1_refusesUnjudged : ByteArray := prog_3_method_10_code
def yX1_refusesUnjudged : MethodName := ⟨RX1, "refusesUnjudged", "(LLedgerTwice$Lines;)I"⟩
abbrev cX1_hasShut : ByteArray := prog_3_method_11_code
def yX1_hasShut : MethodName := ⟨RX1, "hasShut", "(LLedgerTwice$Lines;)Z"⟩
abbrev cX1_goesOver : ByteArray := prog_3_method_12_code
def yX1_goesOver : MethodName := ⟨RX1, "goesOver", "(LLedgerTwice$Lines;)Z"⟩
abbrev cX1_enter : ByteArray := prog_3_method_13_code
def yX1_enter : MethodName := ⟨RX1, "enter", "(LLedgerTwice$Lines;IIII)I"⟩
abbrev cX1_refusesBack : ByteArray := prog_3_method_14_code
def yX1_refusesBack : MethodName := ⟨RX1, "refusesBack", "(IILLedgerTwice$Lines;)I"⟩
abbrev cX1_turnBack : ByteArray := prog_3_method_15_code
def yX1_turnBack : MethodName := ⟨RX1, "turnBack", "(IILLedgerTwice$Lines;)I"⟩
abbrev cX1_refusesClose : ByteArray := prog_3_method_16_code
def yX1_refusesClose : MethodName := ⟨RX1, "refusesClose", "(LLedgerTwice$Lines;)I"⟩
abbrev cX1_fillClosing : ByteArray := prog_3_method_17_code
def yX1_fillClosing : MethodName := ⟨RX1, "fillClosing", "(ILLedgerTwice$Lines;)V"⟩
abbrev cX1_isClosedOut : ByteArray := prog_3_method_18_code
def yX1_isClosedOut : MethodName := ⟨RX1, "isClosedOut", "(I)Z"⟩
abbrev cX1_closePeriod : ByteArray := prog_3_method_19_code
def yX1_closePeriod : MethodName := ⟨RX1, "closePeriod", "(LLedgerTwice$Lines;)I"⟩
abbrev cX1_refusesReopen : ByteArray := prog_3_method_20_code
def yX1_refusesReopen : MethodName := ⟨RX1, "refusesReopen", "(LLedgerTwice$Lines;)I"⟩
abbrev cX1_reopenPeriod : ByteArray := prog_3_method_21_code
def yX1_reopenPeriod : MethodName := ⟨RX1, "reopenPeriod", "(LLedgerTwice$Lines;)I"⟩
abbrev cX1_sumInDays : ByteArray := prog_3_method_22_code
def yX1_sumInDays : MethodName := ⟨RX1, "sumInDays", "(III)J"⟩
def RX2 : String := "LedgerTwice$Entries"
def TX2 : u_T := fun k => match k with
  | 0 => ("LedgerTwice$Entries", "days", "LLedgerTwice$Ints;", true)
  | 1 => ("LedgerTwice$Entries", "tags", "LLedgerTwice$Ints;", true)
  | 2 => ("LedgerTwice$Entries", "sorts", "LLedgerTwice$Ints;", true)
  | 3 => ("LedgerTwice$Entries", "lineCounts", "LLedgerTwice$Ints;", true)
  | 4 => ("LedgerTwice$Entries", "backs", "LLedgerTwice$Ints;", true)
  | 5 => ("LedgerTwice$Entries", "sources", "LLedgerTwice$Ints;", true)
  | 6 => ("LedgerTwice$Entries", "firstLines", "LLedgerTwice$Ints;", true)
  | 7 => ("LedgerTwice$Entries", "lineAccounts", "LLedgerTwice$Ints;", true)
  | 8 => ("LedgerTwice$Entries", "lineAmounts", "LLedgerTwice$Longs;", true)
  | 9 => ("LedgerTwice$Entries", "size", "I", false)
  | _ => ("LedgerTwice$Entries", "allLines", "I", false)
def tyX2 : Nat → FieldType := fun k => match k with
  | 0 => .object "LedgerTwice$Ints"
  | 1 => .object "LedgerTwice$Ints"
  | 2 => .object "LedgerTwice$Ints"
  | 3 => .object "LedgerTwice$Ints"
  | 4 => .object "LedgerTwice$Ints"
  | 5 => .object "LedgerTwice$Ints"
  | 6 => .object "LedgerTwice$Ints"
  | 7 => .object "LedgerTwice$Ints"
  | 8 => .object "LedgerTwice$Longs"
  | 9 => .int
  | _ => .int
theorem nmX2 : ∀ a, a < 11 → ∀ b, b < 11 → a ≠ b → (TX2 a).2.1 ≠ (TX2 b).2.1 := by decide +kernel
theorem tyX2_ok : ∀ k, k < 11 → parseFieldDescriptor (TX2 k).2.2.1 = some (tyX2 k) := by decide +kernel
abbrev cX2_init : ByteArray := prog_4_method_1_code
def yX2_init : MethodName := ⟨RX2, "<init>", "()V"⟩
abbrev cX2_clear : ByteArray := prog_4_method_2_code
def yX2_clear : MethodName := ⟨RX2, "clear", "()V"⟩
abbrev cX2_has : ByteArray := prog_4_method_3_code
def yX2_has : MethodName := ⟨RX2, "has", "(I)Z"⟩
abbrev cX2_add : ByteArray := prog_4_method_4_code
def yX2_add : MethodName := ⟨RX2, "add", "(LLedgerTwice$Lines;IIII)I"⟩
abbrev cX2_accountOf : ByteArray := prog_4_method_5_code
def yX2_accountOf : MethodName := ⟨RX2, "accountOf", "(II)I"⟩
abbrev cX2_amountOf : ByteArray := prog_4_method_6_code
def yX2_amountOf : MethodName := ⟨RX2, "amountOf", "(II)J"⟩
abbrev cX2_turn : ByteArray := prog_4_method_7_code
def yX2_turn : MethodName := ⟨RX2, "turn", "(ILLedgerTwice$Lines;)V"⟩
abbrev cX2_gather : ByteArray := prog_4_method_8_code
def yX2_gather : MethodName := ⟨RX2, "gather", "(IILLedgerTwice$Longs;)V"⟩
abbrev cX2_ledgerLine : ByteArray := prog_4_method_9_code
def yX2_ledgerLine : MethodName := ⟨RX2, "ledgerLine", "(III)J"⟩
abbrev cX2_toldOfLedger : ByteArray := prog_4_method_10_code
def yX2_toldOfLedger : MethodName := ⟨RX2, "toldOfLedger", "(IJJI)J"⟩
abbrev cX2_told : ByteArray := prog_4_method_11_code
def yX2_told : MethodName := ⟨RX2, "told", "(II)I"⟩
def RX3 : String := "LedgerTwice$Ints"
def TX3 : u_T := fun k => match k with
  | 0 => ("LedgerTwice$Ints", "limit", "I", true)
  | _ => ("LedgerTwice$Ints", "cells", "[I", false)
def tyX3 : Nat → FieldType := fun k => match k with
  | 0 => .int
  | _ => .array .int
theorem nmX3 : ∀ a, a < 2 → ∀ b, b < 2 → a ≠ b → (TX3 a).2.1 ≠ (TX3 b).2.1 := by decide +kernel
theorem tyX3_ok : ∀ k, k < 2 → parseFieldDescriptor (TX3 k).2.2.1 = some (tyX3 k) := by decide +kernel
abbrev cX3_init : ByteArray := prog_5_method_1_code
def yX3_init : MethodName := ⟨RX3, "<init>", "(I)V"⟩
abbrev cX3_at : ByteArray := prog_5_method_2_code
def yX3_at : MethodName := ⟨RX3, "at", "(I)I"⟩
abbrev cX3_put : ByteArray := prog_5_method_3_code
def yX3_put : MethodName := ⟨RX3, "put", "(II)V"⟩
def RX4 : String := "LedgerTwice$Journal"
def TX4 : u_T := fun k => match k with
  | 0 => ("LedgerTwice$Journal", "bytes", "LLedgerTwice$Ints;", true)
  | 1 => ("LedgerTwice$Journal", "body", "LLedgerTwice$Ints;", true)
  | 2 => ("LedgerTwice$Journal", "bodySize", "I", false)
  | 3 => ("LedgerTwice$Journal", "sort", "I", false)
  | 4 => ("LedgerTwice$Journal", "size", "I", false)
  | 5 => ("LedgerTwice$Journal", "durable", "I", false)
  | _ => ("LedgerTwice$Journal", "records", "I", false)
def tyX4 : Nat → FieldType := fun k => match k with
  | 0 => .object "LedgerTwice$Ints"
  | 1 => .object "LedgerTwice$Ints"
  | 2 => .int
  | 3 => .int
  | 4 => .int
  | 5 => .int
  | _ => .int
theorem nmX4 : ∀ a, a < 7 → ∀ b, b < 7 → a ≠ b → (TX4 a).2.1 ≠ (TX4 b).2.1 := by decide +kernel
theorem tyX4_ok : ∀ k, k < 7 → parseFieldDescriptor (TX4 k).2.2.1 = some (tyX4 k) := by decide +kernel
abbrev cX4_init : ByteArray := prog_6_method_1_code
def yX4_init : MethodName := ⟨RX4, "<init>", "()V"⟩
abbrev cX4_begin : ByteArray := prog_6_method_2_code
def yX4_begin : MethodName := ⟨RX4, "begin", "(I)V"⟩
abbrev cX4_number : ByteArray := prog_6_method_3_code
def yX4_number : MethodName := ⟨RX4, "number", "(J)V"⟩
abbrev cX4_write : ByteArray := prog_6_method_4_code
def yX4_write : MethodName := ⟨RX4, "write", "()Z"⟩
abbrev cX4_put : ByteArray := prog_6_method_5_code
def yX4_put : MethodName := ⟨RX4, "put", "(I)V"⟩
abbrev cX4_checkOf : ByteArray := prog_6_method_6_code
def yX4_checkOf : MethodName := ⟨RX4, "checkOf", "(II)I"⟩
abbrev cX4_recordAt : ByteArray := prog_6_method_7_code
def yX4_recordAt : MethodName := ⟨RX4, "recordAt", "(I)I"⟩
abbrev cX4_makeDurable : ByteArray := prog_6_method_8_code
def yX4_makeDurable : MethodName := ⟨RX4, "makeDurable", "()I"⟩
abbrev cX4_tear : ByteArray := prog_6_method_9_code
def yX4_tear : MethodName := ⟨RX4, "tear", "(II)V"⟩
abbrev cX4_cut : ByteArray := prog_6_method_10_code
def yX4_cut : MethodName := ⟨RX4, "cut", "(II)V"⟩
def RX5 : String := "LedgerTwice$Lines"
def TX5 : u_T := fun k => match k with
  | 0 => ("LedgerTwice$Lines", "accounts", "LLedgerTwice$Ints;", true)
  | 1 => ("LedgerTwice$Lines", "amounts", "LLedgerTwice$Longs;", true)
  | _ => ("LedgerTwice$Lines", "size", "I", false)
def tyX5 : Nat → FieldType := fun k => match k with
  | 0 => .object "LedgerTwice$Ints"
  | 1 => .object "LedgerTwice$Longs"
  | _ => .int
theorem nmX5 : ∀ a, a < 3 → ∀ b, b < 3 → a ≠ b → (TX5 a).2.1 ≠ (TX5 b).2.1 := by decide +kernel
theorem tyX5_ok : ∀ k, k < 3 → parseFieldDescriptor (TX5 k).2.2.1 = some (tyX5 k) := by decide +kernel
abbrev cX5_init : ByteArray := prog_7_method_1_code
def yX5_init : MethodName := ⟨RX5, "<init>", "(I)V"⟩
abbrev cX5_clear : ByteArray := prog_7_method_2_code
def yX5_clear : MethodName := ⟨RX5, "clear", "()V"⟩
abbrev cX5_add : ByteArray := prog_7_method_3_code
def yX5_add : MethodName := ⟨RX5, "add", "(IJ)V"⟩
abbrev cX5_total : ByteArray := prog_7_method_4_code
def yX5_total : MethodName := ⟨RX5, "total", "()J"⟩
def RX6 : String := "LedgerTwice$Longs"
def TX6 : u_T := fun k => match k with
  | 0 => ("LedgerTwice$Longs", "limit", "I", true)
  | _ => ("LedgerTwice$Longs", "cells", "[J", false)
def tyX6 : Nat → FieldType := fun k => match k with
  | 0 => .int
  | _ => .array .long
theorem nmX6 : ∀ a, a < 2 → ∀ b, b < 2 → a ≠ b → (TX6 a).2.1 ≠ (TX6 b).2.1 := by decide +kernel
theorem tyX6_ok : ∀ k, k < 2 → parseFieldDescriptor (TX6 k).2.2.1 = some (tyX6 k) := by decide +kernel
abbrev cX6_init : ByteArray := prog_8_method_1_code
def yX6_init : MethodName := ⟨RX6, "<init>", "(I)V"⟩
abbrev cX6_at : ByteArray := prog_8_method_2_code
def yX6_at : MethodName := ⟨RX6, "at", "(I)J"⟩
abbrev cX6_put : ByteArray := prog_8_method_3_code
def yX6_put : MethodName := ⟨RX6, "put", "(IJ)V"⟩
abbrev cX6_clear : ByteArray := prog_8_method_4_code
def yX6_clear : MethodName := ⟨RX6, "clear", "()V"⟩
def RX7 : String := "LedgerTwice$Periods"
def TX7 : u_T := fun k => match k with
  | 0 => ("LedgerTwice$Periods", "lastDays", "LLedgerTwice$Ints;", true)
  | 1 => ("LedgerTwice$Periods", "closings", "LLedgerTwice$Ints;", true)
  | 2 => ("LedgerTwice$Periods", "size", "I", false)
  | _ => ("LedgerTwice$Periods", "closed", "I", false)
def tyX7 : Nat → FieldType := fun k => match k with
  | 0 => .object "LedgerTwice$Ints"
  | 1 => .object "LedgerTwice$Ints"
  | 2 => .int
  | _ => .int
theorem nmX7 : ∀ a, a < 4 → ∀ b, b < 4 → a ≠ b → (TX7 a).2.1 ≠ (TX7 b).2.1 := by decide +kernel
theorem tyX7_ok : ∀ k, k < 4 → parseFieldDescriptor (TX7 k).2.2.1 = some (tyX7 k) := by decide +kernel
abbrev cX7_init : ByteArray := prog_9_method_1_code
def yX7_init : MethodName := ⟨RX7, "<init>", "()V"⟩
abbrev cX7_clear : ByteArray := prog_9_method_2_code
def yX7_clear : MethodName := ⟨RX7, "clear", "()V"⟩
abbrev cX7_has : ByteArray := prog_9_method_3_code
def yX7_has : MethodName := ⟨RX7, "has", "(I)Z"⟩
abbrev cX7_add : ByteArray := prog_9_method_4_code
def yX7_add : MethodName := ⟨RX7, "add", "(I)I"⟩
abbrev cX7_firstDay : ByteArray := prog_9_method_5_code
def yX7_firstDay : MethodName := ⟨RX7, "firstDay", "(I)I"⟩
abbrev cX7_lastDay : ByteArray := prog_9_method_6_code
def yX7_lastDay : MethodName := ⟨RX7, "lastDay", "(I)I"⟩
abbrev cX7_firstFreeDay : ByteArray := prog_9_method_7_code
def yX7_firstFreeDay : MethodName := ⟨RX7, "firstFreeDay", "()I"⟩
abbrev cX7_withDay : ByteArray := prog_9_method_8_code
def yX7_withDay : MethodName := ⟨RX7, "withDay", "(I)I"⟩
abbrev cX7_closingOf : ByteArray := prog_9_method_9_code
def yX7_closingOf : MethodName := ⟨RX7, "closingOf", "(I)I"⟩
abbrev cX7_closeFirstOpen : ByteArray := prog_9_method_10_code
def yX7_closeFirstOpen : MethodName := ⟨RX7, "closeFirstOpen", "(I)V"⟩
abbrev cX7_openLastClosed : ByteArray := prog_9_method_11_code
def yX7_openLastClosed : MethodName := ⟨RX7, "openLastClosed", "()V"⟩
abbrev cX7_told : ByteArray := prog_9_method_12_code
def yX7_told : MethodName := ⟨RX7, "told", "(II)I"⟩
def RX8 : String := "LedgerTwice$Recovery"
def TX8 : u_T := fun k => match k with
  | 0 => ("LedgerTwice$Recovery", "journal", "LLedgerTwice$Journal;", true)
  | 1 => ("LedgerTwice$Recovery", "books", "LLedgerTwice$Books;", true)
  | 2 => ("LedgerTwice$Recovery", "lines", "LLedgerTwice$Lines;", true)
  | 3 => ("LedgerTwice$Recovery", "at", "I", false)
  | 4 => ("LedgerTwice$Recovery", "end", "I", false)
  | _ => ("LedgerTwice$Recovery", "faulty", "Z", false)
def tyX8 : Nat → FieldType := fun k => match k with
  | 0 => .object "LedgerTwice$Journal"
  | 1 => .object "LedgerTwice$Books"
  | 2 => .object "LedgerTwice$Lines"
  | 3 => .int
  | 4 => .int
  | _ => .boolean
theorem nmX8 : ∀ a, a < 6 → ∀ b, b < 6 → a ≠ b → (TX8 a).2.1 ≠ (TX8 b).2.1 := by decide +kernel
theorem tyX8_ok : ∀ k, k < 6 → parseFieldDescriptor (TX8 k).2.2.1 = some (tyX8 k) := by decide +kernel
abbrev cX8_init : ByteArray := prog_10_method_1_code
def yX8_init : MethodName := ⟨RX8, "<init>", "(LLedgerTwice$Journal;LLedgerTwice$Books;)V"⟩
abbrev cX8_redo : ByteArray := prog_10_method_2_code
def yX8_redo : MethodName := ⟨RX8, "redo", "(II)Z"⟩
abbrev cX8_redoAccount : ByteArray := prog_10_method_3_code
def yX8_redoAccount : MethodName := ⟨RX8, "redoAccount", "()Z"⟩
abbrev cX8_redoShut : ByteArray := prog_10_method_4_code
def yX8_redoShut : MethodName := ⟨RX8, "redoShut", "()Z"⟩
abbrev cX8_redoPeriod : ByteArray := prog_10_method_5_code
def yX8_redoPeriod : MethodName := ⟨RX8, "redoPeriod", "()Z"⟩
abbrev cX8_redoOwner : ByteArray := prog_10_method_6_code
def yX8_redoOwner : MethodName := ⟨RX8, "redoOwner", "()Z"⟩
abbrev cX8_redoPost : ByteArray := prog_10_method_7_code
def yX8_redoPost : MethodName := ⟨RX8, "redoPost", "()Z"⟩
abbrev cX8_readLines : ByteArray := prog_10_method_8_code
def yX8_readLines : MethodName := ⟨RX8, "readLines", "()Z"⟩
abbrev cX8_redoBack : ByteArray := prog_10_method_9_code
def yX8_redoBack : MethodName := ⟨RX8, "redoBack", "()Z"⟩
abbrev cX8_redoClose : ByteArray := prog_10_method_10_code
def yX8_redoClose : MethodName := ⟨RX8, "redoClose", "()Z"⟩
abbrev cX8_redoReopen : ByteArray := prog_10_method_11_code
def yX8_redoReopen : MethodName := ⟨RX8, "redoReopen", "()Z"⟩
abbrev cX8_isReadWhole : ByteArray := prog_10_method_12_code
def yX8_isReadWhole : MethodName := ⟨RX8, "isReadWhole", "()Z"⟩
abbrev cX8_nextFlag : ByteArray := prog_10_method_13_code
def yX8_nextFlag : MethodName := ⟨RX8, "nextFlag", "()Z"⟩
abbrev cX8_nextInt : ByteArray := prog_10_method_14_code
def yX8_nextInt : MethodName := ⟨RX8, "nextInt", "()I"⟩
abbrev cX8_nextNumber : ByteArray := prog_10_method_15_code
def yX8_nextNumber : MethodName := ⟨RX8, "nextNumber", "()J"⟩
def RX9 : String := "LedgerTwice$Shares"
def TX9 : u_T := fun k => match k with
  | 0 => ("LedgerTwice$Shares", "parts", "LLedgerTwice$Longs;", true)
  | 1 => ("LedgerTwice$Shares", "weights", "LLedgerTwice$Ints;", true)
  | 2 => ("LedgerTwice$Shares", "remainders", "LLedgerTwice$Longs;", true)
  | _ => ("LedgerTwice$Shares", "size", "I", false)
def tyX9 : Nat → FieldType := fun k => match k with
  | 0 => .object "LedgerTwice$Longs"
  | 1 => .object "LedgerTwice$Ints"
  | 2 => .object "LedgerTwice$Longs"
  | _ => .int
theorem nmX9 : ∀ a, a < 4 → ∀ b, b < 4 → a ≠ b → (TX9 a).2.1 ≠ (TX9 b).2.1 := by decide +kernel
theorem tyX9_ok : ∀ k, k < 4 → parseFieldDescriptor (TX9 k).2.2.1 = some (tyX9 k) := by decide +kernel
abbrev cX9_init : ByteArray := prog_11_method_1_code
def yX9_init : MethodName := ⟨RX9, "<init>", "()V"⟩
abbrev cX9_clear : ByteArray := prog_11_method_2_code
def yX9_clear : MethodName := ⟨RX9, "clear", "()V"⟩
abbrev cX9_add : ByteArray := prog_11_method_3_code
def yX9_add : MethodName := ⟨RX9, "add", "(I)V"⟩
abbrev cX9_divide : ByteArray := prog_11_method_4_code
def yX9_divide : MethodName := ⟨RX9, "divide", "(J)Z"⟩
abbrev cX9_giveRest : ByteArray := prog_11_method_5_code
def yX9_giveRest : MethodName := ⟨RX9, "giveRest", "(J)V"⟩
abbrev cX9_withGreatestRemainder : ByteArray := prog_11_method_6_code
def yX9_withGreatestRemainder : MethodName := ⟨RX9, "withGreatestRemainder", "()I"⟩
def RX10 : String := "LedgerTwice$Sheet"
def TX10 : u_T := fun k => match k with
  | 0 => ("LedgerTwice$Sheet", "bytes", "LLedgerTwice$Ints;", true)
  | 1 => ("LedgerTwice$Sheet", "accounts", "LLedgerTwice$Accounts;", true)
  | 2 => ("LedgerTwice$Sheet", "figures", "LLedgerTwice$Ints;", true)
  | _ => ("LedgerTwice$Sheet", "size", "I", false)
def tyX10 : Nat → FieldType := fun k => match k with
  | 0 => .object "LedgerTwice$Ints"
  | 1 => .object "LedgerTwice$Accounts"
  | 2 => .object "LedgerTwice$Ints"
  | _ => .int
theorem nmX10 : ∀ a, a < 4 → ∀ b, b < 4 → a ≠ b → (TX10 a).2.1 ≠ (TX10 b).2.1 := by decide +kernel
theorem tyX10_ok : ∀ k, k < 4 → parseFieldDescriptor (TX10 k).2.2.1 = some (tyX10 k) := by decide +kernel
abbrev cX10_init : ByteArray := prog_12_method_1_code
def yX10_init : MethodName := ⟨RX10, "<init>", "(LLedgerTwice$Accounts;)V"⟩
abbrev cX10_clear : ByteArray := prog_12_method_2_code
def yX10_clear : MethodName := ⟨RX10, "clear", "()V"⟩
abbrev cX10_write : ByteArray := prog_12_method_3_code
def yX10_write : MethodName := ⟨RX10, "write", "(I)Z"⟩
abbrev cX10_writeLeaves : ByteArray := prog_12_method_4_code
def yX10_writeLeaves : MethodName := ⟨RX10, "writeLeaves", "()V"⟩
abbrev cX10_writeUnder : ByteArray := prog_12_method_5_code
def yX10_writeUnder : MethodName := ⟨RX10, "writeUnder", "(LLedgerTwice$Sheet;III)V"⟩
abbrev cX10_writeKinds : ByteArray := prog_12_method_6_code
def yX10_writeKinds : MethodName := ⟨RX10, "writeKinds", "()V"⟩
abbrev cX10_writeTotal : ByteArray := prog_12_method_7_code
def yX10_writeTotal : MethodName := ⟨RX10, "writeTotal", "(CJ)V"⟩
abbrev cX10_writeRow : ByteArray := prog_12_method_8_code
def yX10_writeRow : MethodName := ⟨RX10, "writeRow", "(I)V"⟩
abbrev cX10_putMoney : ByteArray := prog_12_method_9_code
def yX10_putMoney : MethodName := ⟨RX10, "putMoney", "(J)V"⟩
abbrev cX10_put : ByteArray := prog_12_method_10_code
def yX10_put : MethodName := ⟨RX10, "put", "(I)V"⟩
def RX11 : String := "LedgerTwice"
def TX11 : u_T := fun k => match k with
  | 0 => ("LedgerTwice", "books", "LLedgerTwice$Books;", true)
  | 1 => ("LedgerTwice", "journal", "LLedgerTwice$Journal;", true)
  | 2 => ("LedgerTwice", "recovery", "LLedgerTwice$Recovery;", true)
  | 3 => ("LedgerTwice", "draft", "LLedgerTwice$Lines;", true)
  | 4 => ("LedgerTwice", "work", "LLedgerTwice$Lines;", true)
  | 5 => ("LedgerTwice", "shares", "LLedgerTwice$Shares;", true)
  | 6 => ("LedgerTwice", "paper", "LLedgerTwice$Sheet;", true)
  | _ => ("LedgerTwice", "up", "Z", false)
def tyX11 : Nat → FieldType := fun k => match k with
  | 0 => .object "LedgerTwice$Books"
  | 1 => .object "LedgerTwice$Journal"
  | 2 => .object "LedgerTwice$Recovery"
  | 3 => .object "LedgerTwice$Lines"
  | 4 => .object "LedgerTwice$Lines"
  | 5 => .object "LedgerTwice$Shares"
  | 6 => .object "LedgerTwice$Sheet"
  | _ => .boolean
theorem nmX11 : ∀ a, a < 8 → ∀ b, b < 8 → a ≠ b → (TX11 a).2.1 ≠ (TX11 b).2.1 := by decide +kernel
theorem tyX11_ok : ∀ k, k < 8 → parseFieldDescriptor (TX11 k).2.2.1 = some (tyX11 k) := by decide +kernel
abbrev cX11_init : ByteArray := prog_1_method_1_code
def yX11_init : MethodName := ⟨RX11, "<init>", "()V"⟩
abbrev cX11_account : ByteArray := prog_1_method_2_code
def yX11_account : MethodName := ⟨RX11, "account", "(IIIZ)I"⟩
abbrev cX11_shut : ByteArray := prog_1_method_3_code
def yX11_shut : MethodName := ⟨RX11, "shut", "(IZ)I"⟩
abbrev cX11_period : ByteArray := prog_1_method_4_code
def yX11_period : MethodName := ⟨RX11, "period", "(I)I"⟩
abbrev cX11_owner : ByteArray := prog_1_method_5_code
def yX11_owner : MethodName := ⟨RX11, "owner", "(I)I"⟩
abbrev cX11_line : ByteArray := prog_1_method_6_code
def yX11_line : MethodName := ⟨RX11, "line", "(IJ)I"⟩
abbrev cX11_drop : ByteArray := prog_1_method_7_code
def yX11_drop : MethodName := ⟨RX11, "drop", "()I"⟩
abbrev cX11_post : ByteArray := prog_1_method_8_code
def yX11_post : MethodName := ⟨RX11, "post", "(II)I"⟩
abbrev cX11_back : ByteArray := prog_1_method_9_code
def yX11_back : MethodName := ⟨RX11, "back", "(II)I"⟩
abbrev cX11_close : ByteArray := prog_1_method_10_code
def yX11_close : MethodName := ⟨RX11, "close", "()I"⟩
abbrev cX11_reopen : ByteArray := prog_1_method_11_code
def yX11_reopen : MethodName := ⟨RX11, "reopen", "()I"⟩
abbrev cX11_share : ByteArray := prog_1_method_12_code
def yX11_share : MethodName := ⟨RX11, "share", "(IJII)I"⟩
abbrev cX11_sync : ByteArray := prog_1_method_13_code
def yX11_sync : MethodName := ⟨RX11, "sync", "()I"⟩
abbrev cX11_crash : ByteArray := prog_1_method_14_code
def yX11_crash : MethodName := ⟨RX11, "crash", "(II)I"⟩
abbrev cX11_recover : ByteArray := prog_1_method_15_code
def yX11_recover : MethodName := ⟨RX11, "recover", "()I"⟩
abbrev cX11_byteAt : ByteArray := prog_1_method_16_code
def yX11_byteAt : MethodName := ⟨RX11, "byteAt", "(I)I"⟩
abbrev cX11_of : ByteArray := prog_1_method_17_code
def yX11_of : MethodName := ⟨RX11, "of", "(II)I"⟩
abbrev cX11_balance : ByteArray := prog_1_method_18_code
def yX11_balance : MethodName := ⟨RX11, "balance", "(I)J"⟩
abbrev cX11_sum : ByteArray := prog_1_method_19_code
def yX11_sum : MethodName := ⟨RX11, "sum", "(III)J"⟩
abbrev cX11_entry : ByteArray := prog_1_method_20_code
def yX11_entry : MethodName := ⟨RX11, "entry", "(II)I"⟩
abbrev cX11_lineOf : ByteArray := prog_1_method_21_code
def yX11_lineOf : MethodName := ⟨RX11, "lineOf", "(III)J"⟩
abbrev cX11_ledger : ByteArray := prog_1_method_22_code
def yX11_ledger : MethodName := ⟨RX11, "ledger", "(III)J"⟩
abbrev cX11_periodOf : ByteArray := prog_1_method_23_code
def yX11_periodOf : MethodName := ⟨RX11, "periodOf", "(II)I"⟩
abbrev cX11_sheet : ByteArray := prog_1_method_24_code
def yX11_sheet : MethodName := ⟨RX11, "sheet", "(I)I"⟩
abbrev cX11_shown : ByteArray := prog_1_method_25_code
def yX11_shown : MethodName := ⟨RX11, "shown", "(I)I"⟩
abbrev cX11_part : ByteArray := prog_1_method_26_code
def yX11_part : MethodName := ⟨RX11, "part", "(JIIIII)J"⟩
abbrev cX11_count : ByteArray := prog_1_method_27_code
def yX11_count : MethodName := ⟨RX11, "count", "(I)I"⟩
abbrev cX11_countOfBooks : ByteArray := prog_1_method_28_code
def yX11_countOfBooks : MethodName := ⟨RX11, "countOfBooks", "(I)I"⟩
abbrev cX11_writePlain : ByteArray := prog_1_method_29_code
def yX11_writePlain : MethodName := ⟨RX11, "writePlain", "(LLedgerTwice$Lines;II)I"⟩
abbrev cX11_refusesShare : ByteArray := prog_1_method_30_code
def yX11_refusesShare : MethodName := ⟨RX11, "refusesShare", "(IJ)I"⟩
abbrev cX11_shareOut : ByteArray := prog_1_method_31_code
def yX11_shareOut : MethodName := ⟨RX11, "shareOut", "(IJ)V"⟩
abbrev cX11_areWeights : ByteArray := prog_1_method_32_code
def yX11_areWeights : MethodName := ⟨RX11, "areWeights", "(LLedgerTwice$Lines;)Z"⟩
abbrev cX11_isPartWeight : ByteArray := prog_1_method_33_code
def yX11_isPartWeight : MethodName := ⟨RX11, "isPartWeight", "(I)Z"⟩
abbrev cX11_isAmount : ByteArray := prog_1_method_34_code
def yX11_isAmount : MethodName := ⟨RX11, "isAmount", "(J)Z"⟩
abbrev cX11_isWithin : ByteArray := prog_1_method_35_code
def yX11_isWithin : MethodName := ⟨RX11, "isWithin", "(JJ)Z"⟩
def RX12 : String := "LedgerTwiceModel"
def TX12 : u_T := fun k => match k with
  | 0 => ("LedgerTwiceModel", "isUp", "Z", false)
  | 1 => ("LedgerTwiceModel", "isReplay", "Z", false)
  | 2 => ("LedgerTwiceModel", "accounts", "I", false)
  | 3 => ("LedgerTwiceModel", "code", "[I", true)
  | 4 => ("LedgerTwiceModel", "kind", "[I", true)
  | 5 => ("LedgerTwiceModel", "parent", "[I", true)
  | 6 => ("LedgerTwiceModel", "isGroup", "[Z", true)
  | 7 => ("LedgerTwiceModel", "depth", "[I", true)
  | 8 => ("LedgerTwiceModel", "isShut", "[Z", true)
  | 9 => ("LedgerTwiceModel", "balance", "[J", true)
  | 10 => ("LedgerTwiceModel", "owner", "I", false)
  | 11 => ("LedgerTwiceModel", "periods", "I", false)
  | 12 => ("LedgerTwiceModel", "closed", "I", false)
  | 13 => ("LedgerTwiceModel", "lastDay", "[I", true)
  | 14 => ("LedgerTwiceModel", "closing", "[I", true)
  | 15 => ("LedgerTwiceModel", "entries", "I", false)
  | 16 => ("LedgerTwiceModel", "day", "[I", true)
  | 17 => ("LedgerTwiceModel", "tag", "[I", true)
  | 18 => ("LedgerTwiceModel", "sort", "[I", true)
  | 19 => ("LedgerTwiceModel", "from", "[I", true)
  | 20 => ("LedgerTwiceModel", "backBy", "[I", true)
  | 21 => ("LedgerTwiceModel", "ofWhat", "[I", true)
  | 22 => ("LedgerTwiceModel", "lineAccount", "[I", true)
  | 23 => ("LedgerTwiceModel", "lineAmount", "[J", true)
  | 24 => ("LedgerTwiceModel", "drafted", "I", false)
  | 25 => ("LedgerTwiceModel", "draftAccount", "[I", true)
  | 26 => ("LedgerTwiceModel", "draftAmount", "[J", true)
  | 27 => ("LedgerTwiceModel", "lines", "I", false)
  | 28 => ("LedgerTwiceModel", "handAccount", "[I", true)
  | 29 => ("LedgerTwiceModel", "handAmount", "[J", true)
  | 30 => ("LedgerTwiceModel", "size", "I", false)
  | 31 => ("LedgerTwiceModel", "durable", "I", false)
  | 32 => ("LedgerTwiceModel", "records", "I", false)
  | 33 => ("LedgerTwiceModel", "journal", "[I", true)
  | 34 => ("LedgerTwiceModel", "bodySize", "I", false)
  | 35 => ("LedgerTwiceModel", "body", "[I", true)
  | 36 => ("LedgerTwiceModel", "shown", "I", false)
  | 37 => ("LedgerTwiceModel", "sheet", "[I", true)
  | 38 => ("LedgerTwiceModel", "figures", "[I", true)
  | 39 => ("LedgerTwiceModel", "under", "[I", true)
  | 40 => ("LedgerTwiceModel", "lastKey", "[I", true)
  | 41 => ("LedgerTwiceModel", "weights", "I", false)
  | 42 => ("LedgerTwiceModel", "weight", "[J", true)
  | 43 => ("LedgerTwiceModel", "part", "[J", true)
  | 44 => ("LedgerTwiceModel", "rest", "[J", true)
  | 45 => ("LedgerTwiceModel", "hasOne", "[Z", true)
  | 46 => ("LedgerTwiceModel", "at", "I", false)
  | 47 => ("LedgerTwiceModel", "end", "I", false)
  | _ => ("LedgerTwiceModel", "isWrong", "Z", false)
def tyX12 : Nat → FieldType := fun k => match k with
  | 0 => .boolean
  | 1 => .boolean
  | 2 => .int
  | 3 => .array .int
  | 4 => .array .int
  | 5 => .array .int
  | 6 => .array .boolean
  | 7 => .array .int
  | 8 => .array .boolean
  | 9 => .array .long
  | 10 => .int
  | 11 => .int
  | 12 => .int
  | 13 => .array .int
  | 14 => .array .int
  | 15 => .int
  | 16 => .array .int
  | 17 => .array .int
  | 18 => .array .int
  | 19 => .array .int
  | 20 => .array .int
  | 21 => .array .int
  | 22 => .array .int
  | 23 => .array .long
  | 24 => .int
  | 25 => .array .int
  | 26 => .array .long
  | 27 => .int
  | 28 => .array .int
  | 29 => .array .long
  | 30 => .int
  | 31 => .int
  | 32 => .int
  | 33 => .array .int
  | 34 => .int
  | 35 => .array .int
  | 36 => .int
  | 37 => .array .int
  | 38 => .array .int
  | 39 => .array .int
  | 40 => .array .int
  | 41 => .int
  | 42 => .array .long
  | 43 => .array .long
  | 44 => .array .long
  | 45 => .array .boolean
  | 46 => .int
  | 47 => .int
  | _ => .boolean
theorem nmX12 : ∀ a, a < 49 → ∀ b, b < 49 → a ≠ b → (TX12 a).2.1 ≠ (TX12 b).2.1 := by decide +kernel
theorem tyX12_ok : ∀ k, k < 49 → parseFieldDescriptor (TX12 k).2.2.1 = some (tyX12 k) := by decide +kernel
abbrev cX12_init : ByteArray := prog_14_method_1_code
def yX12_init : MethodName := ⟨RX12, "<init>", "()V"⟩
abbrev cX12_in : ByteArray := prog_14_method_2_code
def yX12_in : MethodName := ⟨RX12, "in", "(JJJ)Z"⟩
abbrev cX12_isAccount : ByteArray := prog_14_method_3_code
def yX12_isAccount : MethodName := ⟨RX12, "isAccount", "(I)Z"⟩
abbrev cX12_begin : ByteArray := prog_14_method_4_code
def yX12_begin : MethodName := ⟨RX12, "begin", "()V"⟩
abbrev cX12_say : ByteArray := prog_14_method_5_code
def yX12_say : MethodName := ⟨RX12, "say", "(J)V"⟩
abbrev cX12_hasRoom : ByteArray := prog_14_method_6_code
def yX12_hasRoom : MethodName := ⟨RX12, "hasRoom", "()Z"⟩
abbrev cX12_checked : ByteArray := prog_14_method_7_code
def yX12_checked : MethodName := ⟨RX12, "checked", "(II)I"⟩
abbrev cX12_append : ByteArray := prog_14_method_8_code
def yX12_append : MethodName := ⟨RX12, "append", "(I)V"⟩
abbrev cX12_write : ByteArray := prog_14_method_9_code
def yX12_write : MethodName := ⟨RX12, "write", "(I)V"⟩
abbrev cX12_isTold : ByteArray := prog_14_method_10_code
def yX12_isTold : MethodName := ⟨RX12, "isTold", "(I)Z"⟩
abbrev cX12_account : ByteArray := prog_14_method_11_code
def yX12_account : MethodName := ⟨RX12, "account", "(IIIZ)I"⟩
abbrev cX12_shut : ByteArray := prog_14_method_12_code
def yX12_shut : MethodName := ⟨RX12, "shut", "(IZ)I"⟩
abbrev cX12_firstDay : ByteArray := prog_14_method_13_code
def yX12_firstDay : MethodName := ⟨RX12, "firstDay", "(I)I"⟩
abbrev cX12_period : ByteArray := prog_14_method_14_code
def yX12_period : MethodName := ⟨RX12, "period", "(I)I"⟩
abbrev cX12_owner : ByteArray := prog_14_method_15_code
def yX12_owner : MethodName := ⟨RX12, "owner", "(I)I"⟩
abbrev cX12_line : ByteArray := prog_14_method_16_code
def yX12_line : MethodName := ⟨RX12, "line", "(IJ)I"⟩
abbrev cX12_drop : ByteArray := prog_14_method_17_code
def yX12_drop : MethodName := ⟨RX12, "drop", "()I"⟩
abbrev cX12_hand : ByteArray := prog_14_method_18_code
def yX12_hand : MethodName := ⟨RX12, "hand", "(IJ)V"⟩
abbrev cX12_periodAt : ByteArray := prog_14_method_19_code
def yX12_periodAt : MethodName := ⟨RX12, "periodAt", "(I)I"⟩
abbrev cX12_isOver : ByteArray := prog_14_method_20_code
def yX12_isOver : MethodName := ⟨RX12, "isOver", "()Z"⟩
abbrev cX12_judged : ByteArray := prog_14_method_21_code
def yX12_judged : MethodName := ⟨RX12, "judged", "(I)I"⟩
abbrev cX12_enter : ByteArray := prog_14_method_22_code
def yX12_enter : MethodName := ⟨RX12, "enter", "(IIII)I"⟩
abbrev cX12_sayPost : ByteArray := prog_14_method_23_code
def yX12_sayPost : MethodName := ⟨RX12, "sayPost", "(II)V"⟩
abbrev cX12_posted : ByteArray := prog_14_method_24_code
def yX12_posted : MethodName := ⟨RX12, "posted", "(II)I"⟩
abbrev cX12_post : ByteArray := prog_14_method_25_code
def yX12_post : MethodName := ⟨RX12, "post", "(II)I"⟩
abbrev cX12_back : ByteArray := prog_14_method_26_code
def yX12_back : MethodName := ⟨RX12, "back", "(II)I"⟩
abbrev cX12_turned : ByteArray := prog_14_method_27_code
def yX12_turned : MethodName := ⟨RX12, "turned", "(I)V"⟩
abbrev cX12_sumOf : ByteArray := prog_14_method_28_code
def yX12_sumOf : MethodName := ⟨RX12, "sumOf", "(III)J"⟩
abbrev cX12_nextCode : ByteArray := prog_14_method_29_code
def yX12_nextCode : MethodName := ⟨RX12, "nextCode", "(I)I"⟩
abbrev cX12_close : ByteArray := prog_14_method_30_code
def yX12_close : MethodName := ⟨RX12, "close", "()I"⟩
abbrev cX12_reopen : ByteArray := prog_14_method_31_code
def yX12_reopen : MethodName := ⟨RX12, "reopen", "()I"⟩
abbrev cX12_shares : ByteArray := prog_14_method_32_code
def yX12_shares : MethodName := ⟨RX12, "shares", "(J)V"⟩
abbrev cX12_share : ByteArray := prog_14_method_33_code
def yX12_share : MethodName := ⟨RX12, "share", "(IJII)I"⟩
abbrev cX12_part : ByteArray := prog_14_method_34_code
def yX12_part : MethodName := ⟨RX12, "part", "(JIIIII)J"⟩
abbrev cX12_sync : ByteArray := prog_14_method_35_code
def yX12_sync : MethodName := ⟨RX12, "sync", "()I"⟩
abbrev cX12_crash : ByteArray := prog_14_method_36_code
def yX12_crash : MethodName := ⟨RX12, "crash", "(II)I"⟩
abbrev cX12_number : ByteArray := prog_14_method_37_code
def yX12_number : MethodName := ⟨RX12, "number", "()J"⟩
abbrev cX12_whole : ByteArray := prog_14_method_38_code
def yX12_whole : MethodName := ⟨RX12, "whole", "()I"⟩
abbrev cX12_truth : ByteArray := prog_14_method_39_code
def yX12_truth : MethodName := ⟨RX12, "truth", "()Z"⟩
abbrev cX12_isEnded : ByteArray := prog_14_method_40_code
def yX12_isEnded : MethodName := ⟨RX12, "isEnded", "()Z"⟩
abbrev cX12_isDone : ByteArray := prog_14_method_41_code
def yX12_isDone : MethodName := ⟨RX12, "isDone", "(I)Z"⟩
abbrev cX12_isPosted : ByteArray := prog_14_method_42_code
def yX12_isPosted : MethodName := ⟨RX12, "isPosted", "()Z"⟩
abbrev cX12_isNext : ByteArray := prog_14_method_43_code
def yX12_isNext : MethodName := ⟨RX12, "isNext", "()Z"⟩
abbrev cX12_recover : ByteArray := prog_14_method_44_code
def yX12_recover : MethodName := ⟨RX12, "recover", "()I"⟩
abbrev cX12_byteAt : ByteArray := prog_14_method_45_code
def yX12_byteAt : MethodName := ⟨RX12, "byteAt", "(I)I"⟩
abbrev cX12_of : ByteArray := prog_14_method_46_code
def yX12_of : MethodName := ⟨RX12, "of", "(II)I"⟩
abbrev cX12_isUnder : ByteArray := prog_14_method_47_code
def yX12_isUnder : MethodName := ⟨RX12, "isUnder", "(II)Z"⟩
abbrev cX12_balanceOf : ByteArray := prog_14_method_48_code
def yX12_balanceOf : MethodName := ⟨RX12, "balanceOf", "(I)J"⟩
abbrev cX12_balance : ByteArray := prog_14_method_49_code
def yX12_balance : MethodName := ⟨RX12, "balance", "(I)J"⟩
abbrev cX12_sum : ByteArray := prog_14_method_50_code
def yX12_sum : MethodName := ⟨RX12, "sum", "(III)J"⟩
abbrev cX12_entry : ByteArray := prog_14_method_51_code
def yX12_entry : MethodName := ⟨RX12, "entry", "(II)I"⟩
abbrev cX12_lineOf : ByteArray := prog_14_method_52_code
def yX12_lineOf : MethodName := ⟨RX12, "lineOf", "(III)J"⟩
abbrev cX12_ledger : ByteArray := prog_14_method_53_code
def yX12_ledger : MethodName := ⟨RX12, "ledger", "(III)J"⟩
abbrev cX12_periodOf : ByteArray := prog_14_method_54_code
def yX12_periodOf : MethodName := ⟨RX12, "periodOf", "(II)I"⟩
abbrev cX12_put : ByteArray := prog_14_method_55_code
def yX12_put : MethodName := ⟨RX12, "put", "(I)V"⟩
abbrev cX12_money : ByteArray := prog_14_method_56_code
def yX12_money : MethodName := ⟨RX12, "money", "(J)V"⟩
abbrev cX12_row : ByteArray := prog_14_method_57_code
def yX12_row : MethodName := ⟨RX12, "row", "(I)V"⟩
abbrev cX12_tree : ByteArray := prog_14_method_58_code
def yX12_tree : MethodName := ⟨RX12, "tree", "()V"⟩
abbrev cX12_ofKind : ByteArray := prog_14_method_59_code
def yX12_ofKind : MethodName := ⟨RX12, "ofKind", "(I)J"⟩
abbrev cX12_total : ByteArray := prog_14_method_60_code
def yX12_total : MethodName := ⟨RX12, "total", "(II)V"⟩
abbrev cX12_sheet : ByteArray := prog_14_method_61_code
def yX12_sheet : MethodName := ⟨RX12, "sheet", "(I)I"⟩
abbrev cX12_shown : ByteArray := prog_14_method_62_code
def yX12_shown : MethodName := ⟨RX12, "shown", "(I)I"⟩
abbrev cX12_count : ByteArray := prog_14_method_63_code
def yX12_count : MethodName := ⟨RX12, "count", "(I)I"⟩
def RJx8e188 : String := "java/lang/Cloneable"
def RJ9 : String := "java/lang/Math"
abbrev cJ9_abs_067f4 : ByteArray := prog_16_method_61_code
def yJ9_abs_067f4 : MethodName := ⟨RJ9, "abs", "(J)J"⟩
abbrev cJ9_max_7cf53 : ByteArray := prog_16_method_65_code
def yJ9_max_7cf53 : MethodName := ⟨RJ9, "max", "(II)I"⟩
abbrev cJ9_min_7cf53 : ByteArray := prog_16_method_69_code
def yJ9_min_7cf53 : MethodName := ⟨RJ9, "min", "(II)I"⟩
def RJ10 : String := "java/lang/System"
def RJ7 : String := "java/util/Arrays"
abbrev cJ7_fill_d0a16 : ByteArray := prog_18_method_101_code
def yJ7_fill_d0a16 : MethodName := ⟨RJ7, "fill", "([JJ)V"⟩
abbrev cJ7_copyOf_59c91 : ByteArray := prog_18_method_123_code
def yJ7_copyOf_59c91 : MethodName := ⟨RJ7, "copyOf", "([II)[I"⟩
abbrev cJ7_copyOf_c38d5 : ByteArray := prog_18_method_124_code
def yJ7_copyOf_c38d5 : MethodName := ⟨RJ7, "copyOf", "([JI)[J"⟩
def RL : String := "LedgerTwiceLaw"
abbrev cL_law : ByteArray := code
def yL_law : MethodName := ⟨RL, "law", "([I)Z"⟩
abbrev vwCl : List vw_C := [(RX0, TX0, 10), (RX1, TX1, 5), (RX2, TX2, 11), (RX3, TX3, 2), (RX4, TX4, 7), (RX5, TX5, 3), (RX6, TX6, 2), (RX7, TX7, 4), (RX8, TX8, 6), (RX9, TX9, 4), (RX10, TX10, 4), (RX11, TX11, 8), (RX12, TX12, 49)]
