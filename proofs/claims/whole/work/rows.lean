section
-- ===== PART A: goes FIRST, ahead of the names: the tables' words, and 'selects' of the private methods out of them =====
/-- a private method of a class that the tables say can be made, by its rows of tables_1 -/
def lw_okq (q : MethodName × Nat) : Prop := (q.1.cls ≠ "java/lang/invoke/MethodHandle" ∧ q.1.cls ≠ "java/lang/invoke/VarHandle") ∧ Cond.instantiable q.1.cls q.2 ∈ tables_1 ∧ Cond.privateMethod q.1 ∈ tables_1 ∧ Cond.instanceMethod q.1 ∈ tables_1
theorem lw_p0 : lw_okq (⟨"ReceiptRolls$History", "dropOldest", "()V"⟩, 2) := ⟨⟨by decide +kernel, by decide +kernel⟩, List.mem_of_getElem? (i := 155) (by decide +kernel), List.mem_of_getElem? (i := 262) (by decide +kernel), List.mem_of_getElem? (i := 263) (by decide +kernel)⟩
theorem lw_p1 : lw_okq (⟨"ReceiptRolls", "faultOfPad", "()I"⟩, 5) := ⟨⟨by decide +kernel, by decide +kernel⟩, List.mem_of_getElem? (i := 20) (by decide +kernel), List.mem_of_getElem? (i := 293) (by decide +kernel), List.mem_of_getElem? (i := 294) (by decide +kernel)⟩
theorem lw_p2 : lw_okq (⟨"ReceiptRolls$Receipt", "addEvent", "(I)V"⟩, 14) := ⟨⟨by decide +kernel, by decide +kernel⟩, List.mem_of_getElem? (i := 35) (by decide +kernel), List.mem_of_getElem? (i := 442) (by decide +kernel), List.mem_of_getElem? (i := 443) (by decide +kernel)⟩
theorem lw_p3 : lw_okq (⟨"ReceiptRolls", "layLines", "(LReceiptRolls$Receipt;I)I"⟩, 5) := ⟨⟨by decide +kernel, by decide +kernel⟩, List.mem_of_getElem? (i := 20) (by decide +kernel), List.mem_of_getElem? (i := 520) (by decide +kernel), List.mem_of_getElem? (i := 521) (by decide +kernel)⟩
theorem lw_p4 : lw_okq (⟨"ReceiptRolls$Sheet", "begin", "(II)V"⟩, 6) := ⟨⟨by decide +kernel, by decide +kernel⟩, List.mem_of_getElem? (i := 205) (by decide +kernel), List.mem_of_getElem? (i := 528) (by decide +kernel), List.mem_of_getElem? (i := 529) (by decide +kernel)⟩
theorem lw_p5 : lw_okq (⟨"ReceiptRolls$Sheet", "addText", "(Ljava/lang/String;)V"⟩, 6) := ⟨⟨by decide +kernel, by decide +kernel⟩, List.mem_of_getElem? (i := 205) (by decide +kernel), List.mem_of_getElem? (i := 533) (by decide +kernel), List.mem_of_getElem? (i := 534) (by decide +kernel)⟩
theorem lw_p6 : lw_okq (⟨"ReceiptRolls$Sheet", "addSign", "(C)V"⟩, 6) := ⟨⟨by decide +kernel, by decide +kernel⟩, List.mem_of_getElem? (i := 205) (by decide +kernel), List.mem_of_getElem? (i := 564) (by decide +kernel), List.mem_of_getElem? (i := 565) (by decide +kernel)⟩
theorem lw_p7 : lw_okq (⟨"ReceiptRolls$Sheet", "addNumber", "(I)V"⟩, 6) := ⟨⟨by decide +kernel, by decide +kernel⟩, List.mem_of_getElem? (i := 205) (by decide +kernel), List.mem_of_getElem? (i := 568) (by decide +kernel), List.mem_of_getElem? (i := 569) (by decide +kernel)⟩
theorem lw_p8 : lw_okq (⟨"ReceiptRolls$Sheet", "endLine", "()V"⟩, 6) := ⟨⟨by decide +kernel, by decide +kernel⟩, List.mem_of_getElem? (i := 205) (by decide +kernel), List.mem_of_getElem? (i := 573) (by decide +kernel), List.mem_of_getElem? (i := 574) (by decide +kernel)⟩
theorem lw_p9 : lw_okq (⟨"ReceiptRolls$Sheet", "layItem", "(LReceiptRolls$Item;)V"⟩, 6) := ⟨⟨by decide +kernel, by decide +kernel⟩, List.mem_of_getElem? (i := 205) (by decide +kernel), List.mem_of_getElem? (i := 578) (by decide +kernel), List.mem_of_getElem? (i := 579) (by decide +kernel)⟩
theorem lw_p10 : lw_okq (⟨"ReceiptRolls$Sheet", "layWord", "(Ljava/lang/String;II)V"⟩, 6) := ⟨⟨by decide +kernel, by decide +kernel⟩, List.mem_of_getElem? (i := 205) (by decide +kernel), List.mem_of_getElem? (i := 582) (by decide +kernel), List.mem_of_getElem? (i := 583) (by decide +kernel)⟩
theorem lw_p11 : lw_okq (⟨"ReceiptRolls$Sheet", "addMoney", "(I)V"⟩, 6) := ⟨⟨by decide +kernel, by decide +kernel⟩, List.mem_of_getElem? (i := 205) (by decide +kernel), List.mem_of_getElem? (i := 588) (by decide +kernel), List.mem_of_getElem? (i := 589) (by decide +kernel)⟩
theorem lw_p12 : lw_okq (⟨"ReceiptRolls$Sheet", "layTold", "(Ljava/lang/String;II)V"⟩, 6) := ⟨⟨by decide +kernel, by decide +kernel⟩, List.mem_of_getElem? (i := 205) (by decide +kernel), List.mem_of_getElem? (i := 599) (by decide +kernel), List.mem_of_getElem? (i := 600) (by decide +kernel)⟩
theorem lw_p13 : lw_okq (⟨"ReceiptRolls$State", "printLine", "()Z"⟩, 13) := ⟨⟨by decide +kernel, by decide +kernel⟩, List.mem_of_getElem? (i := 28) (by decide +kernel), List.mem_of_getElem? (i := 669) (by decide +kernel), List.mem_of_getElem? (i := 670) (by decide +kernel)⟩
theorem lw_p14 : lw_okq (⟨"ReceiptRolls$State", "takeReceipt", "()LReceiptRolls$Receipt;"⟩, 13) := ⟨⟨by decide +kernel, by decide +kernel⟩, List.mem_of_getElem? (i := 28) (by decide +kernel), List.mem_of_getElem? (i := 673) (by decide +kernel), List.mem_of_getElem? (i := 674) (by decide +kernel)⟩
theorem lw_p15 : lw_okq (⟨"ReceiptRolls$State", "waitingAheadOf", "(LReceiptRolls$Receipt;)I"⟩, 13) := ⟨⟨by decide +kernel, by decide +kernel⟩, List.mem_of_getElem? (i := 28) (by decide +kernel), List.mem_of_getElem? (i := 682) (by decide +kernel), List.mem_of_getElem? (i := 683) (by decide +kernel)⟩
def lw_privs_1 : List (MethodName × Nat) := [(⟨"ReceiptRolls$History", "dropOldest", "()V"⟩, 2), (⟨"ReceiptRolls", "faultOfPad", "()I"⟩, 5), (⟨"ReceiptRolls$Receipt", "addEvent", "(I)V"⟩, 14), (⟨"ReceiptRolls", "layLines", "(LReceiptRolls$Receipt;I)I"⟩, 5), (⟨"ReceiptRolls$Sheet", "begin", "(II)V"⟩, 6), (⟨"ReceiptRolls$Sheet", "addText", "(Ljava/lang/String;)V"⟩, 6), (⟨"ReceiptRolls$Sheet", "addSign", "(C)V"⟩, 6), (⟨"ReceiptRolls$Sheet", "addNumber", "(I)V"⟩, 6), (⟨"ReceiptRolls$Sheet", "endLine", "()V"⟩, 6), (⟨"ReceiptRolls$Sheet", "layItem", "(LReceiptRolls$Item;)V"⟩, 6), (⟨"ReceiptRolls$Sheet", "layWord", "(Ljava/lang/String;II)V"⟩, 6), (⟨"ReceiptRolls$Sheet", "addMoney", "(I)V"⟩, 6), (⟨"ReceiptRolls$Sheet", "layTold", "(Ljava/lang/String;II)V"⟩, 6), (⟨"ReceiptRolls$State", "printLine", "()Z"⟩, 13), (⟨"ReceiptRolls$State", "takeReceipt", "()LReceiptRolls$Receipt;"⟩, 13), (⟨"ReceiptRolls$State", "waitingAheadOf", "(LReceiptRolls$Receipt;)I"⟩, 13)]
theorem lw_r1 : ∀ q ∈ lw_privs_1, lw_okq q := List.forall_mem_cons.mpr ⟨lw_p0, List.forall_mem_cons.mpr ⟨lw_p1, List.forall_mem_cons.mpr ⟨lw_p2, List.forall_mem_cons.mpr ⟨lw_p3, List.forall_mem_cons.mpr ⟨lw_p4, List.forall_mem_cons.mpr ⟨lw_p5, List.forall_mem_cons.mpr ⟨lw_p6, List.forall_mem_cons.mpr ⟨lw_p7, List.forall_mem_cons.mpr ⟨lw_p8, List.forall_mem_cons.mpr ⟨lw_p9, List.forall_mem_cons.mpr ⟨lw_p10, List.forall_mem_cons.mpr ⟨lw_p11, List.forall_mem_cons.mpr ⟨lw_p12, List.forall_mem_cons.mpr ⟨lw_p13, List.forall_mem_cons.mpr ⟨lw_p14, List.forall_mem_cons.mpr ⟨lw_p15, fun _ h => absurd h List.not_mem_nil⟩⟩⟩⟩⟩⟩⟩⟩⟩⟩⟩⟩⟩⟩⟩⟩
theorem lw_p16 : lw_okq (⟨"ReceiptRolls$State", "finish", "(LReceiptRolls$Receipt;)V"⟩, 13) := ⟨⟨by decide +kernel, by decide +kernel⟩, List.mem_of_getElem? (i := 28) (by decide +kernel), List.mem_of_getElem? (i := 690) (by decide +kernel), List.mem_of_getElem? (i := 691) (by decide +kernel)⟩
theorem lw_p17 : lw_okq (⟨"ReceiptRollsModel", "lay", "(III)V"⟩, 15) := ⟨⟨by decide +kernel, by decide +kernel⟩, List.mem_of_getElem? (i := 856) (by decide +kernel), List.mem_of_getElem? (i := 862) (by decide +kernel), List.mem_of_getElem? (i := 863) (by decide +kernel)⟩
theorem lw_p18 : lw_okq (⟨"ReceiptRollsModel", "records", "()V"⟩, 15) := ⟨⟨by decide +kernel, by decide +kernel⟩, List.mem_of_getElem? (i := 856) (by decide +kernel), List.mem_of_getElem? (i := 926) (by decide +kernel), List.mem_of_getElem? (i := 927) (by decide +kernel)⟩
theorem lw_p19 : lw_okq (⟨"ReceiptRollsModel", "faultAt", "()I"⟩, 15) := ⟨⟨by decide +kernel, by decide +kernel⟩, List.mem_of_getElem? (i := 856) (by decide +kernel), List.mem_of_getElem? (i := 937) (by decide +kernel), List.mem_of_getElem? (i := 938) (by decide +kernel)⟩
theorem lw_p20 : lw_okq (⟨"ReceiptRollsModel", "canStand", "(I)Z"⟩, 15) := ⟨⟨by decide +kernel, by decide +kernel⟩, List.mem_of_getElem? (i := 856) (by decide +kernel), List.mem_of_getElem? (i := 941) (by decide +kernel), List.mem_of_getElem? (i := 942) (by decide +kernel)⟩
theorem lw_p21 : lw_okq (⟨"ReceiptRollsModel", "of", "(II)I"⟩, 15) := ⟨⟨by decide +kernel, by decide +kernel⟩, List.mem_of_getElem? (i := 856) (by decide +kernel), List.mem_of_getElem? (i := 945) (by decide +kernel), List.mem_of_getElem? (i := 946) (by decide +kernel)⟩
theorem lw_p22 : lw_okq (⟨"ReceiptRollsModel", "packsName", "(II)V"⟩, 15) := ⟨⟨by decide +kernel, by decide +kernel⟩, List.mem_of_getElem? (i := 856) (by decide +kernel), List.mem_of_getElem? (i := 949) (by decide +kernel), List.mem_of_getElem? (i := 950) (by decide +kernel)⟩
theorem lw_p23 : lw_okq (⟨"ReceiptRollsModel", "happens", "(II)V"⟩, 15) := ⟨⟨by decide +kernel, by decide +kernel⟩, List.mem_of_getElem? (i := 856) (by decide +kernel), List.mem_of_getElem? (i := 953) (by decide +kernel), List.mem_of_getElem? (i := 954) (by decide +kernel)⟩
theorem lw_p24 : lw_okq (⟨"ReceiptRollsModel", "isItem", "(II)Z"⟩, 15) := ⟨⟨by decide +kernel, by decide +kernel⟩, List.mem_of_getElem? (i := 856) (by decide +kernel), List.mem_of_getElem? (i := 961) (by decide +kernel), List.mem_of_getElem? (i := 962) (by decide +kernel)⟩
theorem lw_p25 : lw_okq (⟨"ReceiptRollsModel", "isStruck", "(II)Z"⟩, 15) := ⟨⟨by decide +kernel, by decide +kernel⟩, List.mem_of_getElem? (i := 856) (by decide +kernel), List.mem_of_getElem? (i := 965) (by decide +kernel), List.mem_of_getElem? (i := 966) (by decide +kernel)⟩
theorem lw_p26 : lw_okq (⟨"ReceiptRollsModel", "packed", "(II)I"⟩, 15) := ⟨⟨by decide +kernel, by decide +kernel⟩, List.mem_of_getElem? (i := 856) (by decide +kernel), List.mem_of_getElem? (i := 969) (by decide +kernel), List.mem_of_getElem? (i := 970) (by decide +kernel)⟩
theorem lw_p27 : lw_okq (⟨"ReceiptRollsModel", "sum", "(II)I"⟩, 15) := ⟨⟨by decide +kernel, by decide +kernel⟩, List.mem_of_getElem? (i := 856) (by decide +kernel), List.mem_of_getElem? (i := 974) (by decide +kernel), List.mem_of_getElem? (i := 975) (by decide +kernel)⟩
theorem lw_p28 : lw_okq (⟨"ReceiptRollsModel", "howMany", "(II)I"⟩, 15) := ⟨⟨by decide +kernel, by decide +kernel⟩, List.mem_of_getElem? (i := 856) (by decide +kernel), List.mem_of_getElem? (i := 978) (by decide +kernel), List.mem_of_getElem? (i := 979) (by decide +kernel)⟩
theorem lw_p29 : lw_okq (⟨"ReceiptRollsModel", "price", "(II)I"⟩, 15) := ⟨⟨by decide +kernel, by decide +kernel⟩, List.mem_of_getElem? (i := 856) (by decide +kernel), List.mem_of_getElem? (i := 982) (by decide +kernel), List.mem_of_getElem? (i := 983) (by decide +kernel)⟩
theorem lw_p30 : lw_okq (⟨"ReceiptRollsModel", "manyHow", "(I)I"⟩, 15) := ⟨⟨by decide +kernel, by decide +kernel⟩, List.mem_of_getElem? (i := 856) (by decide +kernel), List.mem_of_getElem? (i := 990) (by decide +kernel), List.mem_of_getElem? (i := 991) (by decide +kernel)⟩
theorem lw_p31 : lw_okq (⟨"ReceiptRollsModel", "isHow", "(II)Z"⟩, 15) := ⟨⟨by decide +kernel, by decide +kernel⟩, List.mem_of_getElem? (i := 856) (by decide +kernel), List.mem_of_getElem? (i := 994) (by decide +kernel), List.mem_of_getElem? (i := 995) (by decide +kernel)⟩
def lw_privs_2 : List (MethodName × Nat) := [(⟨"ReceiptRolls$State", "finish", "(LReceiptRolls$Receipt;)V"⟩, 13), (⟨"ReceiptRollsModel", "lay", "(III)V"⟩, 15), (⟨"ReceiptRollsModel", "records", "()V"⟩, 15), (⟨"ReceiptRollsModel", "faultAt", "()I"⟩, 15), (⟨"ReceiptRollsModel", "canStand", "(I)Z"⟩, 15), (⟨"ReceiptRollsModel", "of", "(II)I"⟩, 15), (⟨"ReceiptRollsModel", "packsName", "(II)V"⟩, 15), (⟨"ReceiptRollsModel", "happens", "(II)V"⟩, 15), (⟨"ReceiptRollsModel", "isItem", "(II)Z"⟩, 15), (⟨"ReceiptRollsModel", "isStruck", "(II)Z"⟩, 15), (⟨"ReceiptRollsModel", "packed", "(II)I"⟩, 15), (⟨"ReceiptRollsModel", "sum", "(II)I"⟩, 15), (⟨"ReceiptRollsModel", "howMany", "(II)I"⟩, 15), (⟨"ReceiptRollsModel", "price", "(II)I"⟩, 15), (⟨"ReceiptRollsModel", "manyHow", "(I)I"⟩, 15), (⟨"ReceiptRollsModel", "isHow", "(II)Z"⟩, 15)]
theorem lw_r2 : ∀ q ∈ lw_privs_2, lw_okq q := List.forall_mem_cons.mpr ⟨lw_p16, List.forall_mem_cons.mpr ⟨lw_p17, List.forall_mem_cons.mpr ⟨lw_p18, List.forall_mem_cons.mpr ⟨lw_p19, List.forall_mem_cons.mpr ⟨lw_p20, List.forall_mem_cons.mpr ⟨lw_p21, List.forall_mem_cons.mpr ⟨lw_p22, List.forall_mem_cons.mpr ⟨lw_p23, List.forall_mem_cons.mpr ⟨lw_p24, List.forall_mem_cons.mpr ⟨lw_p25, List.forall_mem_cons.mpr ⟨lw_p26, List.forall_mem_cons.mpr ⟨lw_p27, List.forall_mem_cons.mpr ⟨lw_p28, List.forall_mem_cons.mpr ⟨lw_p29, List.forall_mem_cons.mpr ⟨lw_p30, List.forall_mem_cons.mpr ⟨lw_p31, fun _ h => absurd h List.not_mem_nil⟩⟩⟩⟩⟩⟩⟩⟩⟩⟩⟩⟩⟩⟩⟩⟩
theorem lw_p32 : lw_okq (⟨"ReceiptRollsModel", "freeRecord", "()I"⟩, 15) := ⟨⟨by decide +kernel, by decide +kernel⟩, List.mem_of_getElem? (i := 856) (by decide +kernel), List.mem_of_getElem? (i := 998) (by decide +kernel), List.mem_of_getElem? (i := 999) (by decide +kernel)⟩
theorem lw_p33 : lw_okq (⟨"ReceiptRollsModel", "empties", "(I)V"⟩, 15) := ⟨⟨by decide +kernel, by decide +kernel⟩, List.mem_of_getElem? (i := 856) (by decide +kernel), List.mem_of_getElem? (i := 1002) (by decide +kernel), List.mem_of_getElem? (i := 1003) (by decide +kernel)⟩
theorem lw_p34 : lw_okq (⟨"ReceiptRollsModel", "recordOf", "(I)I"⟩, 15) := ⟨⟨by decide +kernel, by decide +kernel⟩, List.mem_of_getElem? (i := 856) (by decide +kernel), List.mem_of_getElem? (i := 1010) (by decide +kernel), List.mem_of_getElem? (i := 1011) (by decide +kernel)⟩
theorem lw_p35 : lw_okq (⟨"ReceiptRollsModel", "printedNow", "()I"⟩, 15) := ⟨⟨by decide +kernel, by decide +kernel⟩, List.mem_of_getElem? (i := 856) (by decide +kernel), List.mem_of_getElem? (i := 1022) (by decide +kernel), List.mem_of_getElem? (i := 1023) (by decide +kernel)⟩
theorem lw_p36 : lw_okq (⟨"ReceiptRollsModel", "widthOf", "(I)I"⟩, 15) := ⟨⟨by decide +kernel, by decide +kernel⟩, List.mem_of_getElem? (i := 856) (by decide +kernel), List.mem_of_getElem? (i := 1026) (by decide +kernel), List.mem_of_getElem? (i := 1027) (by decide +kernel)⟩
theorem lw_p37 : lw_okq (⟨"ReceiptRollsModel", "laysAll", "(III)I"⟩, 15) := ⟨⟨by decide +kernel, by decide +kernel⟩, List.mem_of_getElem? (i := 856) (by decide +kernel), List.mem_of_getElem? (i := 1030) (by decide +kernel), List.mem_of_getElem? (i := 1031) (by decide +kernel)⟩
theorem lw_p38 : lw_okq (⟨"ReceiptRollsModel", "lays", "(I)V"⟩, 15) := ⟨⟨by decide +kernel, by decide +kernel⟩, List.mem_of_getElem? (i := 856) (by decide +kernel), List.mem_of_getElem? (i := 1034) (by decide +kernel), List.mem_of_getElem? (i := 1035) (by decide +kernel)⟩
theorem lw_p39 : lw_okq (⟨"ReceiptRollsModel", "puts", "(II)V"⟩, 15) := ⟨⟨by decide +kernel, by decide +kernel⟩, List.mem_of_getElem? (i := 856) (by decide +kernel), List.mem_of_getElem? (i := 1038) (by decide +kernel), List.mem_of_getElem? (i := 1039) (by decide +kernel)⟩
theorem lw_p40 : lw_okq (⟨"ReceiptRollsModel", "numberOf", "(I)I"⟩, 15) := ⟨⟨by decide +kernel, by decide +kernel⟩, List.mem_of_getElem? (i := 856) (by decide +kernel), List.mem_of_getElem? (i := 1042) (by decide +kernel), List.mem_of_getElem? (i := 1043) (by decide +kernel)⟩
theorem lw_p41 : lw_okq (⟨"ReceiptRollsModel", "number", "(I)V"⟩, 15) := ⟨⟨by decide +kernel, by decide +kernel⟩, List.mem_of_getElem? (i := 856) (by decide +kernel), List.mem_of_getElem? (i := 1046) (by decide +kernel), List.mem_of_getElem? (i := 1047) (by decide +kernel)⟩
theorem lw_p42 : lw_okq (⟨"ReceiptRollsModel", "nextLine", "()V"⟩, 15) := ⟨⟨by decide +kernel, by decide +kernel⟩, List.mem_of_getElem? (i := 856) (by decide +kernel), List.mem_of_getElem? (i := 1050) (by decide +kernel), List.mem_of_getElem? (i := 1051) (by decide +kernel)⟩
theorem lw_p43 : lw_okq (⟨"ReceiptRollsModel", "event", "(II)I"⟩, 15) := ⟨⟨by decide +kernel, by decide +kernel⟩, List.mem_of_getElem? (i := 856) (by decide +kernel), List.mem_of_getElem? (i := 1054) (by decide +kernel), List.mem_of_getElem? (i := 1055) (by decide +kernel)⟩
theorem lw_p44 : lw_okq (⟨"ReceiptRollsModel", "layItem", "(III)V"⟩, 15) := ⟨⟨by decide +kernel, by decide +kernel⟩, List.mem_of_getElem? (i := 856) (by decide +kernel), List.mem_of_getElem? (i := 1058) (by decide +kernel), List.mem_of_getElem? (i := 1059) (by decide +kernel)⟩
theorem lw_p45 : lw_okq (⟨"ReceiptRollsModel", "addsToWord", "(I)V"⟩, 15) := ⟨⟨by decide +kernel, by decide +kernel⟩, List.mem_of_getElem? (i := 856) (by decide +kernel), List.mem_of_getElem? (i := 1062) (by decide +kernel), List.mem_of_getElem? (i := 1063) (by decide +kernel)⟩
theorem lw_p46 : lw_okq (⟨"ReceiptRollsModel", "layWord", "(I)V"⟩, 15) := ⟨⟨by decide +kernel, by decide +kernel⟩, List.mem_of_getElem? (i := 856) (by decide +kernel), List.mem_of_getElem? (i := 1066) (by decide +kernel), List.mem_of_getElem? (i := 1067) (by decide +kernel)⟩
theorem lw_p47 : lw_okq (⟨"ReceiptRollsModel", "nameLength", "(II)I"⟩, 15) := ⟨⟨by decide +kernel, by decide +kernel⟩, List.mem_of_getElem? (i := 856) (by decide +kernel), List.mem_of_getElem? (i := 1070) (by decide +kernel), List.mem_of_getElem? (i := 1071) (by decide +kernel)⟩
def lw_privs_3 : List (MethodName × Nat) := [(⟨"ReceiptRollsModel", "freeRecord", "()I"⟩, 15), (⟨"ReceiptRollsModel", "empties", "(I)V"⟩, 15), (⟨"ReceiptRollsModel", "recordOf", "(I)I"⟩, 15), (⟨"ReceiptRollsModel", "printedNow", "()I"⟩, 15), (⟨"ReceiptRollsModel", "widthOf", "(I)I"⟩, 15), (⟨"ReceiptRollsModel", "laysAll", "(III)I"⟩, 15), (⟨"ReceiptRollsModel", "lays", "(I)V"⟩, 15), (⟨"ReceiptRollsModel", "puts", "(II)V"⟩, 15), (⟨"ReceiptRollsModel", "numberOf", "(I)I"⟩, 15), (⟨"ReceiptRollsModel", "number", "(I)V"⟩, 15), (⟨"ReceiptRollsModel", "nextLine", "()V"⟩, 15), (⟨"ReceiptRollsModel", "event", "(II)I"⟩, 15), (⟨"ReceiptRollsModel", "layItem", "(III)V"⟩, 15), (⟨"ReceiptRollsModel", "addsToWord", "(I)V"⟩, 15), (⟨"ReceiptRollsModel", "layWord", "(I)V"⟩, 15), (⟨"ReceiptRollsModel", "nameLength", "(II)I"⟩, 15)]
theorem lw_r3 : ∀ q ∈ lw_privs_3, lw_okq q := List.forall_mem_cons.mpr ⟨lw_p32, List.forall_mem_cons.mpr ⟨lw_p33, List.forall_mem_cons.mpr ⟨lw_p34, List.forall_mem_cons.mpr ⟨lw_p35, List.forall_mem_cons.mpr ⟨lw_p36, List.forall_mem_cons.mpr ⟨lw_p37, List.forall_mem_cons.mpr ⟨lw_p38, List.forall_mem_cons.mpr ⟨lw_p39, List.forall_mem_cons.mpr ⟨lw_p40, List.forall_mem_cons.mpr ⟨lw_p41, List.forall_mem_cons.mpr ⟨lw_p42, List.forall_mem_cons.mpr ⟨lw_p43, List.forall_mem_cons.mpr ⟨lw_p44, List.forall_mem_cons.mpr ⟨lw_p45, List.forall_mem_cons.mpr ⟨lw_p46, List.forall_mem_cons.mpr ⟨lw_p47, fun _ h => absurd h List.not_mem_nil⟩⟩⟩⟩⟩⟩⟩⟩⟩⟩⟩⟩⟩⟩⟩⟩
theorem lw_p48 : lw_okq (⟨"ReceiptRollsModel", "nameSign", "(III)I"⟩, 15) := ⟨⟨by decide +kernel, by decide +kernel⟩, List.mem_of_getElem? (i := 856) (by decide +kernel), List.mem_of_getElem? (i := 1074) (by decide +kernel), List.mem_of_getElem? (i := 1075) (by decide +kernel)⟩
theorem lw_p49 : lw_okq (⟨"ReceiptRollsModel", "money", "(II)V"⟩, 15) := ⟨⟨by decide +kernel, by decide +kernel⟩, List.mem_of_getElem? (i := 856) (by decide +kernel), List.mem_of_getElem? (i := 1078) (by decide +kernel), List.mem_of_getElem? (i := 1079) (by decide +kernel)⟩
theorem lw_p50 : lw_okq (⟨"ReceiptRollsModel", "layVoid", "(III)V"⟩, 15) := ⟨⟨by decide +kernel, by decide +kernel⟩, List.mem_of_getElem? (i := 856) (by decide +kernel), List.mem_of_getElem? (i := 1082) (by decide +kernel), List.mem_of_getElem? (i := 1083) (by decide +kernel)⟩
theorem lw_p51 : lw_okq (⟨"ReceiptRollsModel", "total", "(I)I"⟩, 15) := ⟨⟨by decide +kernel, by decide +kernel⟩, List.mem_of_getElem? (i := 856) (by decide +kernel), List.mem_of_getElem? (i := 1086) (by decide +kernel), List.mem_of_getElem? (i := 1087) (by decide +kernel)⟩
theorem lw_p52 : lw_okq (⟨"ReceiptRollsModel", "hasTax", "(II)Z"⟩, 15) := ⟨⟨by decide +kernel, by decide +kernel⟩, List.mem_of_getElem? (i := 856) (by decide +kernel), List.mem_of_getElem? (i := 1090) (by decide +kernel), List.mem_of_getElem? (i := 1091) (by decide +kernel)⟩
theorem lw_p53 : lw_okq (⟨"ReceiptRollsModel", "tax", "(II)I"⟩, 15) := ⟨⟨by decide +kernel, by decide +kernel⟩, List.mem_of_getElem? (i := 856) (by decide +kernel), List.mem_of_getElem? (i := 1094) (by decide +kernel), List.mem_of_getElem? (i := 1095) (by decide +kernel)⟩
theorem lw_p54 : lw_okq (⟨"ReceiptRollsModel", "layTax", "(III)V"⟩, 15) := ⟨⟨by decide +kernel, by decide +kernel⟩, List.mem_of_getElem? (i := 856) (by decide +kernel), List.mem_of_getElem? (i := 1098) (by decide +kernel), List.mem_of_getElem? (i := 1099) (by decide +kernel)⟩
theorem lw_p55 : lw_okq (⟨"ReceiptRollsModel", "taxOf", "(II)I"⟩, 15) := ⟨⟨by decide +kernel, by decide +kernel⟩, List.mem_of_getElem? (i := 856) (by decide +kernel), List.mem_of_getElem? (i := 1105) (by decide +kernel), List.mem_of_getElem? (i := 1106) (by decide +kernel)⟩
theorem lw_p56 : lw_okq (⟨"ReceiptRollsModel", "ticks", "()I"⟩, 15) := ⟨⟨by decide +kernel, by decide +kernel⟩, List.mem_of_getElem? (i := 856) (by decide +kernel), List.mem_of_getElem? (i := 1113) (by decide +kernel), List.mem_of_getElem? (i := 1114) (by decide +kernel)⟩
theorem lw_p57 : lw_okq (⟨"ReceiptRollsModel", "printsLine", "()Z"⟩, 15) := ⟨⟨by decide +kernel, by decide +kernel⟩, List.mem_of_getElem? (i := 856) (by decide +kernel), List.mem_of_getElem? (i := 1117) (by decide +kernel), List.mem_of_getElem? (i := 1118) (by decide +kernel)⟩
theorem lw_p58 : lw_okq (⟨"ReceiptRollsModel", "recordAt", "(I)I"⟩, 15) := ⟨⟨by decide +kernel, by decide +kernel⟩, List.mem_of_getElem? (i := 856) (by decide +kernel), List.mem_of_getElem? (i := 1121) (by decide +kernel), List.mem_of_getElem? (i := 1122) (by decide +kernel)⟩
theorem lw_p59 : lw_okq (⟨"ReceiptRollsModel", "rank", "(I)I"⟩, 15) := ⟨⟨by decide +kernel, by decide +kernel⟩, List.mem_of_getElem? (i := 856) (by decide +kernel), List.mem_of_getElem? (i := 1125) (by decide +kernel), List.mem_of_getElem? (i := 1126) (by decide +kernel)⟩
theorem lw_p60 : lw_okq (⟨"ReceiptRollsModel", "isAhead", "(II)Z"⟩, 15) := ⟨⟨by decide +kernel, by decide +kernel⟩, List.mem_of_getElem? (i := 856) (by decide +kernel), List.mem_of_getElem? (i := 1129) (by decide +kernel), List.mem_of_getElem? (i := 1130) (by decide +kernel)⟩
theorem lw_p61 : lw_okq (⟨"ReceiptRollsModel", "linesOf", "(I)I"⟩, 15) := ⟨⟨by decide +kernel, by decide +kernel⟩, List.mem_of_getElem? (i := 856) (by decide +kernel), List.mem_of_getElem? (i := 1133) (by decide +kernel), List.mem_of_getElem? (i := 1134) (by decide +kernel)⟩
theorem lw_p62 : lw_okq (⟨"ReceiptRollsModel", "ends", "(I)V"⟩, 15) := ⟨⟨by decide +kernel, by decide +kernel⟩, List.mem_of_getElem? (i := 856) (by decide +kernel), List.mem_of_getElem? (i := 1137) (by decide +kernel), List.mem_of_getElem? (i := 1138) (by decide +kernel)⟩
theorem lw_p63 : lw_okq (⟨"ReceiptRollsModel", "forgets", "()V"⟩, 15) := ⟨⟨by decide +kernel, by decide +kernel⟩, List.mem_of_getElem? (i := 856) (by decide +kernel), List.mem_of_getElem? (i := 1141) (by decide +kernel), List.mem_of_getElem? (i := 1142) (by decide +kernel)⟩
def lw_privs_4 : List (MethodName × Nat) := [(⟨"ReceiptRollsModel", "nameSign", "(III)I"⟩, 15), (⟨"ReceiptRollsModel", "money", "(II)V"⟩, 15), (⟨"ReceiptRollsModel", "layVoid", "(III)V"⟩, 15), (⟨"ReceiptRollsModel", "total", "(I)I"⟩, 15), (⟨"ReceiptRollsModel", "hasTax", "(II)Z"⟩, 15), (⟨"ReceiptRollsModel", "tax", "(II)I"⟩, 15), (⟨"ReceiptRollsModel", "layTax", "(III)V"⟩, 15), (⟨"ReceiptRollsModel", "taxOf", "(II)I"⟩, 15), (⟨"ReceiptRollsModel", "ticks", "()I"⟩, 15), (⟨"ReceiptRollsModel", "printsLine", "()Z"⟩, 15), (⟨"ReceiptRollsModel", "recordAt", "(I)I"⟩, 15), (⟨"ReceiptRollsModel", "rank", "(I)I"⟩, 15), (⟨"ReceiptRollsModel", "isAhead", "(II)Z"⟩, 15), (⟨"ReceiptRollsModel", "linesOf", "(I)I"⟩, 15), (⟨"ReceiptRollsModel", "ends", "(I)V"⟩, 15), (⟨"ReceiptRollsModel", "forgets", "()V"⟩, 15)]
theorem lw_r4 : ∀ q ∈ lw_privs_4, lw_okq q := List.forall_mem_cons.mpr ⟨lw_p48, List.forall_mem_cons.mpr ⟨lw_p49, List.forall_mem_cons.mpr ⟨lw_p50, List.forall_mem_cons.mpr ⟨lw_p51, List.forall_mem_cons.mpr ⟨lw_p52, List.forall_mem_cons.mpr ⟨lw_p53, List.forall_mem_cons.mpr ⟨lw_p54, List.forall_mem_cons.mpr ⟨lw_p55, List.forall_mem_cons.mpr ⟨lw_p56, List.forall_mem_cons.mpr ⟨lw_p57, List.forall_mem_cons.mpr ⟨lw_p58, List.forall_mem_cons.mpr ⟨lw_p59, List.forall_mem_cons.mpr ⟨lw_p60, List.forall_mem_cons.mpr ⟨lw_p61, List.forall_mem_cons.mpr ⟨lw_p62, List.forall_mem_cons.mpr ⟨lw_p63, fun _ h => absurd h List.not_mem_nil⟩⟩⟩⟩⟩⟩⟩⟩⟩⟩⟩⟩⟩⟩⟩⟩
theorem lw_p64 : lw_okq (⟨"ReceiptRollsModel", "linesOfItem", "(II)I"⟩, 15) := ⟨⟨by decide +kernel, by decide +kernel⟩, List.mem_of_getElem? (i := 856) (by decide +kernel), List.mem_of_getElem? (i := 1149) (by decide +kernel), List.mem_of_getElem? (i := 1150) (by decide +kernel)⟩
theorem lw_p65 : lw_okq (⟨"ReceiptRollsModel", "struckOf", "(I)I"⟩, 15) := ⟨⟨by decide +kernel, by decide +kernel⟩, List.mem_of_getElem? (i := 856) (by decide +kernel), List.mem_of_getElem? (i := 1157) (by decide +kernel), List.mem_of_getElem? (i := 1158) (by decide +kernel)⟩
theorem lw_p66 : lw_okq (⟨"ReceiptRollsModel", "signAt", "(III)I"⟩, 15) := ⟨⟨by decide +kernel, by decide +kernel⟩, List.mem_of_getElem? (i := 856) (by decide +kernel), List.mem_of_getElem? (i := 1169) (by decide +kernel), List.mem_of_getElem? (i := 1170) (by decide +kernel)⟩
theorem lw_p67 : lw_okq (⟨"ReceiptRollsModel", "linesUpTo", "(I)I"⟩, 15) := ⟨⟨by decide +kernel, by decide +kernel⟩, List.mem_of_getElem? (i := 856) (by decide +kernel), List.mem_of_getElem? (i := 1193) (by decide +kernel), List.mem_of_getElem? (i := 1194) (by decide +kernel)⟩
theorem lw_p68 : lw_okq (⟨"ReceiptRollsModel", "leftOf", "(I)I"⟩, 15) := ⟨⟨by decide +kernel, by decide +kernel⟩, List.mem_of_getElem? (i := 856) (by decide +kernel), List.mem_of_getElem? (i := 1197) (by decide +kernel), List.mem_of_getElem? (i := 1198) (by decide +kernel)⟩
theorem lw_p69 : lw_okq (⟨"ReceiptRollsModel", "ticksFor", "(I)I"⟩, 15) := ⟨⟨by decide +kernel, by decide +kernel⟩, List.mem_of_getElem? (i := 856) (by decide +kernel), List.mem_of_getElem? (i := 1201) (by decide +kernel), List.mem_of_getElem? (i := 1202) (by decide +kernel)⟩
theorem lw_p70 : lw_okq (⟨"ReceiptRollsModel", "allLeft", "()I"⟩, 15) := ⟨⟨by decide +kernel, by decide +kernel⟩, List.mem_of_getElem? (i := 856) (by decide +kernel), List.mem_of_getElem? (i := 1209) (by decide +kernel), List.mem_of_getElem? (i := 1210) (by decide +kernel)⟩
def lw_privs_5 : List (MethodName × Nat) := [(⟨"ReceiptRollsModel", "linesOfItem", "(II)I"⟩, 15), (⟨"ReceiptRollsModel", "struckOf", "(I)I"⟩, 15), (⟨"ReceiptRollsModel", "signAt", "(III)I"⟩, 15), (⟨"ReceiptRollsModel", "linesUpTo", "(I)I"⟩, 15), (⟨"ReceiptRollsModel", "leftOf", "(I)I"⟩, 15), (⟨"ReceiptRollsModel", "ticksFor", "(I)I"⟩, 15), (⟨"ReceiptRollsModel", "allLeft", "()I"⟩, 15)]
theorem lw_r5 : ∀ q ∈ lw_privs_5, lw_okq q := List.forall_mem_cons.mpr ⟨lw_p64, List.forall_mem_cons.mpr ⟨lw_p65, List.forall_mem_cons.mpr ⟨lw_p66, List.forall_mem_cons.mpr ⟨lw_p67, List.forall_mem_cons.mpr ⟨lw_p68, List.forall_mem_cons.mpr ⟨lw_p69, List.forall_mem_cons.mpr ⟨lw_p70, fun _ h => absurd h List.not_mem_nil⟩⟩⟩⟩⟩⟩⟩
def lw_privs : List (MethodName × Nat) := lw_privs_1 ++ (lw_privs_2 ++ (lw_privs_3 ++ (lw_privs_4 ++ (lw_privs_5))))
def lw_tbl : List Cond := k2_sels lw_privs ++ tables_1
theorem lw_privs_ok : ∀ q ∈ lw_privs, lw_okq q := by
  show ∀ q ∈ lw_privs_1 ++ (lw_privs_2 ++ (lw_privs_3 ++ (lw_privs_4 ++ (lw_privs_5)))), lw_okq q
  exact List.forall_mem_append.mpr ⟨lw_r1, List.forall_mem_append.mpr ⟨lw_r2, List.forall_mem_append.mpr ⟨lw_r3, List.forall_mem_append.mpr ⟨lw_r4, lw_r5⟩⟩⟩⟩
end
section
def RX0 : String := "ReceiptRolls$History"
def TX0 : u_T := fun k => match k with
  | 0 => ("ReceiptRolls$History", "kept", "I", false)
  | _ => ("ReceiptRolls$History", "states", "[LReceiptRolls$State;", true)
def tyX0 : Nat → FieldType := fun k => match k with
  | 0 => .int
  | _ => .array (.object "ReceiptRolls$State")
theorem nmX0 : ∀ a, a < 2 → ∀ b, b < 2 → a ≠ b → (TX0 a).2.1 ≠ (TX0 b).2.1 := by decide +kernel
theorem tyX0_ok : ∀ k, k < 2 → parseFieldDescriptor (TX0 k).2.2.1 = some (tyX0 k) := by decide +kernel
abbrev cX0_init : ByteArray := prog_2_method_1_code
def yX0_init : MethodName := ⟨RX0, "<init>", "()V"⟩
abbrev cX0_remember : ByteArray := prog_2_method_2_code
def yX0_remember : MethodName := ⟨RX0, "remember", "(LReceiptRolls$State;)V"⟩
abbrev cX0_dropOldest : ByteArray := prog_2_method_3_code
def yX0_dropOldest : MethodName := ⟨RX0, "dropOldest", "()V"⟩
abbrev cX0_giveBack : ByteArray := prog_2_method_4_code
def yX0_giveBack : MethodName := ⟨RX0, "giveBack", "(LReceiptRolls$State;)V"⟩
def RX1 : String := "ReceiptRolls$Item"
def TX1 : u_T := fun k => match k with
  | 0 => ("ReceiptRolls$Item", "name", "Ljava/lang/String;", true)
  | 1 => ("ReceiptRolls$Item", "many", "I", true)
  | 2 => ("ReceiptRolls$Item", "price", "I", true)
  | _ => ("ReceiptRolls$Item", "tax", "I", true)
def tyX1 : Nat → FieldType := fun k => match k with
  | 0 => .object "java/lang/String"
  | 1 => .int
  | 2 => .int
  | _ => .int
theorem nmX1 : ∀ a, a < 4 → ∀ b, b < 4 → a ≠ b → (TX1 a).2.1 ≠ (TX1 b).2.1 := by decide +kernel
theorem tyX1_ok : ∀ k, k < 4 → parseFieldDescriptor (TX1 k).2.2.1 = some (tyX1 k) := by decide +kernel
abbrev cX1_init : ByteArray := prog_3_method_1_code
def yX1_init : MethodName := ⟨RX1, "<init>", "(Ljava/lang/String;III)V"⟩
abbrev cX1_sum : ByteArray := prog_3_method_2_code
def yX1_sum : MethodName := ⟨RX1, "sum", "()I"⟩
def RX2 : String := "ReceiptRolls$Receipt"
def TX2 : u_T := fun k => match k with
  | 0 => ("ReceiptRolls$Receipt", "number", "I", false)
  | 1 => ("ReceiptRolls$Receipt", "till", "I", false)
  | 2 => ("ReceiptRolls$Receipt", "priority", "I", false)
  | 3 => ("ReceiptRolls$Receipt", "stage", "I", false)
  | 4 => ("ReceiptRolls$Receipt", "width", "I", false)
  | 5 => ("ReceiptRolls$Receipt", "lines", "I", false)
  | 6 => ("ReceiptRolls$Receipt", "printed", "I", false)
  | 7 => ("ReceiptRolls$Receipt", "doneTick", "I", false)
  | 8 => ("ReceiptRolls$Receipt", "doneRank", "I", false)
  | 9 => ("ReceiptRolls$Receipt", "items", "I", false)
  | 10 => ("ReceiptRolls$Receipt", "events", "I", false)
  | 11 => ("ReceiptRolls$Receipt", "struck", "I", false)
  | 12 => ("ReceiptRolls$Receipt", "rung", "[LReceiptRolls$Item;", true)
  | _ => ("ReceiptRolls$Receipt", "happened", "[I", true)
def tyX2 : Nat → FieldType := fun k => match k with
  | 0 => .int
  | 1 => .int
  | 2 => .int
  | 3 => .int
  | 4 => .int
  | 5 => .int
  | 6 => .int
  | 7 => .int
  | 8 => .int
  | 9 => .int
  | 10 => .int
  | 11 => .int
  | 12 => .array (.object "ReceiptRolls$Item")
  | _ => .array .int
theorem nmX2 : ∀ a, a < 14 → ∀ b, b < 14 → a ≠ b → (TX2 a).2.1 ≠ (TX2 b).2.1 := by decide +kernel
theorem tyX2_ok : ∀ k, k < 14 → parseFieldDescriptor (TX2 k).2.2.1 = some (tyX2 k) := by decide +kernel
abbrev cX2_init : ByteArray := prog_4_method_1_code
def yX2_init : MethodName := ⟨RX2, "<init>", "()V"⟩
abbrev cX2_copyFrom : ByteArray := prog_4_method_2_code
def yX2_copyFrom : MethodName := ⟨RX2, "copyFrom", "(LReceiptRolls$Receipt;)V"⟩
abbrev cX2_clear : ByteArray := prog_4_method_3_code
def yX2_clear : MethodName := ⟨RX2, "clear", "()V"⟩
abbrev cX2_closeAs : ByteArray := prog_4_method_4_code
def yX2_closeAs : MethodName := ⟨RX2, "closeAs", "(IIIII)V"⟩
abbrev cX2_itemAt : ByteArray := prog_4_method_5_code
def yX2_itemAt : MethodName := ⟨RX2, "itemAt", "(I)LReceiptRolls$Item;"⟩
abbrev cX2_isStruck : ByteArray := prog_4_method_6_code
def yX2_isStruck : MethodName := ⟨RX2, "isStruck", "(I)Z"⟩
abbrev cX2_itemsStruck : ByteArray := prog_4_method_7_code
def yX2_itemsStruck : MethodName := ⟨RX2, "itemsStruck", "()I"⟩
abbrev cX2_addItem : ByteArray := prog_4_method_8_code
def yX2_addItem : MethodName := ⟨RX2, "addItem", "(LReceiptRolls$Item;)V"⟩
abbrev cX2_strikeItem : ByteArray := prog_4_method_9_code
def yX2_strikeItem : MethodName := ⟨RX2, "strikeItem", "(I)V"⟩
abbrev cX2_addEvent : ByteArray := prog_4_method_10_code
def yX2_addEvent : MethodName := ⟨RX2, "addEvent", "(I)V"⟩
abbrev cX2_total : ByteArray := prog_4_method_11_code
def yX2_total : MethodName := ⟨RX2, "total", "()I"⟩
abbrev cX2_totalWithout : ByteArray := prog_4_method_12_code
def yX2_totalWithout : MethodName := ⟨RX2, "totalWithout", "(I)I"⟩
abbrev cX2_sumTaxed : ByteArray := prog_4_method_13_code
def yX2_sumTaxed : MethodName := ⟨RX2, "sumTaxed", "(I)I"⟩
abbrev cX2_taxOf : ByteArray := prog_4_method_14_code
def yX2_taxOf : MethodName := ⟨RX2, "taxOf", "(I)I"⟩
abbrev cX2_linesToPrint : ByteArray := prog_4_method_15_code
def yX2_linesToPrint : MethodName := ⟨RX2, "linesToPrint", "()I"⟩
abbrev cX2_isAheadOf : ByteArray := prog_4_method_16_code
def yX2_isAheadOf : MethodName := ⟨RX2, "isAheadOf", "(LReceiptRolls$Receipt;)Z"⟩
def RX3 : String := "ReceiptRolls$Sheet"
def TX3 : u_T := fun k => match k with
  | 0 => ("ReceiptRolls$Sheet", "width", "I", false)
  | 1 => ("ReceiptRolls$Sheet", "line", "I", false)
  | 2 => ("ReceiptRolls$Sheet", "firstAlike", "I", false)
  | 3 => ("ReceiptRolls$Sheet", "wanted", "I", false)
  | 4 => ("ReceiptRolls$Sheet", "column", "I", false)
  | _ => ("ReceiptRolls$Sheet", "signs", "[C", true)
def tyX3 : Nat → FieldType := fun k => match k with
  | 0 => .int
  | 1 => .int
  | 2 => .int
  | 3 => .int
  | 4 => .int
  | _ => .array .char
theorem nmX3 : ∀ a, a < 6 → ∀ b, b < 6 → a ≠ b → (TX3 a).2.1 ≠ (TX3 b).2.1 := by decide +kernel
theorem tyX3_ok : ∀ k, k < 6 → parseFieldDescriptor (TX3 k).2.2.1 = some (tyX3 k) := by decide +kernel
abbrev cX3_init : ByteArray := prog_5_method_1_code
def yX3_init : MethodName := ⟨RX3, "<init>", "()V"⟩
abbrev cX3_lay : ByteArray := prog_5_method_2_code
def yX3_lay : MethodName := ⟨RX3, "lay", "(LReceiptRolls$Receipt;III)I"⟩
abbrev cX3_linesOfItem : ByteArray := prog_5_method_3_code
def yX3_linesOfItem : MethodName := ⟨RX3, "linesOfItem", "(LReceiptRolls$Item;I)I"⟩
abbrev cX3_signAt : ByteArray := prog_5_method_4_code
def yX3_signAt : MethodName := ⟨RX3, "signAt", "(I)I"⟩
abbrev cX3_begin : ByteArray := prog_5_method_5_code
def yX3_begin : MethodName := ⟨RX3, "begin", "(II)V"⟩
abbrev cX3_layItem : ByteArray := prog_5_method_6_code
def yX3_layItem : MethodName := ⟨RX3, "layItem", "(LReceiptRolls$Item;)V"⟩
abbrev cX3_layWord : ByteArray := prog_5_method_7_code
def yX3_layWord : MethodName := ⟨RX3, "layWord", "(Ljava/lang/String;II)V"⟩
abbrev cX3_layTold : ByteArray := prog_5_method_8_code
def yX3_layTold : MethodName := ⟨RX3, "layTold", "(Ljava/lang/String;II)V"⟩
abbrev cX3_endLine : ByteArray := prog_5_method_9_code
def yX3_endLine : MethodName := ⟨RX3, "endLine", "()V"⟩
abbrev cX3_addSign : ByteArray := prog_5_method_10_code
def yX3_addSign : MethodName := ⟨RX3, "addSign", "(C)V"⟩
abbrev cX3_addText : ByteArray := prog_5_method_11_code
def yX3_addText : MethodName := ⟨RX3, "addText", "(Ljava/lang/String;)V"⟩
abbrev cX3_addNumber : ByteArray := prog_5_method_12_code
def yX3_addNumber : MethodName := ⟨RX3, "addNumber", "(I)V"⟩
abbrev cX3_addMoney : ByteArray := prog_5_method_13_code
def yX3_addMoney : MethodName := ⟨RX3, "addMoney", "(I)V"⟩
abbrev cX3_digitsOf : ByteArray := prog_5_method_14_code
def yX3_digitsOf : MethodName := ⟨RX3, "digitsOf", "(I)I"⟩
def RX4 : String := "ReceiptRolls$State"
def TX4 : u_T := fun k => match k with
  | 0 => ("ReceiptRolls$State", "rollLeft", "I", false)
  | 1 => ("ReceiptRolls$State", "linesPrinted", "I", false)
  | 2 => ("ReceiptRolls$State", "linesSpoilt", "I", false)
  | 3 => ("ReceiptRolls$State", "rolls", "I", false)
  | 4 => ("ReceiptRolls$State", "linesThrown", "I", false)
  | 5 => ("ReceiptRolls$State", "ticks", "I", false)
  | 6 => ("ReceiptRolls$State", "closed", "I", false)
  | 7 => ("ReceiptRolls$State", "done", "I", false)
  | 8 => ("ReceiptRolls$State", "itemsStruck", "I", false)
  | 9 => ("ReceiptRolls$State", "printing", "I", false)
  | 10 => ("ReceiptRolls$State", "settings", "[I", true)
  | 11 => ("ReceiptRolls$State", "open", "[LReceiptRolls$Receipt;", true)
  | _ => ("ReceiptRolls$State", "ledger", "[LReceiptRolls$Receipt;", true)
def tyX4 : Nat → FieldType := fun k => match k with
  | 0 => .int
  | 1 => .int
  | 2 => .int
  | 3 => .int
  | 4 => .int
  | 5 => .int
  | 6 => .int
  | 7 => .int
  | 8 => .int
  | 9 => .int
  | 10 => .array .int
  | 11 => .array (.object "ReceiptRolls$Receipt")
  | _ => .array (.object "ReceiptRolls$Receipt")
theorem nmX4 : ∀ a, a < 13 → ∀ b, b < 13 → a ≠ b → (TX4 a).2.1 ≠ (TX4 b).2.1 := by decide +kernel
theorem tyX4_ok : ∀ k, k < 13 → parseFieldDescriptor (TX4 k).2.2.1 = some (tyX4 k) := by decide +kernel
abbrev cX4_init : ByteArray := prog_6_method_1_code
def yX4_init : MethodName := ⟨RX4, "<init>", "()V"⟩
abbrev cX4_copyFrom : ByteArray := prog_6_method_2_code
def yX4_copyFrom : MethodName := ⟨RX4, "copyFrom", "(LReceiptRolls$State;)V"⟩
abbrev cX4_copyReceipts : ByteArray := prog_6_method_3_code
def yX4_copyReceipts : MethodName := ⟨RX4, "copyReceipts", "([LReceiptRolls$Receipt;[LReceiptRolls$Receipt;)V"⟩
abbrev cX4_settingAt : ByteArray := prog_6_method_4_code
def yX4_settingAt : MethodName := ⟨RX4, "settingAt", "(I)I"⟩
abbrev cX4_changeSetting : ByteArray := prog_6_method_5_code
def yX4_changeSetting : MethodName := ⟨RX4, "changeSetting", "(II)I"⟩
abbrev cX4_openAt : ByteArray := prog_6_method_6_code
def yX4_openAt : MethodName := ⟨RX4, "openAt", "(I)LReceiptRolls$Receipt;"⟩
abbrev cX4_places : ByteArray := prog_6_method_7_code
def yX4_places : MethodName := ⟨RX4, "places", "()I"⟩
abbrev cX4_placeAt : ByteArray := prog_6_method_8_code
def yX4_placeAt : MethodName := ⟨RX4, "placeAt", "(I)LReceiptRolls$Receipt;"⟩
abbrev cX4_freePlace : ByteArray := prog_6_method_9_code
def yX4_freePlace : MethodName := ⟨RX4, "freePlace", "()LReceiptRolls$Receipt;"⟩
abbrev cX4_known : ByteArray := prog_6_method_10_code
def yX4_known : MethodName := ⟨RX4, "known", "(I)LReceiptRolls$Receipt;"⟩
abbrev cX4_receiptsWaiting : ByteArray := prog_6_method_11_code
def yX4_receiptsWaiting : MethodName := ⟨RX4, "receiptsWaiting", "()I"⟩
abbrev cX4_waitingAt : ByteArray := prog_6_method_12_code
def yX4_waitingAt : MethodName := ⟨RX4, "waitingAt", "(I)LReceiptRolls$Receipt;"⟩
abbrev cX4_waitingAheadOf : ByteArray := prog_6_method_13_code
def yX4_waitingAheadOf : MethodName := ⟨RX4, "waitingAheadOf", "(LReceiptRolls$Receipt;)I"⟩
abbrev cX4_tick : ByteArray := prog_6_method_14_code
def yX4_tick : MethodName := ⟨RX4, "tick", "()I"⟩
abbrev cX4_printLine : ByteArray := prog_6_method_15_code
def yX4_printLine : MethodName := ⟨RX4, "printLine", "()Z"⟩
abbrev cX4_takeReceipt : ByteArray := prog_6_method_16_code
def yX4_takeReceipt : MethodName := ⟨RX4, "takeReceipt", "()LReceiptRolls$Receipt;"⟩
abbrev cX4_finish : ByteArray := prog_6_method_17_code
def yX4_finish : MethodName := ⟨RX4, "finish", "(LReceiptRolls$Receipt;)V"⟩
abbrev cX4_linesToPrint : ByteArray := prog_6_method_18_code
def yX4_linesToPrint : MethodName := ⟨RX4, "linesToPrint", "()I"⟩
abbrev cX4_linesUntilDone : ByteArray := prog_6_method_19_code
def yX4_linesUntilDone : MethodName := ⟨RX4, "linesUntilDone", "(LReceiptRolls$Receipt;)I"⟩
abbrev cX4_ticksFor : ByteArray := prog_6_method_20_code
def yX4_ticksFor : MethodName := ⟨RX4, "ticksFor", "(I)I"⟩
def RX5 : String := "ReceiptRolls"
def TX5 : u_T := fun k => match k with
  | 0 => ("ReceiptRolls", "now", "LReceiptRolls$State;", true)
  | 1 => ("ReceiptRolls", "history", "LReceiptRolls$History;", true)
  | 2 => ("ReceiptRolls", "slots", "[LReceiptRolls$State;", true)
  | 3 => ("ReceiptRolls", "pad", "Ljava/lang/StringBuilder;", true)
  | _ => ("ReceiptRolls", "sheet", "LReceiptRolls$Sheet;", true)
def tyX5 : Nat → FieldType := fun k => match k with
  | 0 => .object "ReceiptRolls$State"
  | 1 => .object "ReceiptRolls$History"
  | 2 => .array (.object "ReceiptRolls$State")
  | 3 => .object "java/lang/StringBuilder"
  | _ => .object "ReceiptRolls$Sheet"
theorem nmX5 : ∀ a, a < 5 → ∀ b, b < 5 → a ≠ b → (TX5 a).2.1 ≠ (TX5 b).2.1 := by decide +kernel
theorem tyX5_ok : ∀ k, k < 5 → parseFieldDescriptor (TX5 k).2.2.1 = some (tyX5 k) := by decide +kernel
abbrev cX5_init : ByteArray := prog_1_method_1_code
def yX5_init : MethodName := ⟨RX5, "<init>", "()V"⟩
abbrev cX5_set : ByteArray := prog_1_method_2_code
def yX5_set : MethodName := ⟨RX5, "set", "(II)I"⟩
abbrev cX5_ring : ByteArray := prog_1_method_3_code
def yX5_ring : MethodName := ⟨RX5, "ring", "(IIII)I"⟩
abbrev cX5_strike : ByteArray := prog_1_method_4_code
def yX5_strike : MethodName := ⟨RX5, "strike", "(II)I"⟩
abbrev cX5_close : ByteArray := prog_1_method_5_code
def yX5_close : MethodName := ⟨RX5, "close", "(II)I"⟩
abbrev cX5_hurry : ByteArray := prog_1_method_6_code
def yX5_hurry : MethodName := ⟨RX5, "hurry", "(II)I"⟩
abbrev cX5_newRoll : ByteArray := prog_1_method_7_code
def yX5_newRoll : MethodName := ⟨RX5, "newRoll", "()I"⟩
abbrev cX5_tear : ByteArray := prog_1_method_8_code
def yX5_tear : MethodName := ⟨RX5, "tear", "(I)I"⟩
abbrev cX5_pass : ByteArray := prog_1_method_9_code
def yX5_pass : MethodName := ⟨RX5, "pass", "(I)I"⟩
abbrev cX5_item : ByteArray := prog_1_method_10_code
def yX5_item : MethodName := ⟨RX5, "item", "(III)I"⟩
abbrev cX5_ofTill : ByteArray := prog_1_method_11_code
def yX5_ofTill : MethodName := ⟨RX5, "ofTill", "(II)I"⟩
abbrev cX5_ofReceipt : ByteArray := prog_1_method_12_code
def yX5_ofReceipt : MethodName := ⟨RX5, "ofReceipt", "(II)I"⟩
abbrev cX5_sign : ByteArray := prog_1_method_13_code
def yX5_sign : MethodName := ⟨RX5, "sign", "(III)I"⟩
abbrev cX5_waiting : ByteArray := prog_1_method_14_code
def yX5_waiting : MethodName := ⟨RX5, "waiting", "(I)I"⟩
abbrev cX5_printer : ByteArray := prog_1_method_15_code
def yX5_printer : MethodName := ⟨RX5, "printer", "(I)I"⟩
abbrev cX5_count : ByteArray := prog_1_method_16_code
def yX5_count : MethodName := ⟨RX5, "count", "(I)I"⟩
abbrev cX5_between : ByteArray := prog_1_method_17_code
def yX5_between : MethodName := ⟨RX5, "between", "(III)I"⟩
abbrev cX5_doneIn : ByteArray := prog_1_method_18_code
def yX5_doneIn : MethodName := ⟨RX5, "doneIn", "(I)I"⟩
abbrev cX5_linesLeft : ByteArray := prog_1_method_19_code
def yX5_linesLeft : MethodName := ⟨RX5, "linesLeft", "()I"⟩
abbrev cX5_outIn : ByteArray := prog_1_method_20_code
def yX5_outIn : MethodName := ⟨RX5, "outIn", "()I"⟩
abbrev cX5_bestWidth : ByteArray := prog_1_method_21_code
def yX5_bestWidth : MethodName := ⟨RX5, "bestWidth", "(II)I"⟩
abbrev cX5_ifStruck : ByteArray := prog_1_method_22_code
def yX5_ifStruck : MethodName := ⟨RX5, "ifStruck", "(II)I"⟩
abbrev cX5_put : ByteArray := prog_1_method_23_code
def yX5_put : MethodName := ⟨RX5, "put", "(J)I"⟩
abbrev cX5_wipe : ByteArray := prog_1_method_24_code
def yX5_wipe : MethodName := ⟨RX5, "wipe", "()I"⟩
abbrev cX5_fault : ByteArray := prog_1_method_25_code
def yX5_fault : MethodName := ⟨RX5, "fault", "()I"⟩
abbrev cX5_undo : ByteArray := prog_1_method_26_code
def yX5_undo : MethodName := ⟨RX5, "undo", "()I"⟩
abbrev cX5_save : ByteArray := prog_1_method_27_code
def yX5_save : MethodName := ⟨RX5, "save", "(I)I"⟩
abbrev cX5_restore : ByteArray := prog_1_method_28_code
def yX5_restore : MethodName := ⟨RX5, "restore", "(I)I"⟩
abbrev cX5_isPriority : ByteArray := prog_1_method_29_code
def yX5_isPriority : MethodName := ⟨RX5, "isPriority", "(I)Z"⟩
abbrev cX5_layLines : ByteArray := prog_1_method_30_code
def yX5_layLines : MethodName := ⟨RX5, "layLines", "(LReceiptRolls$Receipt;I)I"⟩
abbrev cX5_codeAt : ByteArray := prog_1_method_31_code
def yX5_codeAt : MethodName := ⟨RX5, "codeAt", "(JI)I"⟩
abbrev cX5_lengthOf : ByteArray := prog_1_method_32_code
def yX5_lengthOf : MethodName := ⟨RX5, "lengthOf", "(J)I"⟩
abbrev cX5_faultOfPad : ByteArray := prog_1_method_33_code
def yX5_faultOfPad : MethodName := ⟨RX5, "faultOfPad", "()I"⟩
def RX6 : String := "ReceiptRollsModel"
def TX6 : u_T := fun k => match k with
  | 0 => ("ReceiptRollsModel", "thrown", "I", false)
  | 1 => ("ReceiptRollsModel", "s", "[I", true)
  | 2 => ("ReceiptRollsModel", "undos", "[I", true)
  | 3 => ("ReceiptRollsModel", "undoMany", "I", false)
  | 4 => ("ReceiptRollsModel", "slots", "[I", true)
  | 5 => ("ReceiptRollsModel", "hasSlot", "[Z", true)
  | 6 => ("ReceiptRollsModel", "pad", "[I", true)
  | 7 => ("ReceiptRollsModel", "length", "I", false)
  | 8 => ("ReceiptRollsModel", "line", "[I", true)
  | 9 => ("ReceiptRollsModel", "wanted", "I", false)
  | 10 => ("ReceiptRollsModel", "at", "I", false)
  | 11 => ("ReceiptRollsModel", "column", "I", false)
  | 12 => ("ReceiptRollsModel", "begun", "I", false)
  | 13 => ("ReceiptRollsModel", "word", "[I", true)
  | _ => ("ReceiptRollsModel", "wordMany", "I", false)
def tyX6 : Nat → FieldType := fun k => match k with
  | 0 => .int
  | 1 => .array .int
  | 2 => .array .int
  | 3 => .int
  | 4 => .array .int
  | 5 => .array .boolean
  | 6 => .array .int
  | 7 => .int
  | 8 => .array .int
  | 9 => .int
  | 10 => .int
  | 11 => .int
  | 12 => .int
  | 13 => .array .int
  | _ => .int
theorem nmX6 : ∀ a, a < 15 → ∀ b, b < 15 → a ≠ b → (TX6 a).2.1 ≠ (TX6 b).2.1 := by decide +kernel
theorem tyX6_ok : ∀ k, k < 15 → parseFieldDescriptor (TX6 k).2.2.1 = some (tyX6 k) := by decide +kernel
abbrev cX6_init : ByteArray := prog_8_method_1_code
def yX6_init : MethodName := ⟨RX6, "<init>", "()V"⟩
abbrev cX6_in : ByteArray := prog_8_method_3_code
def yX6_in : MethodName := ⟨RX6, "in", "(III)Z"⟩
abbrev cX6_of : ByteArray := prog_8_method_4_code
def yX6_of : MethodName := ⟨RX6, "of", "(II)I"⟩
abbrev cX6_lay : ByteArray := prog_8_method_5_code
def yX6_lay : MethodName := ⟨RX6, "lay", "(III)V"⟩
abbrev cX6_isTill : ByteArray := prog_8_method_6_code
def yX6_isTill : MethodName := ⟨RX6, "isTill", "(I)Z"⟩
abbrev cX6_records : ByteArray := prog_8_method_7_code
def yX6_records : MethodName := ⟨RX6, "records", "()V"⟩
abbrev cX6_packed : ByteArray := prog_8_method_8_code
def yX6_packed : MethodName := ⟨RX6, "packed", "(II)I"⟩
abbrev cX6_howMany : ByteArray := prog_8_method_9_code
def yX6_howMany : MethodName := ⟨RX6, "howMany", "(II)I"⟩
abbrev cX6_price : ByteArray := prog_8_method_10_code
def yX6_price : MethodName := ⟨RX6, "price", "(II)I"⟩
abbrev cX6_tax : ByteArray := prog_8_method_11_code
def yX6_tax : MethodName := ⟨RX6, "tax", "(II)I"⟩
abbrev cX6_isStruck : ByteArray := prog_8_method_12_code
def yX6_isStruck : MethodName := ⟨RX6, "isStruck", "(II)Z"⟩
abbrev cX6_nameLength : ByteArray := prog_8_method_13_code
def yX6_nameLength : MethodName := ⟨RX6, "nameLength", "(II)I"⟩
abbrev cX6_nameSign : ByteArray := prog_8_method_14_code
def yX6_nameSign : MethodName := ⟨RX6, "nameSign", "(III)I"⟩
abbrev cX6_sum : ByteArray := prog_8_method_15_code
def yX6_sum : MethodName := ⟨RX6, "sum", "(II)I"⟩
abbrev cX6_event : ByteArray := prog_8_method_16_code
def yX6_event : MethodName := ⟨RX6, "event", "(II)I"⟩
abbrev cX6_happens : ByteArray := prog_8_method_17_code
def yX6_happens : MethodName := ⟨RX6, "happens", "(II)V"⟩
abbrev cX6_total : ByteArray := prog_8_method_18_code
def yX6_total : MethodName := ⟨RX6, "total", "(I)I"⟩
abbrev cX6_rateOf : ByteArray := prog_8_method_19_code
def yX6_rateOf : MethodName := ⟨RX6, "rateOf", "(I)I"⟩
abbrev cX6_hasTax : ByteArray := prog_8_method_20_code
def yX6_hasTax : MethodName := ⟨RX6, "hasTax", "(II)Z"⟩
abbrev cX6_taxOf : ByteArray := prog_8_method_21_code
def yX6_taxOf : MethodName := ⟨RX6, "taxOf", "(II)I"⟩
abbrev cX6_struckOf : ByteArray := prog_8_method_22_code
def yX6_struckOf : MethodName := ⟨RX6, "struckOf", "(I)I"⟩
abbrev cX6_puts : ByteArray := prog_8_method_23_code
def yX6_puts : MethodName := ⟨RX6, "puts", "(II)V"⟩
abbrev cX6_lays : ByteArray := prog_8_method_24_code
def yX6_lays : MethodName := ⟨RX6, "lays", "(I)V"⟩
abbrev cX6_nextLine : ByteArray := prog_8_method_25_code
def yX6_nextLine : MethodName := ⟨RX6, "nextLine", "()V"⟩
abbrev cX6_number : ByteArray := prog_8_method_26_code
def yX6_number : MethodName := ⟨RX6, "number", "(I)V"⟩
abbrev cX6_money : ByteArray := prog_8_method_27_code
def yX6_money : MethodName := ⟨RX6, "money", "(II)V"⟩
abbrev cX6_layWord : ByteArray := prog_8_method_28_code
def yX6_layWord : MethodName := ⟨RX6, "layWord", "(I)V"⟩
abbrev cX6_addsToWord : ByteArray := prog_8_method_29_code
def yX6_addsToWord : MethodName := ⟨RX6, "addsToWord", "(I)V"⟩
abbrev cX6_layItem : ByteArray := prog_8_method_30_code
def yX6_layItem : MethodName := ⟨RX6, "layItem", "(III)V"⟩
abbrev cX6_layVoid : ByteArray := prog_8_method_31_code
def yX6_layVoid : MethodName := ⟨RX6, "layVoid", "(III)V"⟩
abbrev cX6_layTax : ByteArray := prog_8_method_32_code
def yX6_layTax : MethodName := ⟨RX6, "layTax", "(III)V"⟩
abbrev cX6_numberOf : ByteArray := prog_8_method_33_code
def yX6_numberOf : MethodName := ⟨RX6, "numberOf", "(I)I"⟩
abbrev cX6_laysAll : ByteArray := prog_8_method_34_code
def yX6_laysAll : MethodName := ⟨RX6, "laysAll", "(III)I"⟩
abbrev cX6_widthOf : ByteArray := prog_8_method_35_code
def yX6_widthOf : MethodName := ⟨RX6, "widthOf", "(I)I"⟩
abbrev cX6_linesOf : ByteArray := prog_8_method_36_code
def yX6_linesOf : MethodName := ⟨RX6, "linesOf", "(I)I"⟩
abbrev cX6_recordOf : ByteArray := prog_8_method_37_code
def yX6_recordOf : MethodName := ⟨RX6, "recordOf", "(I)I"⟩
abbrev cX6_isHow : ByteArray := prog_8_method_38_code
def yX6_isHow : MethodName := ⟨RX6, "isHow", "(II)Z"⟩
abbrev cX6_manyHow : ByteArray := prog_8_method_39_code
def yX6_manyHow : MethodName := ⟨RX6, "manyHow", "(I)I"⟩
abbrev cX6_printedNow : ByteArray := prog_8_method_40_code
def yX6_printedNow : MethodName := ⟨RX6, "printedNow", "()I"⟩
abbrev cX6_isAhead : ByteArray := prog_8_method_41_code
def yX6_isAhead : MethodName := ⟨RX6, "isAhead", "(II)Z"⟩
abbrev cX6_rank : ByteArray := prog_8_method_42_code
def yX6_rank : MethodName := ⟨RX6, "rank", "(I)I"⟩
abbrev cX6_recordAt : ByteArray := prog_8_method_43_code
def yX6_recordAt : MethodName := ⟨RX6, "recordAt", "(I)I"⟩
abbrev cX6_empties : ByteArray := prog_8_method_44_code
def yX6_empties : MethodName := ⟨RX6, "empties", "(I)V"⟩
abbrev cX6_forgets : ByteArray := prog_8_method_45_code
def yX6_forgets : MethodName := ⟨RX6, "forgets", "()V"⟩
abbrev cX6_ends : ByteArray := prog_8_method_46_code
def yX6_ends : MethodName := ⟨RX6, "ends", "(I)V"⟩
abbrev cX6_printsLine : ByteArray := prog_8_method_47_code
def yX6_printsLine : MethodName := ⟨RX6, "printsLine", "()Z"⟩
abbrev cX6_ticks : ByteArray := prog_8_method_48_code
def yX6_ticks : MethodName := ⟨RX6, "ticks", "()I"⟩
abbrev cX6_leastOf : ByteArray := prog_8_method_49_code
def yX6_leastOf : MethodName := ⟨RX6, "leastOf", "(I)I"⟩
abbrev cX6_mostOf : ByteArray := prog_8_method_50_code
def yX6_mostOf : MethodName := ⟨RX6, "mostOf", "(I)I"⟩
abbrev cX6_set : ByteArray := prog_8_method_51_code
def yX6_set : MethodName := ⟨RX6, "set", "(II)I"⟩
abbrev cX6_packsName : ByteArray := prog_8_method_52_code
def yX6_packsName : MethodName := ⟨RX6, "packsName", "(II)V"⟩
abbrev cX6_ring : ByteArray := prog_8_method_53_code
def yX6_ring : MethodName := ⟨RX6, "ring", "(IIII)I"⟩
abbrev cX6_isItem : ByteArray := prog_8_method_54_code
def yX6_isItem : MethodName := ⟨RX6, "isItem", "(II)Z"⟩
abbrev cX6_strike : ByteArray := prog_8_method_55_code
def yX6_strike : MethodName := ⟨RX6, "strike", "(II)I"⟩
abbrev cX6_freeRecord : ByteArray := prog_8_method_56_code
def yX6_freeRecord : MethodName := ⟨RX6, "freeRecord", "()I"⟩
abbrev cX6_close : ByteArray := prog_8_method_57_code
def yX6_close : MethodName := ⟨RX6, "close", "(II)I"⟩
abbrev cX6_hurry : ByteArray := prog_8_method_58_code
def yX6_hurry : MethodName := ⟨RX6, "hurry", "(II)I"⟩
abbrev cX6_newRoll : ByteArray := prog_8_method_59_code
def yX6_newRoll : MethodName := ⟨RX6, "newRoll", "()I"⟩
abbrev cX6_tear : ByteArray := prog_8_method_60_code
def yX6_tear : MethodName := ⟨RX6, "tear", "(I)I"⟩
abbrev cX6_pass : ByteArray := prog_8_method_61_code
def yX6_pass : MethodName := ⟨RX6, "pass", "(I)I"⟩
abbrev cX6_linesOfItem : ByteArray := prog_8_method_62_code
def yX6_linesOfItem : MethodName := ⟨RX6, "linesOfItem", "(II)I"⟩
abbrev cX6_item : ByteArray := prog_8_method_63_code
def yX6_item : MethodName := ⟨RX6, "item", "(III)I"⟩
abbrev cX6_ofTill : ByteArray := prog_8_method_64_code
def yX6_ofTill : MethodName := ⟨RX6, "ofTill", "(II)I"⟩
abbrev cX6_ofReceipt : ByteArray := prog_8_method_65_code
def yX6_ofReceipt : MethodName := ⟨RX6, "ofReceipt", "(II)I"⟩
abbrev cX6_sign : ByteArray := prog_8_method_66_code
def yX6_sign : MethodName := ⟨RX6, "sign", "(III)I"⟩
abbrev cX6_signAt : ByteArray := prog_8_method_67_code
def yX6_signAt : MethodName := ⟨RX6, "signAt", "(III)I"⟩
abbrev cX6_waiting : ByteArray := prog_8_method_68_code
def yX6_waiting : MethodName := ⟨RX6, "waiting", "(I)I"⟩
abbrev cX6_printer : ByteArray := prog_8_method_69_code
def yX6_printer : MethodName := ⟨RX6, "printer", "(I)I"⟩
abbrev cX6_count : ByteArray := prog_8_method_70_code
def yX6_count : MethodName := ⟨RX6, "count", "(I)I"⟩
abbrev cX6_between : ByteArray := prog_8_method_71_code
def yX6_between : MethodName := ⟨RX6, "between", "(III)I"⟩
abbrev cX6_leftOf : ByteArray := prog_8_method_72_code
def yX6_leftOf : MethodName := ⟨RX6, "leftOf", "(I)I"⟩
abbrev cX6_linesUpTo : ByteArray := prog_8_method_73_code
def yX6_linesUpTo : MethodName := ⟨RX6, "linesUpTo", "(I)I"⟩
abbrev cX6_ticksFor : ByteArray := prog_8_method_74_code
def yX6_ticksFor : MethodName := ⟨RX6, "ticksFor", "(I)I"⟩
abbrev cX6_doneIn : ByteArray := prog_8_method_75_code
def yX6_doneIn : MethodName := ⟨RX6, "doneIn", "(I)I"⟩
abbrev cX6_allLeft : ByteArray := prog_8_method_76_code
def yX6_allLeft : MethodName := ⟨RX6, "allLeft", "()I"⟩
abbrev cX6_linesLeft : ByteArray := prog_8_method_77_code
def yX6_linesLeft : MethodName := ⟨RX6, "linesLeft", "()I"⟩
abbrev cX6_outIn : ByteArray := prog_8_method_78_code
def yX6_outIn : MethodName := ⟨RX6, "outIn", "()I"⟩
abbrev cX6_bestWidth : ByteArray := prog_8_method_79_code
def yX6_bestWidth : MethodName := ⟨RX6, "bestWidth", "(II)I"⟩
abbrev cX6_ifStruck : ByteArray := prog_8_method_80_code
def yX6_ifStruck : MethodName := ⟨RX6, "ifStruck", "(II)I"⟩
abbrev cX6_put : ByteArray := prog_8_method_81_code
def yX6_put : MethodName := ⟨RX6, "put", "(J)I"⟩
abbrev cX6_wipe : ByteArray := prog_8_method_82_code
def yX6_wipe : MethodName := ⟨RX6, "wipe", "()I"⟩
abbrev cX6_canStand : ByteArray := prog_8_method_83_code
def yX6_canStand : MethodName := ⟨RX6, "canStand", "(I)Z"⟩
abbrev cX6_faultAt : ByteArray := prog_8_method_84_code
def yX6_faultAt : MethodName := ⟨RX6, "faultAt", "()I"⟩
abbrev cX6_fault : ByteArray := prog_8_method_85_code
def yX6_fault : MethodName := ⟨RX6, "fault", "()I"⟩
abbrev cX6_undo : ByteArray := prog_8_method_86_code
def yX6_undo : MethodName := ⟨RX6, "undo", "()I"⟩
abbrev cX6_save : ByteArray := prog_8_method_87_code
def yX6_save : MethodName := ⟨RX6, "save", "(I)I"⟩
abbrev cX6_restore : ByteArray := prog_8_method_88_code
def yX6_restore : MethodName := ⟨RX6, "restore", "(I)I"⟩
def RJ5 : String := "java/lang/AbstractStringBuilder"
abbrev cJ5_init_d00df : ByteArray := prog_9_method_2_code
def yJ5_init_d00df : MethodName := ⟨RJ5, "<init>", "(I)V"⟩
abbrev cJ5_length_8abf5 : ByteArray := prog_9_method_6_code
def yJ5_length_8abf5 : MethodName := ⟨RJ5, "length", "()I"⟩
abbrev cJ5_ensureCapacityInternal_d00df : ByteArray := prog_9_method_9_code
def yJ5_ensureCapacityInternal_d00df : MethodName := ⟨RJ5, "ensureCapacityInternal", "(I)V"⟩
abbrev cJ5_newCapacity_0f7a4 : ByteArray := prog_9_method_10_code
def yJ5_newCapacity_0f7a4 : MethodName := ⟨RJ5, "newCapacity", "(I)I"⟩
abbrev cJ5_inflate_da8c8 : ByteArray := prog_9_method_11_code
def yJ5_inflate_da8c8 : MethodName := ⟨RJ5, "inflate", "()V"⟩
abbrev cJ5_setLength_d00df : ByteArray := prog_9_method_13_code
def yJ5_setLength_d00df : MethodName := ⟨RJ5, "setLength", "(I)V"⟩
abbrev cJ5_charAt_5068e : ByteArray := prog_9_method_14_code
def yJ5_charAt_5068e : MethodName := ⟨RJ5, "charAt", "(I)C"⟩
abbrev cJ5_append_3fe6f : ByteArray := prog_9_method_31_code
def yJ5_append_3fe6f : MethodName := ⟨RJ5, "append", "(C)Ljava/lang/AbstractStringBuilder;"⟩
abbrev cJ5_getValue_6d5f1 : ByteArray := prog_9_method_64_code
def yJ5_getValue_6d5f1 : MethodName := ⟨RJ5, "getValue", "()[B"⟩
abbrev cJ5_isLatin1_aae02 : ByteArray := prog_9_method_68_code
def yJ5_isLatin1_aae02 : MethodName := ⟨RJ5, "isLatin1", "()Z"⟩
def RJx8e188 : String := "java/lang/Cloneable"
def RJ6 : String := "java/lang/Integer"
abbrev cJ6_bitCount_0f7a4 : ByteArray := prog_11_method_49_code
def yJ6_bitCount_0f7a4 : MethodName := ⟨RJ6, "bitCount", "(I)I"⟩
def RJ9 : String := "java/lang/Math"
abbrev cJ9_abs_0f7a4 : ByteArray := prog_12_method_59_code
def yJ9_abs_0f7a4 : MethodName := ⟨RJ9, "abs", "(I)I"⟩
abbrev cJ9_max_7cf53 : ByteArray := prog_12_method_65_code
def yJ9_max_7cf53 : MethodName := ⟨RJ9, "max", "(II)I"⟩
abbrev cJ9_min_7cf53 : ByteArray := prog_12_method_69_code
def yJ9_min_7cf53 : MethodName := ⟨RJ9, "min", "(II)I"⟩
def RJ0 : String := "java/lang/String"
def TJ0 : u_T := fun k => match k with
  | 0 => ("java/lang/String", "value", "[B", true)
  | 1 => ("java/lang/String", "coder", "B", true)
  | 2 => ("java/lang/String", "hash", "I", false)
  | _ => ("java/lang/String", "hashIsZero", "Z", false)
def tyJ0 : Nat → FieldType := fun k => match k with
  | 0 => .array .byte
  | 1 => .byte
  | 2 => .int
  | _ => .boolean
theorem nmJ0 : ∀ a, a < 4 → ∀ b, b < 4 → a ≠ b → (TJ0 a).2.1 ≠ (TJ0 b).2.1 := by decide +kernel
theorem tyJ0_ok : ∀ k, k < 4 → parseFieldDescriptor (TJ0 k).2.2.1 = some (tyJ0 k) := by decide +kernel
abbrev cJ0_init_81219 : ByteArray := prog_13_method_53_code
def yJ0_init_81219 : MethodName := ⟨RJ0, "<init>", "(Ljava/lang/StringBuilder;)V"⟩
abbrev cJ0_length_8abf5 : ByteArray := prog_13_method_54_code
def yJ0_length_8abf5 : MethodName := ⟨RJ0, "length", "()I"⟩
abbrev cJ0_charAt_5068e : ByteArray := prog_13_method_56_code
def yJ0_charAt_5068e : MethodName := ⟨RJ0, "charAt", "(I)C"⟩
abbrev cJ0_init_db425 : ByteArray := prog_13_method_150_code
def yJ0_init_db425 : MethodName := ⟨RJ0, "<init>", "(Ljava/lang/AbstractStringBuilder;Ljava/lang/Void;)V"⟩
abbrev cJ0_coder_7d493 : ByteArray := prog_13_method_152_code
def yJ0_coder_7d493 : MethodName := ⟨RJ0, "coder", "()B"⟩
abbrev cJ0_isLatin1_aae02 : ByteArray := prog_13_method_154_code
def yJ0_isLatin1_aae02 : MethodName := ⟨RJ0, "isLatin1", "()Z"⟩
abbrev cJ0_checkIndex_df160 : ByteArray := prog_13_method_155_code
def yJ0_checkIndex_df160 : MethodName := ⟨RJ0, "checkIndex", "(II)V"⟩
abbrev cJ0_checkBoundsOffCount_cabcc : ByteArray := prog_13_method_157_code
def yJ0_checkBoundsOffCount_cabcc : MethodName := ⟨RJ0, "checkBoundsOffCount", "(III)I"⟩
def RJ4 : String := "java/lang/StringBuilder"
def TJ4 : u_T := fun k => match k with
  | 0 => ("java/lang/AbstractStringBuilder", "value", "[B", false)
  | 1 => ("java/lang/AbstractStringBuilder", "coder", "B", false)
  | 2 => ("java/lang/AbstractStringBuilder", "maybeLatin1", "Z", false)
  | _ => ("java/lang/AbstractStringBuilder", "count", "I", false)
def tyJ4 : Nat → FieldType := fun k => match k with
  | 0 => .array .byte
  | 1 => .byte
  | 2 => .boolean
  | _ => .int
theorem nmJ4 : ∀ a, a < 4 → ∀ b, b < 4 → a ≠ b → (TJ4 a).2.1 ≠ (TJ4 b).2.1 := by decide +kernel
theorem tyJ4_ok : ∀ k, k < 4 → parseFieldDescriptor (TJ4 k).2.2.1 = some (tyJ4 k) := by decide +kernel
abbrev cJ4_init_da8c8 : ByteArray := prog_14_method_1_code
def yJ4_init_da8c8 : MethodName := ⟨RJ4, "<init>", "()V"⟩
abbrev cJ4_append_cf468 : ByteArray := prog_14_method_14_code
def yJ4_append_cf468 : MethodName := ⟨RJ4, "append", "(C)Ljava/lang/StringBuilder;"⟩
abbrev cJ4_toString_0e30d : ByteArray := prog_14_method_42_code
def yJ4_toString_0e30d : MethodName := ⟨RJ4, "toString", "()Ljava/lang/String;"⟩
abbrev cJ4_charAt_5068e : ByteArray := prog_14_method_88_code
def yJ4_charAt_5068e : MethodName := ⟨RJ4, "charAt", "(I)C"⟩
abbrev cJ4_setLength_d00df : ByteArray := prog_14_method_89_code
def yJ4_setLength_d00df : MethodName := ⟨RJ4, "setLength", "(I)V"⟩
abbrev cJ4_length_8abf5 : ByteArray := prog_14_method_93_code
def yJ4_length_8abf5 : MethodName := ⟨RJ4, "length", "()I"⟩
def RJ1 : String := "java/lang/StringLatin1"
abbrev cJ1_charAt_3b067 : ByteArray := prog_15_method_2_code
def yJ1_charAt_3b067 : MethodName := ⟨RJ1, "charAt", "([BI)C"⟩
abbrev cJ1_canEncode_fc78d : ByteArray := prog_15_method_3_code
def yJ1_canEncode_fc78d : MethodName := ⟨RJ1, "canEncode", "(C)Z"⟩
abbrev cJ1_fillNull_b72d1 : ByteArray := prog_15_method_48_code
def yJ1_fillNull_b72d1 : MethodName := ⟨RJ1, "fillNull", "([BII)V"⟩
abbrev cJ1_inflate_0e8fd : ByteArray := prog_15_method_50_code
def yJ1_inflate_0e8fd : MethodName := ⟨RJ1, "inflate", "([BI[BII)V"⟩
def RJ2 : String := "java/lang/StringUTF16"
abbrev cJ2_newBytesFor_77867 : ByteArray := prog_16_method_2_code
def yJ2_newBytesFor_77867 : MethodName := ⟨RJ2, "newBytesFor", "(I)[B"⟩
abbrev cJ2_newBytesLength_0f7a4 : ByteArray := prog_16_method_3_code
def yJ2_newBytesLength_0f7a4 : MethodName := ⟨RJ2, "newBytesLength", "(I)I"⟩
abbrev cJ2_putChar_b72d1 : ByteArray := prog_16_method_4_code
def yJ2_putChar_b72d1 : MethodName := ⟨RJ2, "putChar", "([BII)V"⟩
abbrev cJ2_getChar_3b067 : ByteArray := prog_16_method_5_code
def yJ2_getChar_3b067 : MethodName := ⟨RJ2, "getChar", "([BI)C"⟩
abbrev cJ2_length_9d52b : ByteArray := prog_16_method_6_code
def yJ2_length_9d52b : MethodName := ⟨RJ2, "length", "([B)I"⟩
abbrev cJ2_coderFromArrayLen_85cad : ByteArray := prog_16_method_15_code
def yJ2_coderFromArrayLen_85cad : MethodName := ⟨RJ2, "coderFromArrayLen", "([BI)B"⟩
abbrev cJ2_compress_39247 : ByteArray := prog_16_method_17_code
def yJ2_compress_39247 : MethodName := ⟨RJ2, "compress", "([BII)[B"⟩
abbrev cJ2_compress_5af95 : ByteArray := prog_16_method_22_code
def yJ2_compress_5af95 : MethodName := ⟨RJ2, "compress", "([BI[BII)I"⟩
abbrev cJ2_fillNull_b72d1 : ByteArray := prog_16_method_70_code
def yJ2_fillNull_b72d1 : MethodName := ⟨RJ2, "fillNull", "([BII)V"⟩
abbrev cJ2_putCharSB_b72d1 : ByteArray := prog_16_method_71_code
def yJ2_putCharSB_b72d1 : MethodName := ⟨RJ2, "putCharSB", "([BII)V"⟩
abbrev cJ2_charAt_3b067 : ByteArray := prog_16_method_83_code
def yJ2_charAt_3b067 : MethodName := ⟨RJ2, "charAt", "([BI)C"⟩
abbrev cJ2_inflate_0e8fd : ByteArray := prog_16_method_86_code
def yJ2_inflate_0e8fd : MethodName := ⟨RJ2, "inflate", "([BI[BII)V"⟩
abbrev cJ2_checkIndex_2214a : ByteArray := prog_16_method_91_code
def yJ2_checkIndex_2214a : MethodName := ⟨RJ2, "checkIndex", "(I[B)V"⟩
abbrev cJ2_checkBoundsOffCount_d044e : ByteArray := prog_16_method_94_code
def yJ2_checkBoundsOffCount_d044e : MethodName := ⟨RJ2, "checkBoundsOffCount", "(II[B)V"⟩
def RJ10 : String := "java/lang/System"
def RJ7 : String := "java/util/Arrays"
abbrev cJ7_rangeCheck_23922 : ByteArray := prog_18_method_30_code
def yJ7_rangeCheck_23922 : MethodName := ⟨RJ7, "rangeCheck", "(III)V"⟩
abbrev cJ7_fill_eb02e : ByteArray := prog_18_method_110_code
def yJ7_fill_eb02e : MethodName := ⟨RJ7, "fill", "([BIIB)V"⟩
abbrev cJ7_copyOf_9075b : ByteArray := prog_18_method_121_code
def yJ7_copyOf_9075b : MethodName := ⟨RJ7, "copyOf", "([BI)[B"⟩
abbrev cJ7_checkLength_df160 : ByteArray := prog_18_method_131_code
def yJ7_checkLength_df160 : MethodName := ⟨RJ7, "checkLength", "(II)V"⟩
abbrev cJ7_copyOfRange_39247 : ByteArray := prog_18_method_132_code
def yJ7_copyOfRange_39247 : MethodName := ⟨RJ7, "copyOfRange", "([BII)[B"⟩
abbrev cJ7_copyOfRangeByte_39247 : ByteArray := prog_18_method_133_code
def yJ7_copyOfRangeByte_39247 : MethodName := ⟨RJ7, "copyOfRangeByte", "([BII)[B"⟩
def RJ8 : String := "jdk/internal/util/ArraysSupport"
abbrev cJ8_newLength_cabcc : ByteArray := prog_19_method_27_code
def yJ8_newLength_cabcc : MethodName := ⟨RJ8, "newLength", "(III)I"⟩
abbrev cJ8_hugeLength_7cf53 : ByteArray := prog_19_method_28_code
def yJ8_hugeLength_7cf53 : MethodName := ⟨RJ8, "hugeLength", "(II)I"⟩
def RJ3 : String := "jdk/internal/util/Preconditions"
abbrev cJ3_checkIndex_8e157 : ByteArray := prog_20_method_11_code
def yJ3_checkIndex_8e157 : MethodName := ⟨RJ3, "checkIndex", "(IILjava/util/function/BiFunction;)I"⟩
abbrev cJ3_checkFromIndexSize_8c36e : ByteArray := prog_20_method_13_code
def yJ3_checkFromIndexSize_8c36e : MethodName := ⟨RJ3, "checkFromIndexSize", "(IIILjava/util/function/BiFunction;)I"⟩
def RL : String := "ReceiptRollsLaw"
abbrev cL_law : ByteArray := code
def yL_law : MethodName := ⟨RL, "law", "([I)Z"⟩
abbrev vwCl : List vw_C := [(RJ0, TJ0, 4), (RJ4, TJ4, 4), (RX0, TX0, 2), (RX1, TX1, 4), (RX2, TX2, 14), (RX3, TX3, 6), (RX4, TX4, 13), (RX5, TX5, 5), (RX6, TX6, 15)]
end
section
/-! THE PICTURE: values, cells, heaps as a method's function sees them -/
abbrev AV : Type := Int32 ⊕ (Int64 ⊕ Option Nat)
def tV : AV → Value
  | .inl x => .int x
  | .inr (.inl y) => .long y
  | .inr (.inr r) => va_rf r
abbrev Cl : Type := (Nat × vp_A) ⊕ (Nat × List AV)
/-- the cells, how many addresses are used up, how many slots were made -/
abbrev Hp : Type := (Nat → Option Cl) × Nat × Nat
abbrev Rs : Type := Option (Hp × Option AV)
/-- class numbers and slots; the array classes; the first address that is ours; the statics' references -/
abbrev Cx : Type := va_G × (Nat → ClassId) × Nat × (Nat → Option Nat)
/-- a method: name, code, locals, what it returns, how deep its calls go -/
abbrev MI : Type := MethodName × ByteArray × Nat × Option FieldType × Nat
def tyA : Nat → FieldType
  | 0 => .int
  | 1 => .byte
  | 2 => .boolean
  | 3 => .char
  | 4 => .object "ReceiptRolls$Item"
  | 5 => .object "ReceiptRolls$Receipt"
  | _ => .object "ReceiptRolls$State"
def tysX (X : Cx) : List (ClassId × FieldType) := [(X.2.1 0, .int), (X.2.1 1, .byte), (X.2.1 2, .boolean), (X.2.1 3, .char), (X.2.1 4, .object "ReceiptRolls$Item"), (X.2.1 5, .object "ReceiptRolls$Receipt"), (X.2.1 6, .object "ReceiptRolls$State")]
theorem tysX_at (X : Cx) {k : Nat} (h : k < 7) : (tysX X)[k]? = some (X.2.1 k, tyA k) := by
  match k, h with
  | 0, _ => rfl
  | 1, _ => rfl
  | 2, _ => rfl
  | 3, _ => rfl
  | 4, _ => rfl
  | 5, _ => rfl
  | 6, _ => rfl
/-- ours: what may be written -/
def AX (X : Cx) : Nat → Prop := fun q => X.2.2.1 ≤ q
def rep1 (X : Cx) (s : State) (ws : va_W) (a : Nat) (e : Cl) : Prop := match e with
  | .inl (k, arr) => (k < 7 ∧ ∃ i : Nat, ws[i]? = some (a, .inl (X.2.1 k, arr))) ∨ (k = 10 ∧ ∃ g : Nat → Int32, arr.2 = .inl g ∧ va_T .int a arr.1 (fun j => .int (g j)) (AX X) s s.heap) ∨ (k = 11 ∧ ∃ g : Nat → Int32, arr.2 = .inl g ∧ (∀ j, fits .byte (.int (g j)) = true) ∧ va_T .byte a arr.1 (fun j => .int (g j)) (AX X) s s.heap)
  | .inr (ci, fs) => (ci < 9 ∧ ∃ i : Nat, ws[i]? = some (a, .inr (ci, fs.map tV))) ∨ (ci = 10 ∧ ∃ q : Nat, fs = [.inr (.inr (some q)), .inl 0] ∧ va_O "java/lang/String" a (AX X) s s.heap ∧ va_OF "java/lang/String" "value" "[B" (.ref q) a (AX X) s s.heap ∧ va_OF "java/lang/String" "coder" "B" (.int 0) a (AX X) s s.heap)
/-- the machine's heap holds the picture -/
def RepH (X : Cx) (s : State) (h : Hp) (H : Heap) : Prop := ∃ ws : va_W, va_P X.1 vwCl ws H ∧ va_D (AX X) ws ∧ H.size = h.2.1 ∧ X.2.2.1 ≤ h.2.1 ∧ ∀ a e, h.1 a = some e → rep1 X s ws a e
def FrN (N0 : Nat) (H1 H2 : Heap) : Prop := ∀ q : Nat, q < N0 → H2[q]? = H1[q]?
theorem FrN.rf {N0 : Nat} {H : Heap} : FrN N0 H H := fun _ _ => rfl
theorem FrN.trans {N0 : Nat} {H1 H2 H3 : Heap} (h : FrN N0 H1 H2) (h' : FrN N0 H2 H3) : FrN N0 H1 H3 := fun q hq => (h' q hq).trans (h q hq)
theorem FrN.symm {N0 : Nat} {H1 H2 : Heap} (h : FrN N0 H1 H2) : FrN N0 H2 H1 := fun q hq => (h q hq).symm
/-- what a method needs of its start, beside the words -/
def Env (X : Cx) (U : State) : Prop :=
  va_K X.1 vwCl (tysX X) U ∧ (va_AO "ReceiptRolls$Item" U ∧ va_AO "ReceiptRolls$Receipt" U ∧ va_AO "ReceiptRolls$State" U) ∧
  (va_Nw (.methodLinkNest "ReceiptRolls$State" 31 yX2_init "ReceiptRolls") U ∧ va_Nw (.methodLinkNest "ReceiptRolls" 36 yX3_init "ReceiptRolls") U) ∧
  (va_Nw (.fieldLinkNest "ReceiptRolls$Sheet" 69 "ReceiptRolls" "RATES" "[I" "ReceiptRolls") U ∧ va_Nw (.fieldLinkNest "ReceiptRolls$Receipt" 86 "ReceiptRolls" "RATES" "[I" "ReceiptRolls") U) ∧
  (va_Z "ReceiptRolls" "LEAST_SETTINGS" "[I" (va_rf (X.2.2.2 0)) (AX X) U U.heap ∧ va_Z "ReceiptRolls" "MOST_SETTINGS" "[I" (va_rf (X.2.2.2 1)) (AX X) U U.heap ∧ va_Z "ReceiptRolls" "RATES" "[I" (va_rf (X.2.2.2 2)) (AX X) U U.heap ∧ va_Z "jdk/internal/util/Preconditions" "SIOOBE_FORMATTER" "Ljava/util/function/BiFunction;" (va_rf (X.2.2.2 3)) (AX X) U U.heap ∧ va_Z "java/lang/String" "COMPACT_STRINGS" "Z" (.int 1) (AX X) U U.heap) ∧
  ((∃ a, X.2.2.2 4 = some a ∧ vk_R "ReceiptRolls$Sheet" 19 "#" a U) ∧ (∃ a, X.2.2.2 5 = some a ∧ vk_R "ReceiptRolls$Sheet" 50 "void " a U) ∧ (∃ a, X.2.2.2 6 = some a ∧ vk_R "ReceiptRolls$Sheet" 62 "sum" a U) ∧ (∃ a, X.2.2.2 7 = some a ∧ vk_R "ReceiptRolls$Sheet" 76 "tax " a U)) ∧
  va_Nw (.castable "[B" "java/lang/Cloneable") U
theorem fr_kept {X : Cx} {H1 H2 : Heap} (hf : FrN X.2.2.1 H1 H2) : ∀ a : Nat, a < H1.size → ¬ AX X a → H2[a]? = H1[a]? := fun a _ hA => hf a (Nat.not_le.mp hA)
theorem Env.to {X : Cx} {s U : State} (hW : s.WarmedH U.vm) (hf : FrN X.2.2.1 s.heap U.heap) (h : Env X s) : Env X U := by
  obtain ⟨h1, ⟨a1, a2, a3⟩, ⟨b1, b2⟩, ⟨c1, c2⟩, ⟨z1, z2, z3, z4, z5⟩, ⟨⟨q1, e1, k1⟩, ⟨q2, e2, k2⟩, ⟨q3, e3, k3⟩, ⟨q4, e4, k4⟩⟩, cc⟩ := h
  have hm := hW.alike
  refine ⟨h1.moved hm, ⟨a1.moved hm, a2.moved hm, a3.moved hm⟩, ⟨va_Nw.warmM hW b1, va_Nw.warmM hW b2⟩, ⟨va_Nw.warmF hW c1, va_Nw.warmF hW c2⟩,
    ⟨(va_Z.moved hm z1).kept (fr_kept hf), (va_Z.moved hm z2).kept (fr_kept hf), (va_Z.moved hm z3).kept (fr_kept hf), (va_Z.moved hm z4).kept (fr_kept hf), (va_Z.moved hm z5).kept (fr_kept hf)⟩,
    ⟨⟨q1, e1, k1.warm hW⟩, ⟨q2, e2, k2.warm hW⟩, ⟨q3, e3, k3.warm hW⟩, ⟨q4, e4, k4.warm hW⟩⟩, va_Nw.warmC hW cc⟩
theorem rep1_to {X : Cx} {s U : State} {ws : va_W} {a : Nat} {e : Cl} (hm : s.vm.Alike U.vm) (hf : FrN X.2.2.1 s.heap U.heap) (h : rep1 X s ws a e) : rep1 X U ws a e := by
  obtain ⟨k, arr⟩ | ⟨ci, fs⟩ := e
  · rcases h with h | ⟨h, g, h1, h2⟩ | ⟨h, g, h1, h3, h2⟩
    · exact Or.inl h
    · exact Or.inr (Or.inl ⟨h, g, h1, (va_T.moved hm h2).kept (fr_kept hf)⟩)
    · exact Or.inr (Or.inr ⟨h, g, h1, h3, (va_T.moved hm h2).kept (fr_kept hf)⟩)
  · rcases h with h | ⟨h, q, h1, h2, h3, h4⟩
    · exact Or.inl h
    · exact Or.inr ⟨h, q, h1, (va_O.moved hm h2).kept (fr_kept hf), (va_OF.moved hm h3).kept (fr_kept hf), (va_OF.moved hm h4).kept (fr_kept hf)⟩
theorem RepH.to {X : Cx} {s U : State} {h : Hp} {H : Heap} (hm : s.vm.Alike U.vm) (hf : FrN X.2.2.1 s.heap U.heap) (r : RepH X s h H) : RepH X U h H := by
  obtain ⟨ws, h1, h2, h3, h4, h5⟩ := r
  exact ⟨ws, h1, h2, h3, h4, fun a e he => rep1_to hm hf (h5 a e he)⟩
/-! LOCALS -/
def LV (ls : Array Slot) (n : Nat) (L : List (Option AV)) : Prop := ls.size = n ∧ lv_wf ls ∧ ∀ (i : Nat) (v : AV), L[i]? = some (some v) → ls[i]? = some (.val (tV v))
def lvF (L : List (Option AV)) (i : Nat) : Option (Nat × Value) := match L[i]? with
  | some (some v) => some (i, tV v)
  | _ => none
def lvL (L : List (Option AV)) : List (Nat × Value) := (List.range L.length).filterMap (lvF L)
theorem lvF_some {L : List (Option AV)} {i : Nat} {q : Nat × Value} (h : lvF L i = some q) : ∃ v, L[i]? = some (some v) ∧ q = (i, tV v) := by
  unfold lvF at h
  split at h
  · next v hv => exact ⟨v, hv, (Option.some.inj h).symm⟩
  · cases h
theorem mem_lvL {L : List (Option AV)} {i : Nat} {v : AV} (h : L[i]? = some (some v)) : (i, tV v) ∈ lvL L :=
  List.mem_filterMap.mpr ⟨i, List.mem_range.mpr (List.getElem?_eq_some_iff.mp h).1, by unfold lvF; rw [h]⟩
theorem LV.has {ls : Array Slot} {n : Nat} {L : List (Option AV)} (h : LV ls n L) : lv_has ls n (lvL L) := by
  refine ⟨h.1, h.2.1, fun q hq => ?_⟩
  obtain ⟨i, -, hi⟩ := List.mem_filterMap.mp hq
  obtain ⟨v, h1, rfl⟩ := lvF_some hi
  exact h.2.2 i v h1
/-- the place ahead is no long's -/
def pvOk (L : List (Option AV)) (i : Nat) : Bool := match i with
  | 0 => true
  | j + 1 => match L[j]? with
    | some (some (.inr (.inl _))) => false
    | _ => true
theorem tV_cat1 {v : AV} (h : (tV v).category = 2) : ∃ y, v = .inr (.inl y) := by
  obtain x | y | r := v
  · cases h
  · exact ⟨y, rfl⟩
  · cases r <;> cases h
theorem LV.st1 {ls' : Array Slot} {n : Nat} {L : List (Option AV)} {i : Nat} {v : AV} (hp : pvOk L i = true)
    (h : lv_has ls' n ((i, tV v) :: (lvL L).filter (fun q => !(q.1 == i) && !(q.1 + 1 == i && q.2.category == 2)))) : LV ls' n (L.set i (some v)) := by
  refine ⟨h.1, h.2.1, fun j w hj => ?_⟩
  by_cases hij : j = i
  · subst hij
    have hlt : j < L.length := by
      have := (List.getElem?_eq_some_iff.mp hj).1
      simpa using this
    rw [List.getElem?_set_self hlt] at hj
    cases hj
    exact h.2.2 (j, tV v) List.mem_cons_self
  · rw [List.getElem?_set_ne (fun e => hij e.symm)] at hj
    refine h.2.2 (j, tV w) (List.mem_cons_of_mem _ (List.mem_filter.mpr ⟨mem_lvL hj, ?_⟩))
    simp only [Bool.and_eq_true, Bool.not_eq_true', Bool.and_eq_false_iff, beq_eq_false_iff_ne]
    refine ⟨hij, ?_⟩
    by_cases h1 : j + 1 = i
    · right
      intro h2
      obtain ⟨y, rfl⟩ := tV_cat1 h2
      subst h1
      simp [pvOk, hj] at hp
    · exact Or.inl h1
theorem LV.st2 {ls' : Array Slot} {n : Nat} {L : List (Option AV)} {i : Nat} {v : AV} (hp : pvOk L i = true)
    (h : lv_has ls' n ((i, tV v) :: (lvL L).filter (fun q => !(q.1 == i) && (!(q.1 == i + 1) && !(q.1 + 1 == i && q.2.category == 2))))) : LV ls' n ((L.set (i + 1) none).set i (some v)) := by
  refine ⟨h.1, h.2.1, fun j w hj => ?_⟩
  by_cases hij : j = i
  · subst hij
    have hlt : j < (L.set (j + 1) none).length := by
      have := (List.getElem?_eq_some_iff.mp hj).1
      simpa using this
    rw [List.getElem?_set_self hlt] at hj
    cases hj
    exact h.2.2 (j, tV v) List.mem_cons_self
  · rw [List.getElem?_set_ne (fun e => hij e.symm)] at hj
    by_cases hij1 : j = i + 1
    · subst hij1
      have hlt : i + 1 < L.length := by
        have := (List.getElem?_eq_some_iff.mp hj).1
        simpa using this
      rw [List.getElem?_set_self hlt] at hj
      cases hj
    · rw [List.getElem?_set_ne (fun e => hij1 e.symm)] at hj
      refine h.2.2 (j, tV w) (List.mem_cons_of_mem _ (List.mem_filter.mpr ⟨mem_lvL hj, ?_⟩))
      simp only [Bool.and_eq_true, Bool.not_eq_true', Bool.and_eq_false_iff, beq_eq_false_iff_ne]
      refine ⟨hij, hij1, ?_⟩
      by_cases h1 : j + 1 = i
      · right
        intro h2
        obtain ⟨y, rfl⟩ := tV_cat1 h2
        subst h1
        simp [pvOk, hj] at hp
      · exact Or.inl h1
/-- fewer are known -/
def lvLe (L L' : List (Option AV)) : Prop := ∀ (i : Nat) (v : AV), L'[i]? = some (some v) → L[i]? = some (some v)
theorem LV.le {ls : Array Slot} {n : Nat} {L L' : List (Option AV)} (h : LV ls n L) (hl : lvLe L L') : LV ls n L' := ⟨h.1, h.2.1, fun i v hv => h.2.2 i v (hl i v hv)⟩
def entL : List AV → List (Option AV)
  | [] => []
  | .inr (.inl y) :: as => some (.inr (.inl y)) :: none :: entL as
  | v :: as => some v :: entL as
theorem entL_args : ∀ (as : List AV) (k i : Nat) (v : AV), (entL as)[i]? = some (some v) → (k + i, tV v) ∈ lv_args k (as.map tV) := by
  intro as
  induction as with
  | nil => intro k i v h; simp [entL] at h
  | cons a as ih =>
    intro k i v h
    obtain x | y | r := a
    · cases i with
      | zero => simp only [entL, List.getElem?_cons_zero, Option.some.injEq] at h; subst h; exact List.mem_cons_self
      | succ i =>
        simp only [entL, List.getElem?_cons_succ] at h
        have := ih (k + 1) i v h
        rw [show k + 1 + i = k + (i + 1) by omega] at this
        exact List.mem_cons_of_mem _ this
    · cases i with
      | zero => simp only [entL, List.getElem?_cons_zero, Option.some.injEq] at h; subst h; exact List.mem_cons_self
      | succ i =>
        cases i with
        | zero => simp [entL] at h
        | succ i =>
          simp only [entL, List.getElem?_cons_succ] at h
          have := ih (k + 2) i v h
          rw [show k + 2 + i = k + (i + 1 + 1) by omega] at this
          exact List.mem_cons_of_mem _ this
    · have hc : (tV (.inr (.inr r))).category = 1 := by cases r <;> rfl
      cases i with
      | zero => simp only [entL, List.getElem?_cons_zero, Option.some.injEq] at h; subst h; exact List.mem_cons_self
      | succ i =>
        simp only [entL, List.getElem?_cons_succ] at h
        have := ih (k + 1) i v h
        rw [show k + 1 + i = k + (i + 1) by omega] at this
        show _ ∈ (_, _) :: lv_args (if (tV (.inr (.inr r))).category = 2 then k + 2 else k + 1) _
        rw [hc, if_neg (by decide)]
        exact List.mem_cons_of_mem _ this
theorem entL_len : ∀ (as : List AV), (lg_sl (as.map tV)).length = (entL as).length := by
  intro as
  induction as with
  | nil => rfl
  | cons a as ih =>
    obtain x | y | r := a
    · simp [lg_sl, entL, tV, Value.category] at ih ⊢; omega
    · simp [lg_sl, entL, tV, Value.category] at ih ⊢; omega
    · cases r <;> (simp [lg_sl, entL, tV, va_rf, Value.category] at ih ⊢; omega)
theorem LV.entry (as : List AV) {n : Nat} (h : (entL as).length ≤ n) : LV ((lg_sl (as.map tV) ++ List.replicate (n - (lg_sl (as.map tV)).length) Slot.unset).toArray) n (entL as ++ List.replicate (n - (entL as).length) none) := by
  have h1 := lv_entry (as.map tV) (n := n) (by rw [entL_len]; exact h)
  refine ⟨h1.1, h1.2.1, fun i v hi => ?_⟩
  have h2 : (entL as)[i]? = some (some v) := by
    by_cases hl : i < (entL as).length
    · rw [List.getElem?_append_left hl] at hi; exact hi
    · rw [List.getElem?_append_right (by omega)] at hi
      have := List.eq_of_mem_replicate (List.mem_of_getElem? hi)
      cases this
  have := entL_args as 0 i v h2
  rw [Nat.zero_add] at this
  exact h1.2.2 _ this
end
section
/-! THE JUDGEMENT: what a function says of the machine, from a place in a method's code -/
def HLe (h h' : Hp) : Prop := h.2.1 ≤ h'.2.1 ∧ h.2.2 ≤ h'.2.2
theorem HLe.rf {h : Hp} : HLe h h := ⟨Nat.le_refl _, Nat.le_refl _⟩
theorem HLe.trans {a b c : Hp} (h : HLe a b) (h' : HLe b c) : HLe a c := ⟨Nat.le_trans h.1 h'.1, Nat.le_trans h.2 h'.2⟩
/-- what a private method of the class above is on a StringBuilder -/
def exW : List Cond := [Cond.selects RJ4 yJ5_ensureCapacityInternal_d00df yJ5_ensureCapacityInternal_d00df, Cond.selects RJ4 yJ5_newCapacity_0f7a4 yJ5_newCapacity_0f7a4]
def goodTbl : List Cond := exW ++ lw_tbl.filter goodWord
theorem gw {w : Cond} (i : Nat) (h : lw_tbl[i]? = some w) (hg : goodWord w = true) : w ∈ goodTbl := List.mem_append_right _ (List.mem_filter.mpr ⟨List.mem_of_getElem? h, hg⟩)
theorem ex_word {C : String} {y z : MethodName} {s : State} {args : Array Value} {n : Nat} (hy : y.cls ≠ "java/lang/invoke/MethodHandle" ∧ y.cls ≠ "java/lang/invoke/VarHandle") (hz : z.cls = y.cls) (hins : (Cond.instantiable C n).before args s = true) (hpriv : (Cond.privateMethod y).before args s = true) (hinst : (Cond.instanceMethod y).before args s = true) (hzs : (Cond.selects C z z).before args s = true) :
    (Cond.selects C y y).before args s = true := by
  obtain ⟨c, k, hc, hk, -, hniab, -, -⟩ := Cond.instantiable_spec hins
  obtain ⟨mk, methM, hnamed, hmethM, -, -⟩ := Cond.instanceMethod_spec hinst
  obtain ⟨c2, r2, m2, q1, q2, q3, q4, kP, hkP, hkPi⟩ := Cond.selects_spec hzs
  have hfound : s.methodFound? y.cls y.name y.desc = some mk := State.methodFound?_of_named hnamed hy
  have hcls : m2.cls = mk.cls := by
    have e1 := findClass_of_methodNamed q3
    have e2 := findClass_of_methodNamed hnamed
    rw [hz] at e1
    exact Option.some.inj (e1.symm.trans e2)
  have hsel : selectMethod {} s.vm c mk = .method mk := selectMethod_private hmethM (Cond.privateMethod_at hpriv mk methM hnamed hmethM)
  rw [hcls] at hkP
  simp only [Cond.before, Cond.holds, Cond.value, hc, hfound, hnamed, hsel, hkP]
  simp; exact hkPi
def wsM (M : MI) : List Cond := Cond.code M.1 M.2.1 M.2.2.1 M.2.2.2.1 :: goodTbl
def rmM (M : MI) (h0 hf : Hp) : Room := { frames := M.2.2.2.2, cells := hf.2.1 - h0.2.1, slots := hf.2.2 - h0.2.2, locals := 40 * M.2.2.2.2 }
def At0 (M : MI) (X : Cx) (p : Program) (s : State) (m : MethodId) (args : Array Value) (meth : Method) (c : Code) : Prop :=
  p.tables.exec = Jvm.exec ∧ c.code = M.2.1 ∧ c.maxLocals = M.2.2.1 ∧ s.vm.findClass M.1.cls = some m.cls ∧ meth.name = M.1.name ∧ (∀ w ∈ goodTbl, w.before args s = true) ∧ Env X s ∧ X.2.2.1 ≤ s.heap.size
def RmOk (M : MI) (h0 hf : Hp) (R : Room) : Prop := M.2.2.2.2 ≤ R.frames ∧ 40 * M.2.2.2.2 ≤ R.locals ∧ hf.2.1 - h0.2.1 ≤ R.cells ∧ hf.2.2 - h0.2.2 ≤ R.slots
def Inv (X : Cx) (s : State) (h : Hp) (H : Heap) (locs : List Loc) : Prop := RepH X s h H ∧ FrN X.2.2.1 s.heap H ∧ s.heap.size ≤ H.size ∧ ∀ q ∈ locs, X.2.2.1 ≤ q.base
def retI (i : Instr) (r : Option AV) (ret : Option FieldType) : Prop := match r with
  | some (.inl x) => i = .ireturn ∧ ∃ ty, ret = some ty ∧ narrow ty (.int x) = .int x
  | some (.inr (.inl _)) => False
  | some (.inr (.inr _)) => i = .areturn ∧ ∃ ty, ret = some ty ∧ ((∃ n, ty = .object n) ∨ ∃ t, ty = .array t)
  | none => i = .return_ ∧ ret = none
def RetK (X : Cx) (M : MI) (h0 hf : Hp) (r : Option AV) (l : Launch) (p : Program) (e : Jvm.Env) (R : Room) (s : State) (m : MethodId) (args : Array Value) (below : List Frame) (meth : Method) (c : Code) (Q : State → Prop) : Prop :=
  ∀ (H : Heap) (locs : List Loc) (ls : Array Slot) (pc : Nat) (i : Instr), Inv X s hf H locs → decode M.2.1 pc = .ok (i, 1) → retI i r M.2.2.2.1 →
    W p l e R s m args below meth c H locs (hf.2.1 - h0.2.1) (hf.2.2 - h0.2.2) Q (F0 m pc ls (r.toList.map tV))
def GW (X : Cx) (M : MI) (h0 hf : Hp) (r : Option AV) (h : Hp) (pc : Nat) (L : List (Option AV)) (st : List AV) : Prop :=
  ∀ (l : Launch) (p : Program) (e : Jvm.Env) (R : Room) (s : State) (m : MethodId) (args : Array Value) (below : List Frame) (meth : Method) (c : Code) (Q : State → Prop),
    At0 M X p s m args meth c → RmOk M h0 hf R → RetK X M h0 hf r l p e R s m args below meth c Q → ∀ (H : Heap) (locs : List Loc) (ls : Array Slot), Inv X s h H locs → LV ls M.2.2.1 L →
    W p l e R s m args below meth c H locs (h.2.1 - h0.2.1) (h.2.2 - h0.2.2) Q (F0 m pc ls (st.map tV))
def Gd (X : Cx) (M : MI) (h0 : Hp) (o : Rs) (h : Hp) (pc : Nat) (L : List (Option AV)) (st : List AV) : Prop :=
  ∀ (hf : Hp) (r : Option AV), o = some (hf, r) → HLe h hf ∧ (HLe h0 h → GW X M h0 hf r h pc L st)
/-! a method as a whole -/
def PcM (X : Cx) (h : Hp) (as : List AV) : Array Value → State → Prop := fun v U => v = (as.map tV).toArray ∧ RepH X U h U.heap ∧ Env X U ∧ X.2.2.1 ≤ U.heap.size
def QcM (X : Cx) (hf : Hp) (r : Option AV) : Array Value → State → Outcome → State → Prop := fun _ st o t => o = .returned (r.map tV) ∧ RepH X t hf t.heap ∧ FrN X.2.2.1 st.heap t.heap ∧ st.heap.size ≤ t.heap.size
def SO (X : Cx) (M : MI) (as : List AV) (h : Hp) (o : Rs) : Prop :=
  ∀ (hf : Hp) (r : Option AV), o = some (hf, r) → HLe h hf ∧ ∀ l : Launch, Met l M.1 (wsM M) (rmM M h hf) (PcM X h as) (QcM X hf r) (hf.2.1 - h.2.1) (hf.2.2 - h.2.2) (fun q => X.2.2.1 ≤ q)
set_option maxHeartbeats 4000000 in
theorem so_of {X : Cx} {M : MI} {as : List AV} {h : Hp} {o : Rs} (hy : plainName M.1.cls = true) (hn : (entL as).length ≤ M.2.2.1)
    (k : Gd X M h o h 0 (entL as ++ List.replicate (M.2.2.1 - (entL as).length) none) []) : SO X M as h o := by
  intro hf r ho
  obtain ⟨hle, k⟩ := k hf r ho
  refine ⟨hle, fun l => ?_⟩
  refine Met.ofW (cc := M.2.1) (maxL := M.2.2.1) (ret := M.2.2.2.1) (ws' := goodTbl) hy rfl ?_
  intro p e s m args below meth c s₁ B hml hv
  obtain ⟨rfl, hrep, henv, hN⟩ := hv
  have hts := atoms_spec (ws := wsM M) B.pre
  have hlocks : meth.locks = false := B.notSynchronized
  have hat : At0 M X p s m (as.map tV).toArray meth c := ⟨B.exec, B.bytes, hml, findClass_of_methodNamed B.named, (name_of_methodNamed B.named B.method).1, fun w hw => hts w (List.mem_cons_of_mem _ hw), henv, hN⟩
  have hr := B.returns
  rw [lg_entry_eq]
  have h0 := k HLe.rf l p e (headSpec (wsM M) (rmM M h hf)).room s m (as.map tV).toArray below meth c (MQ below (QcM X hf r) (as.map tV).toArray s (hf.2.1 - h.2.1) (hf.2.2 - h.2.2) (fun q => X.2.2.1 ≤ q)) hat
    ⟨Nat.le_refl _, Nat.le_refl _, Nat.le_refl _, Nat.le_refl _⟩ ?_ s.heap [] _ ⟨hrep, FrN.rf, Nat.le_refl _, fun q hq => by cases hq⟩ (LV.entry as hn)
  · rw [Nat.sub_self, Nat.sub_self] at h0
    exact h0
  · intro H locs ls pc i hI hd hri
    obtain ⟨hI1, hI2, hI3, hI4⟩ := hI
    have fin : ∀ (v : Option Value), v = r.map tV → ∀ t : State, t.heap = H → s.WarmedH t.vm → QcM X hf r (as.map tV).toArray s (.returned v) t := fun v hv t ht hW => ⟨by rw [hv], by rw [ht]; exact RepH.to hW.alike (by rw [ht]; exact hI2) hI1, by rw [ht]; exact hI2, by rw [ht]; exact hI3⟩
    obtain _ | x | y | q := r
    · obtain ⟨rfl, hret⟩ := hri
      exact W.vret B.exec B.bytes (hr.trans hret) (fin none rfl) hI4 hd
    · obtain ⟨rfl, ty, hret, hna⟩ := hri
      exact W.zret B.exec B.bytes (hr.trans hret) hna (fin _ rfl) hI4 hd
    · exact hri.elim
    · obtain ⟨rfl, ty, hret, hty⟩ := hri
      exact W.aret (v := va_rf q) B.exec B.bytes (hr.trans hret) hty (by cases q with
        | none => exact Or.inl rfl
        | some a => exact Or.inr ⟨a, rfl⟩) (fin _ rfl) hI4 hd
theorem gd_none {X : Cx} {M : MI} {h0 h : Hp} {pc : Nat} {L : List (Option AV)} {st : List AV} : Gd X M h0 none h pc L st := fun _ _ e => by cases e
/-! STEPS THAT LEAVE THE HEAP ALONE, by a table of the code: place, instruction, length, constant, target -/
abbrev TE : Type := Nat × Instr × Nat × Int32 × Nat
def chI (x : Int32) : Int32 := (x.toUInt32 % 65536).toInt32
def byI (x : Int32) : Int32 := x.toInt8.toInt32
def shlI (x y : Int32) : Int32 := x <<< (y &&& 31)
def shrI (x y : Int32) : Int32 := x >>> (y &&& 31)
def ushrI (x y : Int32) : Int32 := (x.toUInt32 >>> (y.toUInt32 &&& Int32.toUInt32 31)).toInt32
def shlL (x : Int64) (y : Int32) : Int64 := x <<< (y.toInt64 &&& 63)
def ushrL (x : Int64) (y : Int32) : Int64 := (x.toUInt64 >>> (y.toInt64.toUInt64 &&& Int64.toUInt64 63)).toInt64
def cvB (x : TE) : Bool := match x.2.1 with
  | .iconst k => x.2.2.1 == 1 && x.2.2.2.1 == Int32.ofInt k
  | .bipush k => x.2.2.1 == 2 && x.2.2.2.1 == (Int8.ofInt k).toInt32
  | .sipush k => x.2.2.1 == 3 && x.2.2.2.1 == (Int16.ofInt k).toInt32
  | .iinc _ k => x.2.2.1 == 3 && x.2.2.2.1 == Int32.ofInt k
  | .iload _ | .aload _ | .lload _ | .istore _ | .astore _ | .lstore _ => x.2.2.1 == 2
  | .iload_n _ | .aload_n _ | .lload_n _ | .istore_n _ | .astore_n _ | .lstore_n _ => x.2.2.1 == 1
  | .iadd | .isub | .imul | .iand | .ior | .ixor | .ineg | .ishl | .ishr | .iushr | .land | .lor | .lushr | .lshl | .i2l | .l2i | .i2b | .i2c | .lcmp | .dup | .dup_x1 | .dup2 | .pop | .aconst_null => x.2.2.1 == 1
  | .goto o | .ifCond _ o | .if_icmp _ o | .ifnull o | .ifnonnull o => x.2.2.1 == 3 && decide ((x.1 : Int) + o = (x.2.2.2.2 : Int))
  | .getfield _ | .putfield _ | .getstatic _ | .invokevirtual _ | .invokespecial _ | .invokestatic _ | .new _ | .anewarray _ | .ldc2_w _ | .ldc_w _ | .checkcast _ => x.2.2.1 == 3
  | .newarray _ | .ldc _ => x.2.2.1 == 2
  | .iaload | .baload | .caload | .aaload | .iastore | .bastore | .castore | .aastore | .arraylength | .idiv | .irem | .ireturn | .areturn | .return_ | .lconst _ => x.2.2.1 == 1
  | _ => true
def tbB (cc : ByteArray) (x : TE) : Bool := decide (decode cc x.1 = .ok (x.2.1, x.2.2.1)) && cvB x
abbrev PS : Type := Option (Nat × List (Option AV) × List AV)
def ldI (x : TE) (k : Nat) (L : List (Option AV)) (st : List AV) : PS := match L[k]? with
  | some (some (.inl v)) => some (x.1 + x.2.2.1, L, .inl v :: st)
  | _ => none
def ldA (x : TE) (k : Nat) (L : List (Option AV)) (st : List AV) : PS := match L[k]? with
  | some (some (.inr (.inr v))) => some (x.1 + x.2.2.1, L, .inr (.inr v) :: st)
  | _ => none
def ldL (x : TE) (k : Nat) (L : List (Option AV)) (st : List AV) : PS := match L[k]? with
  | some (some (.inr (.inl v))) => some (x.1 + x.2.2.1, L, .inr (.inl v) :: st)
  | _ => none
def stI (x : TE) (k nL : Nat) (L : List (Option AV)) (st : List AV) : PS := match st with
  | .inl v :: r => if Nat.blt k nL && pvOk L k then some (x.1 + x.2.2.1, L.set k (some (.inl v)), r) else none
  | _ => none
def stA (x : TE) (k nL : Nat) (L : List (Option AV)) (st : List AV) : PS := match st with
  | .inr (.inr v) :: r => if Nat.blt k nL && pvOk L k then some (x.1 + x.2.2.1, L.set k (some (.inr (.inr v))), r) else none
  | _ => none
def stL (x : TE) (k nL : Nat) (L : List (Option AV)) (st : List AV) : PS := match st with
  | .inr (.inl v) :: r => if Nat.blt (k + 1) nL && pvOk L k then some (x.1 + x.2.2.1, (L.set (k + 1) none).set k (some (.inr (.inl v))), r) else none
  | _ => none
def bin (x : TE) (f : Int32 → Int32 → Int32) (L : List (Option AV)) (st : List AV) : PS := match st with
  | .inl w :: .inl v :: r => some (x.1 + 1, L, .inl (f v w) :: r)
  | _ => none
def un1 (x : TE) (f : Int32 → Int32) (L : List (Option AV)) (st : List AV) : PS := match st with
  | .inl v :: r => some (x.1 + 1, L, .inl (f v) :: r)
  | _ => none
def binL (x : TE) (f : Int64 → Int64 → Int64) (L : List (Option AV)) (st : List AV) : PS := match st with
  | .inr (.inl w) :: .inr (.inl v) :: r => some (x.1 + 1, L, .inr (.inl (f v w)) :: r)
  | _ => none
def shL (x : TE) (f : Int64 → Int32 → Int64) (L : List (Option AV)) (st : List AV) : PS := match st with
  | .inl w :: .inr (.inl v) :: r => some (x.1 + 1, L, .inr (.inl (f v w)) :: r)
  | _ => none
def c1 (v : AV) : Bool := match v with
  | .inr (.inl _) => false
  | _ => true
def ps (x : TE) (nL : Nat) (L : List (Option AV)) (st : List AV) : PS := match x.2.1 with
  | .iconst _ => some (x.1 + x.2.2.1, L, .inl x.2.2.2.1 :: st)
  | .bipush _ => some (x.1 + x.2.2.1, L, .inl x.2.2.2.1 :: st)
  | .sipush _ => some (x.1 + x.2.2.1, L, .inl x.2.2.2.1 :: st)
  | .iload k => ldI x k L st
  | .iload_n k => ldI x k L st
  | .aload k => ldA x k L st
  | .aload_n k => ldA x k L st
  | .lload k => ldL x k L st
  | .lload_n k => ldL x k L st
  | .istore k => stI x k nL L st
  | .istore_n k => stI x k nL L st
  | .astore k => stA x k nL L st
  | .astore_n k => stA x k nL L st
  | .lstore k => stL x k nL L st
  | .lstore_n k => stL x k nL L st
  | .iinc k _ => match L[k]? with
    | some (some (.inl v)) => if Nat.blt k nL && pvOk L k then some (x.1 + x.2.2.1, L.set k (some (.inl (v + x.2.2.2.1))), st) else none
    | _ => none
  | .iadd => bin x (· + ·) L st
  | .isub => bin x (· - ·) L st
  | .imul => bin x (· * ·) L st
  | .iand => bin x (· &&& ·) L st
  | .ior => bin x (· ||| ·) L st
  | .ixor => bin x (· ^^^ ·) L st
  | .ishl => bin x shlI L st
  | .ishr => bin x shrI L st
  | .iushr => bin x ushrI L st
  | .ineg => un1 x (fun v => -v) L st
  | .i2b => un1 x byI L st
  | .i2c => un1 x chI L st
  | .land => binL x (· &&& ·) L st
  | .lor => binL x (· ||| ·) L st
  | .lushr => shL x ushrL L st
  | .lshl => shL x shlL L st
  | .i2l => match st with
    | .inl v :: r => some (x.1 + 1, L, .inr (.inl v.toInt64) :: r)
    | _ => none
  | .l2i => match st with
    | .inr (.inl v) :: r => some (x.1 + 1, L, .inl v.toInt32 :: r)
    | _ => none
  | .lcmp => match st with
    | .inr (.inl w) :: .inr (.inl v) :: r => some (x.1 + 1, L, .inl (lg_cmp v w) :: r)
    | _ => none
  | .dup => match st with
    | v :: r => if c1 v then some (x.1 + 1, L, v :: v :: r) else none
    | _ => none
  | .dup_x1 => match st with
    | v :: w :: r => if c1 v && c1 w then some (x.1 + 1, L, v :: w :: v :: r) else none
    | _ => none
  | .dup2 => match st with
    | v :: w :: r => if c1 v && c1 w then some (x.1 + 1, L, v :: w :: v :: w :: r) else none
    | _ => none
  | .pop => match st with
    | v :: r => if c1 v then some (x.1 + 1, L, r) else none
    | _ => none
  | .aconst_null => some (x.1 + 1, L, .inr (.inr none) :: st)
  | .goto _ => some (x.2.2.2.2, L, st)
  | _ => none
theorem c1_cat {v : AV} (h : c1 v = true) : (tV v).category = 1 := by
  obtain x | y | r := v
  · rfl
  · cases h
  · cases r <;> rfl
section PSW
variable {p : Program} {l : Launch} {e : Jvm.Env} {R : Room} {s : State} {m : MethodId} {args : Array Value} {below : List Frame} {meth : Method} {c : Code} {H : Heap} {locs : List Loc} {cells slots : Nat} {Q : State → Prop}
variable {cc : ByteArray} {ls : Array Slot} {x : TE} {nL pc' : Nat} {L L' : List (Option AV)} {st st' : List AV} {i : Nat}
theorem blt_and {a b : Nat} {q : Bool} (h : (Nat.blt a b && q) = true) : a < b ∧ q = true := by
  rw [Bool.and_eq_true] at h
  exact ⟨Nat.le_of_ble_eq_true h.1, h.2⟩
set_option maxHeartbeats 4000000 in
theorem ps_W (hexec : p.tables.exec = Jvm.exec) (hb : c.code = cc) (hx : tbB cc x = true) (hp : ps x nL L st = some (pc', L', st')) (hl : LV ls nL L)
    (k : ∀ ls' : Array Slot, LV ls' nL L' → W p l e R s m args below meth c H locs cells slots Q (F0 m pc' ls' (st'.map tV))) : W p l e R s m args below meth c H locs cells slots Q (F0 m x.1 ls (st.map tV)) := by
  obtain ⟨pc, ins, len, cv, tgt⟩ := x
  unfold tbB at hx
  rw [Bool.and_eq_true, decide_eq_true_eq] at hx
  obtain ⟨hd, hcv⟩ := hx
  dsimp only at hd hcv ⊢
  unfold ps at hp
  dsimp only at hp
  have one : ∀ {n : Nat}, (len == n) = true → len = n := fun h => by simpa using h
  split at hp
  all_goals (try (simp only [cvB] at hcv))
  · rw [Bool.and_eq_true] at hcv
    obtain rfl := one hcv.1
    cases hp
    exact lv_iconst (v := cv) hexec hb hd (by have := hcv.2; simp at this; exact this.symm) (k ls hl)
  · rw [Bool.and_eq_true] at hcv
    obtain rfl := one hcv.1
    cases hp
    exact lv_bipush (v := cv) hexec hb hd (by have := hcv.2; simp at this; exact this.symm) (k ls hl)
  · rw [Bool.and_eq_true] at hcv
    obtain rfl := one hcv.1
    cases hp
    exact lv_sipush (v := cv) hexec hb hd (by have := hcv.2; simp at this; exact this.symm) (k ls hl)
  · obtain rfl := one hcv
    unfold ldI at hp
    split at hp
    · next v hv => cases hp; exact lv_iload hexec hb hd (hl.2.2 _ _ hv) (k ls hl)
    · cases hp
  · obtain rfl := one hcv
    unfold ldI at hp
    split at hp
    · next v hv => cases hp; exact lv_iload_n hexec hb hd rfl (hl.2.2 _ _ hv) (k ls hl)
    · cases hp
  · obtain rfl := one hcv
    unfold ldA at hp
    split at hp
    · next v hv =>
      cases hp
      cases v with
      | none => exact lv_aloadN hexec hb hd (hl.2.2 _ _ hv) (k ls hl)
      | some a => exact lv_aload hexec hb hd (hl.2.2 _ _ hv) (k ls hl)
    · cases hp
  · obtain rfl := one hcv
    unfold ldA at hp
    split at hp
    · next v hv =>
      cases hp
      cases v with
      | none => exact lv_aload_nN hexec hb hd rfl (hl.2.2 _ _ hv) (k ls hl)
      | some a => exact lv_aload_n hexec hb hd rfl (hl.2.2 _ _ hv) (k ls hl)
    · cases hp
  · obtain rfl := one hcv
    unfold ldL at hp
    split at hp
    · next v hv => cases hp; exact lv_lload hexec hb hd (hl.2.2 _ _ hv) (k ls hl)
    · cases hp
  · obtain rfl := one hcv
    unfold ldL at hp
    split at hp
    · next v hv => cases hp; exact lv_lload_n hexec hb hd rfl (hl.2.2 _ _ hv) (k ls hl)
    · cases hp
  · obtain rfl := one hcv
    unfold stI at hp
    split at hp
    · split at hp
      · next hc => cases hp; obtain ⟨h1, h2⟩ := blt_and hc; exact lv_istore hexec hb hd hl.has h1 rfl (fun ls' h => k ls' (LV.st1 h2 h))
      · cases hp
    · cases hp
  · obtain rfl := one hcv
    unfold stI at hp
    split at hp
    · split at hp
      · next hc => cases hp; obtain ⟨h1, h2⟩ := blt_and hc; exact lv_istore_n hexec hb hd rfl hl.has h1 rfl (fun ls' h => k ls' (LV.st1 h2 h))
      · cases hp
    · cases hp
  · obtain rfl := one hcv
    unfold stA at hp
    split at hp
    · next v r =>
      split at hp
      · next hc =>
        cases hp
        obtain ⟨h1, h2⟩ := blt_and hc
        cases v with
        | none => exact lv_astoreN hexec hb hd hl.has h1 rfl (fun ls' h => k ls' (LV.st1 (v := .inr (.inr none)) h2 h))
        | some a => exact lv_astore hexec hb hd hl.has h1 rfl (fun ls' h => k ls' (LV.st1 (v := .inr (.inr (some a))) h2 h))
      · cases hp
    · cases hp
  · obtain rfl := one hcv
    unfold stA at hp
    split at hp
    · next v r =>
      split at hp
      · next hc =>
        cases hp
        obtain ⟨h1, h2⟩ := blt_and hc
        cases v with
        | none => exact lv_astore_nN hexec hb hd rfl hl.has h1 rfl (fun ls' h => k ls' (LV.st1 (v := .inr (.inr none)) h2 h))
        | some a => exact lv_astore_n hexec hb hd rfl hl.has h1 rfl (fun ls' h => k ls' (LV.st1 (v := .inr (.inr (some a))) h2 h))
      · cases hp
    · cases hp
  · obtain rfl := one hcv
    unfold stL at hp
    split at hp
    · split at hp
      · next hc => cases hp; obtain ⟨h1, h2⟩ := blt_and hc; exact lv_lstore hexec hb hd hl.has h1 rfl (fun ls' h => k ls' (LV.st2 h2 h))
      · cases hp
    · cases hp
  · obtain rfl := one hcv
    unfold stL at hp
    split at hp
    · split at hp
      · next hc => cases hp; obtain ⟨h1, h2⟩ := blt_and hc; exact lv_lstore_n hexec hb hd rfl hl.has h1 rfl (fun ls' h => k ls' (LV.st2 h2 h))
      · cases hp
    · cases hp
  · rw [Bool.and_eq_true] at hcv
    obtain rfl := one hcv.1
    split at hp
    · next v hv =>
      split at hp
      · next hc =>
        cases hp
        obtain ⟨h1, h2⟩ := blt_and hc
        have hcv2 := hcv.2
        simp only [beq_iff_eq] at hcv2
        obtain ⟨j, hj⟩ := List.getElem?_of_mem (mem_lvL hv)
        exact lv_iinc (v := v + cv) hexec hb hd hl.has hj (by rw [hcv2]) h1 rfl (fun ls' h => k ls' (LV.st1 (v := .inl (v + cv)) h2 h))
      · cases hp
    · cases hp
  · obtain rfl := one hcv
    unfold bin at hp
    split at hp
    · cases hp; exact lv_iadd hexec hb hd (k ls hl)
    · cases hp
  · obtain rfl := one hcv
    unfold bin at hp
    split at hp
    · cases hp; exact lv_isub hexec hb hd (k ls hl)
    · cases hp
  · obtain rfl := one hcv
    unfold bin at hp
    split at hp
    · cases hp; exact lv_imul hexec hb hd (k ls hl)
    · cases hp
  · obtain rfl := one hcv
    unfold bin at hp
    split at hp
    · cases hp; exact lv_iand hexec hb hd (k ls hl)
    · cases hp
  · obtain rfl := one hcv
    unfold bin at hp
    split at hp
    · cases hp; exact lv_ior hexec hb hd (k ls hl)
    · cases hp
  · obtain rfl := one hcv
    unfold bin at hp
    split at hp
    · cases hp; exact lv_ixor hexec hb hd (k ls hl)
    · cases hp
  · obtain rfl := one hcv
    unfold bin at hp
    split at hp
    · cases hp; exact lv_ishl hexec hb hd (k ls hl)
    · cases hp
  · obtain rfl := one hcv
    unfold bin at hp
    split at hp
    · cases hp; exact lv_ishr hexec hb hd (k ls hl)
    · cases hp
  · obtain rfl := one hcv
    unfold bin at hp
    split at hp
    · cases hp; exact lv_iushr hexec hb hd rfl (k ls hl)
    · cases hp
  · obtain rfl := one hcv
    unfold un1 at hp
    split at hp
    · cases hp; exact lv_ineg hexec hb hd (k ls hl)
    · cases hp
  · obtain rfl := one hcv
    unfold un1 at hp
    split at hp
    · cases hp; exact lv_i2b hexec hb hd rfl (k ls hl)
    · cases hp
  · obtain rfl := one hcv
    unfold un1 at hp
    split at hp
    · cases hp; exact lv_i2c hexec hb hd rfl (k ls hl)
    · cases hp
  · obtain rfl := one hcv
    unfold binL at hp
    split at hp
    · cases hp; exact lv_land hexec hb hd (k ls hl)
    · cases hp
  · obtain rfl := one hcv
    unfold binL at hp
    split at hp
    · cases hp; exact lv_lor hexec hb hd (k ls hl)
    · cases hp
  · obtain rfl := one hcv
    unfold shL at hp
    split at hp
    · cases hp; exact lv_lushr hexec hb hd rfl (k ls hl)
    · cases hp
  · obtain rfl := one hcv
    unfold shL at hp
    split at hp
    · cases hp; exact lv_lshl hexec hb hd rfl (k ls hl)
    · cases hp
  · obtain rfl := one hcv
    split at hp
    · cases hp; exact lv_i2l hexec hb hd rfl (k ls hl)
    · cases hp
  · obtain rfl := one hcv
    split at hp
    · cases hp; exact lv_l2i hexec hb hd rfl (k ls hl)
    · cases hp
  · obtain rfl := one hcv
    split at hp
    · cases hp; exact W.lcmp hexec hb hd (k ls hl)
    · cases hp
  · obtain rfl := one hcv
    split at hp
    · split at hp
      · next h1 => cases hp; exact lv_dup hexec hb hd (c1_cat h1) (k ls hl)
      · cases hp
    · cases hp
  · obtain rfl := one hcv
    split at hp
    · split at hp
      · next h1 => cases hp; rw [Bool.and_eq_true] at h1; exact lv_dup_x1 hexec hb hd (c1_cat h1.1) (c1_cat h1.2) (k ls hl)
      · cases hp
    · cases hp
  · obtain rfl := one hcv
    split at hp
    · split at hp
      · next h1 => cases hp; rw [Bool.and_eq_true] at h1; exact lv_dup2_11 hexec hb hd (c1_cat h1.1) (c1_cat h1.2) (k ls hl)
      · cases hp
    · cases hp
  · obtain rfl := one hcv
    split at hp
    · split at hp
      · next h1 => cases hp; exact lv_pop hexec hb hd (c1_cat h1) (k ls hl)
      · cases hp
    · cases hp
  · obtain rfl := one hcv
    cases hp
    exact lv_null hexec hb hd (k ls hl)
  · rw [Bool.and_eq_true] at hcv
    obtain rfl := one hcv.1
    have ht := hcv.2
    simp only [decide_eq_true_eq] at ht
    cases hp
    exact lv_goto hexec hb hd ht (k ls hl)
  · cases hp
end PSW
section QS
variable {X : Cx} {M : MI} {h0 h : Hp} {o a b : Rs} {L L' : List (Option AV)} {st st' : List AV} {pc pc' : Nat}
theorem q_step (x : TE) (hx : tbB M.2.1 x = true) (hp : ps x M.2.2.1 L st = some (pc', L', st')) (k : Gd X M h0 o h pc' L' st') : Gd X M h0 o h x.1 L st := by
  intro hf r ho
  obtain ⟨hle, k⟩ := k hf r ho
  refine ⟨hle, fun h0h l p e R s m args below meth c Q hat hrm hret H locs ls hI hl => ?_⟩
  exact ps_W hat.1 hat.2.1 hx hp hl (fun ls' hl' => k h0h l p e R s m args below meth c Q hat hrm hret H locs ls' hI hl')
def prn (nL : Nat) : List TE → Nat → Nat → List (Option AV) → List AV → PS
  | _, 0, pc, L, st => some (pc, L, st)
  | [], _ + 1, _, _, _ => none
  | x :: xs, k + 1, pc, L, st => if Nat.beq x.1 pc then (match ps x nL L st with
    | some (pc', L', st') => prn nL xs k pc' L' st'
    | none => none) else none
theorem prn_ok (nL : Nat) (tb : List TE) : ∀ (k : Nat) (pc : Nat) (L : List (Option AV)) (st : List AV), (∀ x ∈ tb, tbB M.2.1 x = true) → nL = M.2.2.1 → prn nL tb k pc L st = some (pc', L', st') → Gd X M h0 o h pc' L' st' → Gd X M h0 o h pc L st := by
  induction tb with
  | nil =>
    intro k pc L st _ _ hp g
    cases k with
    | zero => cases hp; exact g
    | succ k => cases hp
  | cons x xs ih =>
    intro k pc L st ht hn hp g
    cases k with
    | zero => cases hp; exact g
    | succ k =>
      unfold prn at hp
      split at hp
      · next hpc =>
        have hpc' : x.1 = pc := Nat.eq_of_beq_eq_true hpc
        subst hpc'
        split at hp
        · next pc2 L2 st2 hps =>
          subst hn
          exact q_step x (ht x List.mem_cons_self) hps (ih k pc2 L2 st2 (fun y hy => ht y (List.mem_cons_of_mem _ hy)) rfl hp g)
        · cases hp
      · cases hp
/-- n steps from row i of the table on -/
theorem q_run {tb : List TE} (ht : ∀ x ∈ tb, tbB M.2.1 x = true) (i n : Nat) (hp : prn M.2.2.1 (tb.drop i) n pc L st = some (pc', L', st')) (g : Gd X M h0 o h pc' L' st') : Gd X M h0 o h pc L st :=
  prn_ok M.2.2.1 (tb.drop i) n pc L st (fun x hx => ht x (List.mem_of_mem_drop hx)) rfl hp g
theorem q_le (hl : lvLe L L') (g : Gd X M h0 o h pc L' st) : Gd X M h0 o h pc L st := by
  intro hf r ho
  obtain ⟨hle, k⟩ := g hf r ho
  exact ⟨hle, fun h0h l p e R s m args below meth c Q hat hrm hret H locs ls hI hl' => k h0h l p e R s m args below meth c Q hat hrm hret H locs ls hI (hl'.le hl)⟩
theorem tbm {tb : List TE} {cc : ByteArray} (ht : ∀ x ∈ tb, tbB cc x = true) {i : Nat} {x : TE} (h : tb[i]? = some x) : tbB cc x = true := ht x (List.mem_of_getElem? h)
theorem tb_all {cc : ByteArray} {tb : List TE} (h : tb.all (tbB cc) = true) : ∀ x ∈ tb, tbB cc x = true := fun x hx => List.all_eq_true.mp h x hx
end QS
end
section
/-! WHAT A FUNCTION DOES WITH THE HEAP -/
def upH (h : Hp) (a : Nat) (e : Cl) : Hp := (fun b => if b = a then some e else h.1 b, h.2.1, h.2.2)
def pushH (h : Hp) (e : Cl) (n : Nat) : Hp := (fun b => if b = h.2.1 then some e else h.1 b, h.2.1 + 1, h.2.2 + n)
def tgo (c ci : Nat) : Bool := (c == ci && Nat.blt c 9) || (c == 10 && ci == 0)
def ob (h : Hp) (r : Option Nat) (ci : Nat) : Option (Nat × Nat × List AV) := match r with
  | none => none
  | some a => match h.1 a with
    | some (.inr (c, fs)) => if tgo c ci then some (a, c, fs) else none
    | _ => none
def ar (h : Hp) (r : Option Nat) : Option (Nat × Nat × vp_A) := match r with
  | none => none
  | some a => match h.1 a with
    | some (.inl (k, x)) => some (a, k, x)
    | _ => none
def tyC (ci k : Nat) : FieldType := match ci with
  | 0 => tyJ0 k
  | 1 => tyJ4 k
  | 2 => tyX0 k
  | 3 => tyX1 k
  | 4 => tyX2 k
  | 5 => tyX3 k
  | 6 => tyX4 k
  | 7 => tyX5 k
  | _ => tyX6 k
def nmC (ci : Nat) : Nat := match ci with
  | 0 => 4
  | 1 => 4
  | 2 => 2
  | 3 => 4
  | 4 => 14
  | 5 => 6
  | 6 => 13
  | 7 => 5
  | _ => 15
def dfC (ci : Nat) : List AV := match ci with
  | 0 => [.inr (.inr none), .inl 0, .inl 0, .inl 0]
  | 1 => [.inr (.inr none), .inl 0, .inl 0, .inl 0]
  | 2 => [.inl 0, .inr (.inr none)]
  | 3 => [.inr (.inr none), .inl 0, .inl 0, .inl 0]
  | 4 => [.inl 0, .inl 0, .inl 0, .inl 0, .inl 0, .inl 0, .inl 0, .inl 0, .inl 0, .inl 0, .inl 0, .inl 0, .inr (.inr none), .inr (.inr none)]
  | 5 => [.inl 0, .inl 0, .inl 0, .inl 0, .inl 0, .inr (.inr none)]
  | 6 => [.inl 0, .inl 0, .inl 0, .inl 0, .inl 0, .inl 0, .inl 0, .inl 0, .inl 0, .inl 0, .inr (.inr none), .inr (.inr none), .inr (.inr none)]
  | 7 => [.inr (.inr none), .inr (.inr none), .inr (.inr none), .inr (.inr none), .inr (.inr none)]
  | _ => [.inl 0, .inr (.inr none), .inr (.inr none), .inl 0, .inr (.inr none), .inr (.inr none), .inr (.inr none), .inl 0, .inr (.inr none), .inl 0, .inl 0, .inl 0, .inl 0, .inr (.inr none), .inl 0]
def vfit (ty : FieldType) (v : AV) : Bool := match ty, v with
  | .int, .inl _ => true
  | .byte, .inl x => x.toInt8.toInt32 == x
  | .boolean, .inl x => x == 0 || x == 1
  | .object _, .inr (.inr _) => true
  | .array _, .inr (.inr _) => true
  | _, _ => false
def rdI (h : Hp) (r : Option Nat) (ci k : Nat) (f : Int32 → Rs) : Rs := match ob h r ci with
  | some (_, _, fs) => match fs[k]? with
    | some (.inl x) => f x
    | _ => none
  | none => none
def rdR (h : Hp) (r : Option Nat) (ci k : Nat) (f : Option Nat → Rs) : Rs := match ob h r ci with
  | some (_, _, fs) => match fs[k]? with
    | some (.inr (.inr x)) => f x
    | _ => none
  | none => none
def wr (h : Hp) (r : Option Nat) (ci k : Nat) (v : AV) (f : Hp → Rs) : Rs := match ob h r ci with
  | some (a, c, fs) => if Nat.blt k fs.length && (Nat.blt c 9 && vfit (tyC ci k) v) then f (upH h a (.inr (ci, fs.set k v))) else none
  | none => none
def ck (h : Hp) (r : Option Nat) (ci : Nat) (o : Rs) : Rs := match ob h r ci with
  | some _ => o
  | none => none
def inB (i : Int32) (n : Nat) : Bool := !(decide (i < 0)) && Nat.blt i.toNatClampNeg n
def aldI (h : Hp) (r : Option Nat) (ks : List Nat) (i : Int32) (f : Int32 → Rs) : Rs := match ar h r with
  | some (_, k, (n, .inl g)) => if ks.contains k && inB i n then f (g i.toNatClampNeg) else none
  | _ => none
def aldR (h : Hp) (r : Option Nat) (i : Int32) (f : Option Nat → Rs) : Rs := match ar h r with
  | some (_, k, (n, .inr (.inr (.inr (.inr g))))) => if (Nat.blt 3 k && Nat.blt k 7) && inB i n then f (g i.toNatClampNeg) else none
  | _ => none
def nar (k : Nat) (x : Int32) : Int32 := match k with
  | 0 => x
  | 1 => vp_nar .byte x
  | 2 => vp_nar .boolean x
  | _ => vp_nar .char x
def astI (h : Hp) (r : Option Nat) (ks : List Nat) (i x : Int32) (f : Hp → Rs) : Rs := match ar h r with
  | some (a, k, (n, .inl g)) => if (ks.contains k && Nat.blt k 4) && inB i n then f (upH h a (.inl (k, n, .inl (upd g i.toNatClampNeg (nar k x))))) else none
  | _ => none
def ecl (k : Nat) : Nat := match k with
  | 4 => 3
  | 5 => 4
  | _ => 6
def isEl (h : Hp) (k : Nat) (v : Option Nat) : Bool := match v with
  | none => true
  | some b => match h.1 b with
    | some (.inr (c, _)) => c == ecl k
    | _ => false
def astR (h : Hp) (r : Option Nat) (i : Int32) (v : Option Nat) (f : Hp → Rs) : Rs := match ar h r with
  | some (a, k, (n, .inr (.inr (.inr (.inr g))))) => if (Nat.blt 3 k && Nat.blt k 7) && (inB i n && isEl h k v) then f (upH h a (.inl (k, n, .inr (.inr (.inr (.inr (va_up g i.toNatClampNeg v))))))) else none
  | _ => none
def lenA (h : Hp) (r : Option Nat) (f : Int32 → Rs) : Rs := match ar h r with
  | some (_, _, (n, _)) => f (Int32.ofNat n)
  | none => none
def nwO (h : Hp) (ci : Nat) (f : Hp → Option Nat → Rs) : Rs := f (pushH h (.inr (ci, dfC ci)) (nmC ci)) (some h.2.1)
def nwA (h : Hp) (k : Nat) (x : Int32) (f : Hp → Option Nat → Rs) : Rs := if !(decide (x < 0)) && Nat.ble x.toNatClampNeg 1000000 then f (pushH h (.inl (k, x.toNatClampNeg, .inl (fun _ => 0))) x.toNatClampNeg) (some h.2.1) else none
def nwR (h : Hp) (k : Nat) (x : Int32) (f : Hp → Option Nat → Rs) : Rs := if !(decide (x < 0)) && Nat.ble x.toNatClampNeg 1000000 then f (pushH h (.inl (k, x.toNatClampNeg, .inr (.inr (.inr (.inr (fun _ => none)))))) x.toNatClampNeg) (some h.2.1) else none
def cc (o : Rs) (k : Hp → Option AV → Rs) : Rs := match o with
  | some (h', r) => k h' r
  | none => none
def kI (f : Hp → Int32 → Rs) : Hp → Option AV → Rs := fun h r => match r with
  | some (.inl x) => f h x
  | _ => none
def kR (f : Hp → Option Nat → Rs) : Hp → Option AV → Rs := fun h r => match r with
  | some (.inr (.inr x)) => f h x
  | _ => none
def kV (f : Hp → Rs) : Hp → Option AV → Rs := fun h r => match r with
  | none => f h
  | _ => none
def dv (y : Int32) (o : Rs) : Rs := if y = 0 then none else o
def dn (r : Option Nat) (o : Rs) : Rs := match r with
  | some _ => o
  | none => none
def ifN (r : Option Nat) (a b : Rs) : Rs := match r with
  | none => a
  | some _ => b
def rtI (ty : FieldType) (h : Hp) (x : Int32) : Rs := if vp_nar ty x = x then some (h, some (.inl x)) else none
/-! facts -/
theorem ob_some {h : Hp} {r : Option Nat} {ci a c : Nat} {fs : List AV} (e : ob h r ci = some (a, c, fs)) : r = some a ∧ h.1 a = some (.inr (c, fs)) ∧ tgo c ci = true := by
  unfold ob at e
  split at e
  · cases e
  · split at e
    · split at e
      · next hc ht => cases e; exact ⟨rfl, hc, ht⟩
      · cases e
    · cases e
theorem ar_some {h : Hp} {r : Option Nat} {a k : Nat} {x : vp_A} (e : ar h r = some (a, k, x)) : r = some a ∧ h.1 a = some (.inl (k, x)) := by
  unfold ar at e
  split at e
  · cases e
  · split at e
    · next hc => cases e; exact ⟨rfl, hc⟩
    · cases e
theorem tgo_cases {c ci : Nat} (h : tgo c ci = true) : (c = ci ∧ c < 9) ∨ (c = 10 ∧ ci = 0) := by
  unfold tgo at h
  rw [Bool.or_eq_true, Bool.and_eq_true, Bool.and_eq_true] at h
  rcases h with ⟨h1, h2⟩ | ⟨h1, h2⟩
  · exact Or.inl ⟨by simpa using h1, Nat.le_of_ble_eq_true h2⟩
  · exact Or.inr ⟨by simpa using h1, by simpa using h2⟩
theorem inB_in {i : Int32} {n : Nat} (h : inB i n = true) : vp_in i n := by
  unfold inB at h
  rw [Bool.and_eq_true] at h
  have h2 : i.toNatClampNeg < n := Nat.le_of_ble_eq_true h.2
  have h1 : ¬ i < 0 := by simpa using h.1
  intro q
  rcases q with q | q
  · exact h1 q
  · omega
theorem vfit_ok {ty : FieldType} {v : AV} (h : vfit ty v = true) : narrow ty (tV v) = tV v ∧ fits ty (tV v) = true := by
  unfold vfit at h
  split at h
  · exact ⟨rfl, rfl⟩
  · next x =>
    have e : x.toInt8.toInt32 = x := by simpa using h
    refine ⟨by show Value.int _ = Value.int _; rw [e], ?_⟩
    show fits .byte (.int x) = true
    rw [← e]
    exact pk_fb x
  · next x =>
    have e : x = 0 ∨ x = 1 := by simpa using h
    rcases e with rfl | rfl
    · exact ⟨by decide, by decide⟩
    · exact ⟨by decide, by decide⟩
  · next r => cases r <;> exact ⟨rfl, rfl⟩
  · next r => cases r <;> exact ⟨rfl, rfl⟩
  · cases h
theorem cl_9 {ci : Nat} (h : ci < 9) : ∃ C T N, vwCl[ci]? = some (C, T, N) ∧ (∀ k, k < N → parseFieldDescriptor (T k).2.2.1 = some (tyC ci k)) ∧ (∀ a, a < N → ∀ b, b < N → a ≠ b → (T a).2.1 ≠ (T b).2.1) ∧ N = nmC ci ∧ (∀ j, j < N → defaultValue (tyC ci j) = vp_V ((dfC ci).map tV) j) := by
  match ci, h with
  | 0, _ => exact ⟨_, _, _, rfl, tyJ0_ok, nmJ0, rfl, by decide +kernel⟩
  | 1, _ => exact ⟨_, _, _, rfl, tyJ4_ok, nmJ4, rfl, by decide +kernel⟩
  | 2, _ => exact ⟨_, _, _, rfl, tyX0_ok, nmX0, rfl, by decide +kernel⟩
  | 3, _ => exact ⟨_, _, _, rfl, tyX1_ok, nmX1, rfl, by decide +kernel⟩
  | 4, _ => exact ⟨_, _, _, rfl, tyX2_ok, nmX2, rfl, by decide +kernel⟩
  | 5, _ => exact ⟨_, _, _, rfl, tyX3_ok, nmX3, rfl, by decide +kernel⟩
  | 6, _ => exact ⟨_, _, _, rfl, tyX4_ok, nmX4, rfl, by decide +kernel⟩
  | 7, _ => exact ⟨_, _, _, rfl, tyX5_ok, nmX5, rfl, by decide +kernel⟩
  | 8, _ => exact ⟨_, _, _, rfl, tyX6_ok, nmX6, rfl, by decide +kernel⟩
theorem uws_ok : ∀ (q : vw_C), q ∈ vwCl → ∀ w ∈ u_ws q.1 q.2.1 q.2.2, w ∈ goodTbl := by decide +kernel
theorem cl_in {ci : Nat} {C : String} {T : u_T} {N : Nat} (h : vwCl[ci]? = some (C, T, N)) : ∀ w ∈ u_ws C T N, w ∈ goodTbl := uws_ok (C, T, N) (List.mem_of_getElem? h)
/-! the picture after a store, after a making -/
theorem RepH.put {X : Cx} {s : State} {h : Hp} {H H1 : Heap} {ws : va_W} (hP : va_P X.1 vwCl ws H) (hD : va_D (AX X) ws) (hz : H.size = h.2.1) (hN : X.2.2.1 ≤ h.2.1) (hr : ∀ a e, h.1 a = some e → rep1 X s ws a e)
    {i a : Nat} {e0 e1 : va_E} {e : Cl} (hi : ws[i]? = some (a, e0)) (hat : va_at X.1 vwCl (a, e1) H1) (z : H1.size = H.size) (oq : ∀ q : Nat, q ≠ a → H1[q]? = H[q]?) (he : ∀ ws' : va_W, ws'[i]? = some (a, e1) → rep1 X s ws' a e) : RepH X s (upH h a e) H1 := by
  have hlt : i < ws.length := (List.getElem?_eq_some_iff.mp hi).1
  have other : ∀ (j b : Nat) (x : va_E), b ≠ a → ws[j]? = some (b, x) → (ws.set i (a, e1))[j]? = some (b, x) := by
    intro j b x hb hj
    have hij : i ≠ j := by
      intro q
      subst q
      rw [hi] at hj
      cases hj
      exact hb rfl
    rw [List.getElem?_set_ne hij]
    exact hj
  refine ⟨ws.set i (a, e1), hP.set hD hi hat oq, hD.set hi, z.trans hz, hN, fun b x hx => ?_⟩
  by_cases hb : b = a
  · subst hb
    have hx' : some e = some x := by simpa [upH] using hx
    cases hx'
    exact he _ (by rw [List.getElem?_set_self hlt])
  · have hx' : h.1 b = some x := by simpa [upH, hb] using hx
    have h2 := hr b x hx'
    obtain ⟨k, arr⟩ | ⟨ci, fs⟩ := x
    · rcases h2 with ⟨h3, j, hj⟩ | h2
      · exact Or.inl ⟨h3, j, other j b _ hb hj⟩
      · exact Or.inr h2
    · rcases h2 with ⟨h3, j, hj⟩ | h2
      · exact Or.inl ⟨h3, j, other j b _ hb hj⟩
      · exact Or.inr h2
theorem RepH.push {X : Cx} {s : State} {h : Hp} {H H1 : Heap} (r : RepH X s h H) {e1 : va_E} {e : Cl} {n : Nat} (hat : va_at X.1 vwCl (H.size, e1) H1) (z : H1.size = H.size + 1) (oq : ∀ q : Nat, q < H.size → H1[q]? = H[q]?)
    (he : ∀ (ws' : va_W) (i : Nat), ws'[i]? = some (H.size, e1) → rep1 X s ws' H.size e) : RepH X s (pushH h e n) H1 := by
  obtain ⟨ws, hP, hD, hz, hN, hr⟩ := r
  have hk : ∀ (k : Nat) (x : Nat × va_E), ws[k]? = some x → H1[x.1]? = H[x.1]? := fun k x hx => oq x.1 ((hP k x hx).lt)
  have new : (ws ++ [(H.size, e1)])[ws.length]? = some (H.size, e1) := by simp
  have old : ∀ (j b : Nat) (x : va_E), ws[j]? = some (b, x) → (ws ++ [(H.size, e1)])[j]? = some (b, x) := by
    intro j b x hj
    rw [List.getElem?_append_left (List.getElem?_eq_some_iff.mp hj).1]
    exact hj
  refine ⟨ws ++ [(H.size, e1)], (hP.kept hk).app (fun k x hx => ?_), hD.push hP rfl (by show X.2.2.1 ≤ H.size; rw [hz]; exact hN), by show _ = h.2.1 + 1; rw [z, hz], Nat.le_succ_of_le hN, fun b x hx => ?_⟩
  · have hz2 : k < 1 := (List.getElem?_eq_some_iff.mp hx).1
    rw [show k = 0 by omega] at hx
    cases hx
    exact hat
  · by_cases hb : b = h.2.1
    · have hx' : some e = some x := by simpa [pushH, hb] using hx
      cases hx'
      rw [hb, ← hz]
      exact he _ _ new
    · have hx' : h.1 b = some x := by simpa [pushH, hb] using hx
      have h2 := hr b x hx'
      obtain ⟨k, arr⟩ | ⟨ci, fs⟩ := x
      · rcases h2 with ⟨h3, j, hj⟩ | h2
        · exact Or.inl ⟨h3, j, old j b _ hj⟩
        · exact Or.inr h2
      · rcases h2 with ⟨h3, j, hj⟩ | h2
        · exact Or.inl ⟨h3, j, old j b _ hj⟩
        · exact Or.inr h2
theorem Inv.S {X : Cx} {s : State} {h : Hp} {H : Heap} {locs : List Loc} (i : Inv X s h H locs) : va_S (AX X) s.heap H locs :=
  ⟨i.2.2.1, fun q _ hA => i.2.1 q (Nat.not_le.mp hA), i.2.2.2⟩
theorem Inv.put {X : Cx} {s : State} {h h1 : Hp} {H H1 : Heap} {locs : List Loc} {a k : Nat} (i : Inv X s h H locs) (r : RepH X s h1 H1) (z : H1.size = H.size) (oq : ∀ q : Nat, q ≠ a → H1[q]? = H[q]?) (ha : AX X a) : Inv X s h1 H1 (locs ++ [⟨a, k⟩]) := by
  refine ⟨r, fun q hq => ?_, by rw [z]; exact i.2.2.1, fun q hq => ?_⟩
  · rw [oq q (fun e => by subst e; exact absurd hq (Nat.not_lt.mpr ha))]
    exact i.2.1 q hq
  · rcases List.mem_append.mp hq with h | h
    · exact i.2.2.2 q h
    · rw [List.mem_singleton] at h
      subst h
      exact ha
theorem Inv.push {X : Cx} {s : State} {h h1 : Hp} {H H1 : Heap} {locs : List Loc} (i : Inv X s h H locs) (r : RepH X s h1 H1) (z : H1.size = H.size + 1) (oq : ∀ q : Nat, q < H.size → H1[q]? = H[q]?) : Inv X s h1 H1 locs := by
  have hz : X.2.2.1 ≤ H.size := by
    obtain ⟨ws, -, -, hz, hN, -⟩ := i.1
    rw [hz]; exact hN
  refine ⟨r, fun q hq => ?_, by rw [z]; exact Nat.le_succ_of_le i.2.2.1, i.2.2.2⟩
  rw [oq q (Nat.lt_of_lt_of_le hq hz)]
  exact i.2.1 q hq
end
section
/-! THE RULES: a row of code against a row of the function -/
theorem tb_d {cc : ByteArray} {x : TE} (h : tbB cc x = true) : decode cc x.1 = .ok (x.2.1, x.2.2.1) := by
  unfold tbB at h
  rw [Bool.and_eq_true, decide_eq_true_eq] at h
  exact h.1
theorem tb_len {cc : ByteArray} {pc len tgt n : Nat} {ins : Instr} {v : Int32} (h : tbB cc (pc, ins, len, v, tgt) = true) (hn : cvB (pc, ins, len, v, tgt) = (len == n)) : decode cc pc = .ok (ins, n) := by
  have hd := tb_d h
  unfold tbB at h
  rw [Bool.and_eq_true] at h
  have h2 := h.2
  rw [hn] at h2
  have e : len = n := by simpa using h2
  rw [← e]
  exact hd
theorem tb_jmp {cc : ByteArray} {pc len tgt : Nat} {ins : Instr} {v : Int32} {off : Int} (h : tbB cc (pc, ins, len, v, tgt) = true) (hn : cvB (pc, ins, len, v, tgt) = (len == 3 && decide ((pc : Int) + off = (tgt : Int)))) : decode cc pc = .ok (ins, 3) ∧ (pc : Int) + off = (tgt : Int) := by
  have hd := tb_d h
  unfold tbB at h
  rw [Bool.and_eq_true] at h
  have h2 := h.2
  rw [hn, Bool.and_eq_true] at h2
  have e : len = 3 := by simpa using h2.1
  refine ⟨?_, by simpa using h2.2⟩
  rw [← e]
  exact hd
section RULES
variable {X : Cx} {M : MI} {h0 h : Hp} {o a b : Rs} {L : List (Option AV)} {st : List AV} {pc len tgt idx : Nat} {v x y : Int32} {off : Int} {r : Option Nat} {ci k : Nat}
/-- a branch, by what the machine does at it -/
theorem q_br {cnd : Prop} [Decidable cnd] {pa pb : Nat} {st0 : List AV} (ga : Gd X M h0 a h pa L st) (gb : Gd X M h0 b h pb L st)
    (w : ∀ {p : Program} {l : Launch} {e : Jvm.Env} {R : Room} {s : State} {m : MethodId} {args : Array Value} {below : List Frame} {meth : Method} {c : Code} {H : Heap} {locs : List Loc} {cells slots : Nat} {Q : State → Prop} {ls : Array Slot}, p.tables.exec = Jvm.exec → c.code = M.2.1 → (cnd → W p l e R s m args below meth c H locs cells slots Q (F0 m pa ls (st.map tV))) → (¬ cnd → W p l e R s m args below meth c H locs cells slots Q (F0 m pb ls (st.map tV))) → W p l e R s m args below meth c H locs cells slots Q (F0 m pc ls (st0.map tV))) :
    Gd X M h0 (if cnd then a else b) h pc L st0 := by
  intro hf res ho
  by_cases hc : cnd
  · rw [if_pos hc] at ho
    obtain ⟨hle, g⟩ := ga hf res ho
    exact ⟨hle, fun h0h l p e R s m args below meth c Q hat hrm hret H locs ls hI hl => w hat.1 hat.2.1 (fun _ => g h0h l p e R s m args below meth c Q hat hrm hret H locs ls hI hl) (fun q => absurd hc q)⟩
  · rw [if_neg hc] at ho
    obtain ⟨hle, g⟩ := gb hf res ho
    exact ⟨hle, fun h0h l p e R s m args below meth c Q hat hrm hret H locs ls hI hl => w hat.1 hat.2.1 (fun q => absurd q hc) (fun _ => g h0h l p e R s m args below meth c Q hat hrm hret H locs ls hI hl)⟩
theorem q_icmp_eq (hx : tbB M.2.1 (pc, .if_icmp .eq off, len, v, tgt) = true) (ga : Gd X M h0 a h tgt L st) (gb : Gd X M h0 b h (pc + 3) L st) : Gd X M h0 (if x = y then a else b) h pc L (.inl y :: .inl x :: st) := by
  obtain ⟨hd, ht⟩ := tb_jmp hx rfl
  exact q_br ga gb (fun hexec hb ka kb => lv_icmp_eq hexec hb hd ht ka kb)
theorem q_icmp_ne (hx : tbB M.2.1 (pc, .if_icmp .ne off, len, v, tgt) = true) (ga : Gd X M h0 a h (pc + 3) L st) (gb : Gd X M h0 b h tgt L st) : Gd X M h0 (if x = y then a else b) h pc L (.inl y :: .inl x :: st) := by
  obtain ⟨hd, ht⟩ := tb_jmp hx rfl
  exact q_br ga gb (fun hexec hb ka kb => lv_icmp_ne hexec hb hd ht kb ka)
theorem q_icmp_lt (hx : tbB M.2.1 (pc, .if_icmp .lt off, len, v, tgt) = true) (ga : Gd X M h0 a h tgt L st) (gb : Gd X M h0 b h (pc + 3) L st) : Gd X M h0 (if x < y then a else b) h pc L (.inl y :: .inl x :: st) := by
  obtain ⟨hd, ht⟩ := tb_jmp hx rfl
  exact q_br ga gb (fun hexec hb ka kb => lv_icmp_lt hexec hb hd ht ka kb)
theorem q_icmp_ge (hx : tbB M.2.1 (pc, .if_icmp .ge off, len, v, tgt) = true) (ga : Gd X M h0 a h (pc + 3) L st) (gb : Gd X M h0 b h tgt L st) : Gd X M h0 (if x < y then a else b) h pc L (.inl y :: .inl x :: st) := by
  obtain ⟨hd, ht⟩ := tb_jmp hx rfl
  exact q_br ga gb (fun hexec hb ka kb => lv_icmp_ge hexec hb hd ht (fun q => kb (k2_nlt q)) (fun q => ka (k2_lt q)))
theorem q_icmp_gt (hx : tbB M.2.1 (pc, .if_icmp .gt off, len, v, tgt) = true) (ga : Gd X M h0 a h tgt L st) (gb : Gd X M h0 b h (pc + 3) L st) : Gd X M h0 (if y < x then a else b) h pc L (.inl y :: .inl x :: st) := by
  obtain ⟨hd, ht⟩ := tb_jmp hx rfl
  exact q_br ga gb (fun hexec hb ka kb => lv_icmp_gt hexec hb hd ht ka kb)
theorem q_icmp_le (hx : tbB M.2.1 (pc, .if_icmp .le off, len, v, tgt) = true) (ga : Gd X M h0 a h (pc + 3) L st) (gb : Gd X M h0 b h tgt L st) : Gd X M h0 (if y < x then a else b) h pc L (.inl y :: .inl x :: st) := by
  obtain ⟨hd, ht⟩ := tb_jmp hx rfl
  exact q_br ga gb (fun hexec hb ka kb => lv_icmp_le hexec hb hd ht (fun q => kb (k2_nlt q)) (fun q => ka (k2_lt q)))
theorem q_if_eq (hx : tbB M.2.1 (pc, .ifCond .eq off, len, v, tgt) = true) (ga : Gd X M h0 a h tgt L st) (gb : Gd X M h0 b h (pc + 3) L st) : Gd X M h0 (if x = 0 then a else b) h pc L (.inl x :: st) := by
  obtain ⟨hd, ht⟩ := tb_jmp hx rfl
  exact q_br ga gb (fun hexec hb ka kb => lv_if_eq hexec hb hd ht ka kb)
theorem q_if_ne (hx : tbB M.2.1 (pc, .ifCond .ne off, len, v, tgt) = true) (ga : Gd X M h0 a h (pc + 3) L st) (gb : Gd X M h0 b h tgt L st) : Gd X M h0 (if x = 0 then a else b) h pc L (.inl x :: st) := by
  obtain ⟨hd, ht⟩ := tb_jmp hx rfl
  exact q_br ga gb (fun hexec hb ka kb => lv_if_ne hexec hb hd ht kb ka)
theorem q_if_lt (hx : tbB M.2.1 (pc, .ifCond .lt off, len, v, tgt) = true) (ga : Gd X M h0 a h tgt L st) (gb : Gd X M h0 b h (pc + 3) L st) : Gd X M h0 (if x < 0 then a else b) h pc L (.inl x :: st) := by
  obtain ⟨hd, ht⟩ := tb_jmp hx rfl
  exact q_br ga gb (fun hexec hb ka kb => lv_if_lt hexec hb hd ht ka kb)
theorem q_if_ge (hx : tbB M.2.1 (pc, .ifCond .ge off, len, v, tgt) = true) (ga : Gd X M h0 a h (pc + 3) L st) (gb : Gd X M h0 b h tgt L st) : Gd X M h0 (if x < 0 then a else b) h pc L (.inl x :: st) := by
  obtain ⟨hd, ht⟩ := tb_jmp hx rfl
  exact q_br ga gb (fun hexec hb ka kb => lv_if_ge hexec hb hd ht (fun q => kb (k2_nlt q)) (fun q => ka (k2_lt q)))
theorem q_if_gt (hx : tbB M.2.1 (pc, .ifCond .gt off, len, v, tgt) = true) (ga : Gd X M h0 a h tgt L st) (gb : Gd X M h0 b h (pc + 3) L st) : Gd X M h0 (if 0 < x then a else b) h pc L (.inl x :: st) := by
  obtain ⟨hd, ht⟩ := tb_jmp hx rfl
  exact q_br ga gb (fun hexec hb ka kb => lv_if_gt hexec hb hd ht ka kb)
theorem q_if_le (hx : tbB M.2.1 (pc, .ifCond .le off, len, v, tgt) = true) (ga : Gd X M h0 a h (pc + 3) L st) (gb : Gd X M h0 b h tgt L st) : Gd X M h0 (if 0 < x then a else b) h pc L (.inl x :: st) := by
  obtain ⟨hd, ht⟩ := tb_jmp hx rfl
  exact q_br ga gb (fun hexec hb ka kb => lv_if_le hexec hb hd ht (fun q => kb (k2_nlt q)) (fun q => ka (k2_lt q)))
theorem q_ifnull (hx : tbB M.2.1 (pc, .ifnull off, len, v, tgt) = true) (ga : Gd X M h0 a h tgt L st) (gb : Gd X M h0 b h (pc + 3) L st) : Gd X M h0 (ifN r a b) h pc L (.inr (.inr r) :: st) := by
  obtain ⟨hd, ht⟩ := tb_jmp hx rfl
  intro hf res ho
  cases r with
  | none =>
    obtain ⟨hle, g⟩ := ga hf res ho
    exact ⟨hle, fun h0h l p e R s m args below meth c Q hat hrm hret H locs ls hI hl => lv_ifnullN hat.1 hat.2.1 hd ht (g h0h l p e R s m args below meth c Q hat hrm hret H locs ls hI hl)⟩
  | some q =>
    obtain ⟨hle, g⟩ := gb hf res ho
    exact ⟨hle, fun h0h l p e R s m args below meth c Q hat hrm hret H locs ls hI hl => lv_ifnull hat.1 hat.2.1 hd (g h0h l p e R s m args below meth c Q hat hrm hret H locs ls hI hl)⟩
theorem q_ifnonnull (hx : tbB M.2.1 (pc, .ifnonnull off, len, v, tgt) = true) (ga : Gd X M h0 a h (pc + 3) L st) (gb : Gd X M h0 b h tgt L st) : Gd X M h0 (ifN r a b) h pc L (.inr (.inr r) :: st) := by
  obtain ⟨hd, ht⟩ := tb_jmp hx rfl
  intro hf res ho
  cases r with
  | none =>
    obtain ⟨hle, g⟩ := ga hf res ho
    exact ⟨hle, fun h0h l p e R s m args below meth c Q hat hrm hret H locs ls hI hl => lv_ifnonnullN hat.1 hat.2.1 hd (g h0h l p e R s m args below meth c Q hat hrm hret H locs ls hI hl)⟩
  | some q =>
    obtain ⟨hle, g⟩ := gb hf res ho
    exact ⟨hle, fun h0h l p e R s m args below meth c Q hat hrm hret H locs ls hI hl => lv_ifnonnull hat.1 hat.2.1 hd ht (g h0h l p e R s m args below meth c Q hat hrm hret H locs ls hI hl)⟩
/-- one way on -/
theorem q_w {pb : Nat} {L' : List (Option AV)} {st0 : List AV} (g : Gd X M h0 o h pb L' st)
    (w : ∀ {p : Program} {l : Launch} {e : Jvm.Env} {R : Room} {s : State} {m : MethodId} {args : Array Value} {below : List Frame} {meth : Method} {c : Code} {H : Heap} {locs : List Loc} {cells slots : Nat} {Q : State → Prop} {ls : Array Slot}, At0 M X p s m args meth c → Inv X s h H locs → 1 ≤ M.2.2.2.2 ∧ 40 * M.2.2.2.2 ≤ R.locals ∨ True → LV ls M.2.2.1 L → (∀ ls', LV ls' M.2.2.1 L' → W p l e R s m args below meth c H locs cells slots Q (F0 m pb ls' (st.map tV))) → W p l e R s m args below meth c H locs cells slots Q (F0 m pc ls (st0.map tV))) : Gd X M h0 o h pc L st0 := by
  intro hf res ho
  obtain ⟨hle, g⟩ := g hf res ho
  exact ⟨hle, fun h0h l p e R s m args below meth c Q hat hrm hret H locs ls hI hl => w hat hI (Or.inr trivial) hl (fun ls' hl' => g h0h l p e R s m args below meth c Q hat hrm hret H locs ls' hI hl')⟩
theorem q_div (hx : tbB M.2.1 (pc, .idiv, len, v, tgt) = true) (g : Gd X M h0 o h (pc + 1) L (.inl (x / y) :: st)) : Gd X M h0 (dv y o) h pc L (.inl y :: .inl x :: st) := by
  have hd := tb_len hx rfl
  unfold dv
  split
  · exact gd_none
  · next hy => exact q_w g (fun hat _ _ hl k => lv_idiv hat.1 hat.2.1 hd hy (k _ hl))
theorem q_rem (hx : tbB M.2.1 (pc, .irem, len, v, tgt) = true) (g : Gd X M h0 o h (pc + 1) L (.inl (x - x / y * y) :: st)) : Gd X M h0 (dv y o) h pc L (.inl y :: .inl x :: st) := by
  have hd := tb_len hx rfl
  unfold dv
  split
  · exact gd_none
  · next hy => exact q_w g (fun hat _ _ hl k => lv_irem hat.1 hat.2.1 hd hy (k _ hl))
theorem q_ldc {w : Int32} (hx : tbB M.2.1 (pc, .ldc idx, len, v, tgt) = true) (hw : Cond.constant M.1.cls idx w ∈ goodTbl) (g : Gd X M h0 o h (pc + 2) L (.inl w :: st)) : Gd X M h0 o h pc L st := by
  have hd := tb_len hx rfl
  exact q_w g (fun hat _ _ hl k => lv_ldc hat.1 hat.2.1 hat.2.2.2.1 (hat.2.2.2.2.2.1 _ hw) hd (k _ hl))
theorem q_ldc2 {w : Int64} (hx : tbB M.2.1 (pc, .ldc2_w idx, len, v, tgt) = true) (hw : Cond.constantLong M.1.cls idx w ∈ goodTbl) (g : Gd X M h0 o h (pc + 3) L (.inr (.inl w) :: st)) : Gd X M h0 o h pc L st := by
  have hd := tb_len hx rfl
  exact q_w g (fun hat _ _ hl k => lv_ldc2 hat.1 hat.2.1 hat.2.2.2.1 (hat.2.2.2.2.2.1 _ hw) hd (k _ hl))
theorem q_lconst {n : Fin 2} {w : Int64} (hx : tbB M.2.1 (pc, .lconst n, len, v, tgt) = true) (hw : Int64.ofNat (n : Nat) = w) (g : Gd X M h0 o h (pc + 1) L (.inr (.inl w) :: st)) : Gd X M h0 o h pc L st := by
  have hd := tb_len hx rfl
  exact q_w g (fun hat _ _ hl k => lv_lconst hat.1 hat.2.1 hd hw (k _ hl))
theorem q_ldcS {i : Nat} {tx : String} (hx : tbB M.2.1 (pc, .ldc idx, len, v, tgt) = true) (hw : ∀ s, Env X s → ∃ a, X.2.2.2 i = some a ∧ vk_R M.1.cls idx tx a s) (g : Gd X M h0 o h (pc + 2) L (.inr (.inr (X.2.2.2 i)) :: st)) : Gd X M h0 o h pc L st := by
  have hd := tb_len hx rfl
  refine q_w g (fun {p l e R s m args below meth c H locs cells slots Q ls} hat _ _ hl k => ?_)
  obtain ⟨q, hq, hk⟩ := hw s hat.2.2.2.2.2.2.1
  have k := k ls hl
  rw [hq] at k
  exact va_ldcS hat.1 hat.2.1 hat.2.2.2.1 hk hd k
theorem q_gs {C n d : String} {w : AV} (hx : tbB M.2.1 (pc, .getstatic idx, len, v, tgt) = true) (hz : ∀ s, Env X s → va_Z C n d (tV w) (AX X) s s.heap) (hw : Cond.fieldLink M.1.cls idx C n d ∈ goodTbl) (g : Gd X M h0 o h (pc + 3) L (w :: st)) : Gd X M h0 o h pc L st := by
  have hd := tb_len hx rfl
  exact q_w g (fun hat hI _ hl k => va_gets hat.1 hat.2.1 (hz _ hat.2.2.2.2.2.2.1) hI.S hat.2.2.2.1 (hat.2.2.2.2.2.1 _ hw) (fun _ q => q) hd (k _ hl))
theorem q_gsN {C n d host : String} {w : AV} (hx : tbB M.2.1 (pc, .getstatic idx, len, v, tgt) = true) (hz : ∀ s, Env X s → va_Z C n d (tV w) (AX X) s s.heap) (hw : ∀ s, Env X s → va_Nw (.fieldLinkNest M.1.cls idx C n d host) s) (g : Gd X M h0 o h (pc + 3) L (w :: st)) : Gd X M h0 o h pc L st := by
  have hd := tb_len hx rfl
  exact q_w g (fun hat hI _ hl k => va_getsN hat.1 hat.2.1 (hz _ hat.2.2.2.2.2.2.1) hI.S hat.2.2.2.1 (va_Nw.use rfl (hw _ hat.2.2.2.2.2.2.1)) (fun _ q => q) hd (k _ hl))
theorem q_obj (hx : tbB M.2.1 (pc, .invokespecial idx, len, v, tgt) = true) (hd0 : 1 ≤ M.2.2.2.2) (hs : (st.map fun v => (tV v).category).sum ≤ 20) (hw : Cond.methodLink M.1.cls idx Lib.objectInit ∈ goodTbl ∧ Cond.instanceMethod Lib.objectInit ∈ goodTbl ∧ Cond.code Lib.objectInit ⟨#[0xb1]⟩ 1 none ∈ goodTbl)
    (g : Gd X M h0 o h (pc + 3) L st) : Gd X M h0 (dn r o) h pc L (.inr (.inr r) :: st) := by
  have hd := tb_len hx rfl
  cases r with
  | none => exact gd_none
  | some q =>
    intro hf res ho
    obtain ⟨hle, g⟩ := g hf res ho
    refine ⟨hle, fun h0h l p e R s m args below meth c Q hat hrm hret H locs ls hI hl => ?_⟩
    have hts := hat.2.2.2.2.2.1
    exact W.objInit hat.1 hat.2.1 hat.2.2.2.1 (hts _ hw.1) (hts _ hw.2.1) (hts _ hw.2.2) rfl (hl.1.trans hat.2.2.1.symm) rfl hd (Nat.le_trans hd0 hrm.1)
      (by have h1 := hrm.2.1; show 2 * 0 + ((st.map tV).map fun v => v.category).sum + 12 ≤ _; rw [List.map_map]; have : ((fun v => Value.category v) ∘ tV) = fun v => (tV v).category := rfl; rw [this]; omega)
      (g h0h l p e R s m args below meth c Q hat hrm hret H locs ls hI hl)
/-! fields -/
theorem q_rdW {fs : List AV} {w : AV} {a0 c0 : Nat} {C : String} {T : u_T} {N : Nat} (hx : tbB M.2.1 (pc, .getfield idx, len, v, tgt) = true) (hc : vwCl[ci]? = some (C, T, N)) (hk : k < N) (hw : Cond.fieldLink M.1.cls idx (T k).1 (T k).2.1 (T k).2.2.1 ∈ goodTbl)
    (e : ob h r ci = some (a0, c0, fs)) (hv : fs[k]? = some w) (g : Gd X M h0 o h (pc + 3) L (w :: st)) : Gd X M h0 o h pc L (.inr (.inr r) :: st) := by
  have hd := tb_len hx rfl
  obtain ⟨rfl, hcell, htg⟩ := ob_some e
  refine q_w g (fun {p l e R s m args below meth c H locs cells slots Q ls} hat hI _ hl kk => ?_)
  have kk := kk ls hl
  obtain ⟨ws, hP, hD, hz, hN, hr⟩ := hI.1
  have hrep := hr a0 _ hcell
  rcases tgo_cases htg with ⟨rfl, h9⟩ | ⟨rfl, rfl⟩
  · rcases hrep with ⟨-, i, hi⟩ | ⟨h10, -⟩
    · exact va_get hat.1 hat.2.1 hat.2.2.2.2.2.1 (cl_in hc) hat.2.2.2.1 hat.2.2.2.2.2.2.1.1 hP i hi hc k hk (hat.2.2.2.2.2.1 _ hw) (fun _ q => q) (v := tV w) (by rw [List.getElem?_map, hv]; rfl) hd kk
    · omega
  · rcases hrep with ⟨h9, -⟩ | ⟨-, q, rfl, h1, h2, h3⟩
    · omega
    · have hc' : (RJ0, TJ0, 4) = (C, T, N) := Option.some.inj hc
      cases hc'
      match k, hv with
      | 0, hv =>
        cases hv
        exact vk_getf hat.1 hat.2.1 h2 hI.S hat.2.2.2.1 (hat.2.2.2.2.2.1 _ hw) (fun _ q => q) hd kk
      | 1, hv =>
        cases hv
        exact vk_getf hat.1 hat.2.1 h3 hI.S hat.2.2.2.1 (hat.2.2.2.2.2.1 _ hw) (fun _ q => q) hd kk
      | n + 2, hv => simp at hv
theorem q_rdI {f : Int32 → Rs} (C : String) (T : u_T) (N : Nat) (hx : tbB M.2.1 (pc, .getfield idx, len, v, tgt) = true) (hc : vwCl[ci]? = some (C, T, N)) (hk : k < N) (hw : Cond.fieldLink M.1.cls idx (T k).1 (T k).2.1 (T k).2.2.1 ∈ goodTbl)
    (g : ∀ w, Gd X M h0 (f w) h (pc + 3) L (.inl w :: st)) : Gd X M h0 (rdI h r ci k f) h pc L (.inr (.inr r) :: st) := by
  unfold rdI
  split
  · next e =>
    split
    · next hv => exact q_rdW hx hc hk hw e hv (g _)
    · exact gd_none
  · exact gd_none
theorem q_rdR {f : Option Nat → Rs} (C : String) (T : u_T) (N : Nat) (hx : tbB M.2.1 (pc, .getfield idx, len, v, tgt) = true) (hc : vwCl[ci]? = some (C, T, N)) (hk : k < N) (hw : Cond.fieldLink M.1.cls idx (T k).1 (T k).2.1 (T k).2.2.1 ∈ goodTbl)
    (g : ∀ w, Gd X M h0 (f w) h (pc + 3) L (.inr (.inr w) :: st)) : Gd X M h0 (rdR h r ci k f) h pc L (.inr (.inr r) :: st) := by
  unfold rdR
  split
  · next e =>
    split
    · next hv => exact q_rdW hx hc hk hw e hv (g _)
    · exact gd_none
  · exact gd_none
/-- a step that changes the heap but makes nothing -/
theorem q_h {h1 : Hp} {pb : Nat} {st0 : List AV} (e1 : h1.2 = h.2) (g : Gd X M h0 o h1 pb L st)
    (w : ∀ {p : Program} {l : Launch} {e : Jvm.Env} {R : Room} {s : State} {m : MethodId} {args : Array Value} {below : List Frame} {meth : Method} {c : Code} {H : Heap} {locs : List Loc} {cells slots : Nat} {Q : State → Prop} {ls : Array Slot}, At0 M X p s m args meth c → Inv X s h H locs → LV ls M.2.2.1 L → (∀ H1 locs1, Inv X s h1 H1 locs1 → W p l e R s m args below meth c H1 locs1 cells slots Q (F0 m pb ls (st.map tV))) → W p l e R s m args below meth c H locs cells slots Q (F0 m pc ls (st0.map tV))) : Gd X M h0 o h pc L st0 := by
  intro hf res ho
  obtain ⟨hle, g⟩ := g hf res ho
  refine ⟨by unfold HLe at hle ⊢; rw [e1] at hle; exact hle, fun h0h l p e R s m args below meth c Q hat hrm hret H locs ls hI hl => ?_⟩
  refine w hat hI hl (fun H1 locs1 hI1 => ?_)
  have := g (by unfold HLe at h0h ⊢; rw [e1]; exact h0h) l p e R s m args below meth c Q hat hrm hret H1 locs1 ls hI1 hl
  rw [e1] at this
  exact this
theorem q_wr {f : Hp → Rs} {w : AV} (C : String) (T : u_T) (N : Nat) (hx : tbB M.2.1 (pc, .putfield idx, len, v, tgt) = true) (hc : vwCl[ci]? = some (C, T, N)) (hk : k < N) (hfin : (T k).2.2.2 = false ∨ (M.1.name = "<init>" ∧ (T k).1 = M.1.cls)) (hw : Cond.fieldLink M.1.cls idx (T k).1 (T k).2.1 (T k).2.2.1 ∈ goodTbl)
    (g : ∀ h1, Gd X M h0 (f h1) h1 (pc + 3) L st) : Gd X M h0 (wr h r ci k w f) h pc L (w :: .inr (.inr r) :: st) := by
  have hd := tb_len hx rfl
  unfold wr
  split
  · next a0 c0 fs e =>
    split
    · next hcnd =>
      rw [Bool.and_eq_true, Bool.and_eq_true] at hcnd
      obtain ⟨hlen, h9b, hvf⟩ := hcnd
      have hlen : k < fs.length := Nat.le_of_ble_eq_true hlen
      have h9 : c0 < 9 := Nat.le_of_ble_eq_true h9b
      obtain ⟨rfl, hcell, htg⟩ := ob_some e
      have hci : c0 = ci := by
        rcases tgo_cases htg with ⟨q, -⟩ | ⟨q, -⟩
        · exact q
        · omega
      subst hci
      refine q_h (h1 := upH h a0 (.inr (c0, fs.set k w))) rfl (g _) (fun {p l e R s m args below meth c H locs cells slots Q ls} hat hI hl kk => ?_)
      obtain ⟨ws, hP, hD, hz, hN, hr⟩ := hI.1
      have hrep := hr a0 _ hcell
      rcases hrep with ⟨-, i, hi⟩ | ⟨h10, -⟩
      · have hK : va_K X.1 vwCl (tysX X) s := hat.2.2.2.2.2.2.1.1
        obtain ⟨C', T', N', hc', hty, hnm, hNn, -⟩ := cl_9 h9
        have heq : (C', T', N') = (C, T, N) := Option.some.inj (hc'.symm.trans hc)
        cases heq
        have hts := hat.2.2.2.2.2.1
        have hin := cl_in hc
        have hap := va_apart (own := M.1.cls) hts hin _ hty hnm hK hc
        obtain ⟨hn, hfit⟩ := vfit_ok hvf
        obtain ⟨r0, g1, cell, q1, q2, q3, q4⟩ := hP i _ hi
        have hr0 : r0 = (C, T, N) := Option.some.inj (g1.symm.trans hc)
        subst hr0
        obtain ⟨hS, hfc, kC, hkC, hkind⟩ := hK.1 c0 _ hc
        obtain ⟨cf, kf, fi, ff, hi2, hsl⟩ := hS k hk
        have hlay := hts _ (hin _ (u_in_lay hk))
        have hst := (u_facts hfc hkC (u_lays hts hin hk) hi2).1
        have hAX : AX X a0 := hD.2 i _ hi
        have fin : ∀ H' : Heap, H'[a0]? = some (cell.setSlot ff.slot (tV w)) → H'.size = H.size → (∀ q, q ≠ a0 → H'[q]? = H[q]?) → W p l e R s m args below meth c H' (locs ++ [⟨a0, ff.slot⟩]) cells slots Q (F0 m (pc + 3) ls (st.map tV)) := by
          intro H' e1 e2 e3
          rw [hsl] at e1
          refine kk H' _ (hI.put (RepH.put hP hD hz hN hr hi (e1 := .inr (c0, (fs.set k w).map tV)) ⟨_, hc, ?_⟩ e2 e3 (fun ws' h' => Or.inl ⟨h9, i, h'⟩)) e2 e3 hAX)
          refine t_OB.to (V := updV (vp_V (fs.map tV)) k (tV w)) ⟨_, e1, q2, q3, t_set q4 hap hk (tV w)⟩ (fun j _ => ?_)
          rw [List.map_set]
          exact vp_updV_set (by rw [List.length_map]; exact hlen) (tV w) j
        rcases hfin with hfin | ⟨hini, hown⟩
        · unfold u_lay at hlay
          rw [if_neg (by rw [hfin]; decide)] at hlay
          have h6 := u_store hfc hkC hkind hlay hi2 (hty k hk) hn hfit
          exact W.putK hat.1 hat.2.1 (f := ff) ⟨hat.2.2.2.1, hts _ hw, ⟨_, _, _, hi2⟩, hst⟩ (by rw [q2]; exact h6) q1 q3 (by rw [hsl]; exact k2_hasslot (q4 k hk)) rfl rfl hd fin
        · by_cases hff : (T k).2.2.2 = true
          · unfold u_lay at hlay
            rw [if_pos hff] at hlay
            have hcf : m.cls = cf := by
              obtain ⟨_, _, c', _, _, _, -, -, hf', -, -, -, hown2, -⟩ := Cond.laysFinal_spec hlay
              have e1 : c' = cf := by have := hi2.symm.trans hf'; simp at this; exact this.1.symm
              rw [hown] at hown2
              rw [← e1]; exact Option.some.inj (hat.2.2.2.1.symm.trans hown2)
            have h6 := u_fits hfc hkC hkind (Or.inr hlay) hi2 (hty k hk) hn hfit
            exact W.putFinK hat.1 hat.2.1 hat.2.2.2.1 (hts _ hw) hi2 hst hcf (hat.2.2.2.2.1.trans hini) (by rw [q2]; exact h6) q1 q3 (by rw [hsl]; exact k2_hasslot (q4 k hk)) rfl rfl hd fin
          · unfold u_lay at hlay
            rw [if_neg hff] at hlay
            have h6 := u_store hfc hkC hkind hlay hi2 (hty k hk) hn hfit
            exact W.putK hat.1 hat.2.1 (f := ff) ⟨hat.2.2.2.1, hts _ hw, ⟨_, _, _, hi2⟩, hst⟩ (by rw [q2]; exact h6) q1 q3 (by rw [hsl]; exact k2_hasslot (q4 k hk)) rfl rfl hd fin
      · omega
    · exact gd_none
  · exact gd_none
end RULES
end
section
/-! ARRAYS, MAKINGS, CALLS -/
theorem ks_mem {ks : List Nat} {k : Nat} (h : ks.contains k = true) : k ∈ ks := by simpa using h
section ARR
variable {X : Cx} {M : MI} {h0 h : Hp} {o : Rs} {L : List (Option AV)} {st : List AV} {pc len tgt : Nat} {v i x : Int32} {r : Option Nat} {f : Int32 → Rs} {fr : Option Nat → Rs} {fh : Hp → Rs}
theorem q_iaload (hx : tbB M.2.1 (pc, .iaload, len, v, tgt) = true) (g : ∀ w, Gd X M h0 (f w) h (pc + 1) L (.inl w :: st)) : Gd X M h0 (aldI h r [0, 10] i f) h pc L (.inl i :: .inr (.inr r) :: st) := by
  have hd := tb_len hx rfl
  unfold aldI
  split
  · next a0 k n gg e =>
    split
    · next hc =>
      rw [Bool.and_eq_true] at hc
      obtain ⟨rfl, hcell⟩ := ar_some e
      have hin := inB_in hc.2
      have hk := ks_mem hc.1
      refine q_w (g _) (fun {p l e R s m args below meth c H locs cells slots Q ls} hat hI _ hl kk => ?_)
      have kk := kk ls hl
      obtain ⟨ws, hP, hD, hz, hN, hr⟩ := hI.1
      rcases hr a0 _ hcell with ⟨h7, j, hj⟩ | ⟨h10, g0, hg, hT⟩ | ⟨h11, -⟩
      · have k0 : k = 0 := by simp at hk; omega
        subst k0
        exact va_iald hat.1 hat.2.1 hat.2.2.2.2.2.2.1.1 hP j 0 hj rfl hin hd kk
      · cases hg
        exact va_ti hat.1 hat.2.1 hT hI.S hin rfl hd kk
      · simp at hk; omega
    · exact gd_none
  · exact gd_none
theorem q_baload (hx : tbB M.2.1 (pc, .baload, len, v, tgt) = true) (g : ∀ w, Gd X M h0 (f w) h (pc + 1) L (.inl w :: st)) : Gd X M h0 (aldI h r [1, 2, 11] i f) h pc L (.inl i :: .inr (.inr r) :: st) := by
  have hd := tb_len hx rfl
  unfold aldI
  split
  · next a0 k n gg e =>
    split
    · next hc =>
      rw [Bool.and_eq_true] at hc
      obtain ⟨rfl, hcell⟩ := ar_some e
      have hin := inB_in hc.2
      have hk := ks_mem hc.1
      refine q_w (g _) (fun {p l e R s m args below meth c H locs cells slots Q ls} hat hI _ hl kk => ?_)
      have kk := kk ls hl
      obtain ⟨ws, hP, hD, hz, hN, hr⟩ := hI.1
      rcases hr a0 _ hcell with ⟨h7, j, hj⟩ | ⟨h10, -⟩ | ⟨h11, g0, hg, -, hT⟩
      · have k0 : k = 1 ∨ k = 2 := by simp at hk; omega
        rcases k0 with rfl | rfl
        · exact va_bald hat.1 hat.2.1 hat.2.2.2.2.2.2.1.1 hP j 1 hj rfl hin hd kk
        · exact va_zald hat.1 hat.2.1 hat.2.2.2.2.2.2.1.1 hP j 2 hj rfl hin hd kk
      · simp at hk; omega
      · cases hg
        exact va_tb hat.1 hat.2.1 hT hI.S hin rfl hd kk
    · exact gd_none
  · exact gd_none
theorem q_caload (hx : tbB M.2.1 (pc, .caload, len, v, tgt) = true) (g : ∀ w, Gd X M h0 (f w) h (pc + 1) L (.inl w :: st)) : Gd X M h0 (aldI h r [3] i f) h pc L (.inl i :: .inr (.inr r) :: st) := by
  have hd := tb_len hx rfl
  unfold aldI
  split
  · next a0 k n gg e =>
    split
    · next hc =>
      rw [Bool.and_eq_true] at hc
      obtain ⟨rfl, hcell⟩ := ar_some e
      have hin := inB_in hc.2
      have hk := ks_mem hc.1
      refine q_w (g _) (fun {p l e R s m args below meth c H locs cells slots Q ls} hat hI _ hl kk => ?_)
      have kk := kk ls hl
      obtain ⟨ws, hP, hD, hz, hN, hr⟩ := hI.1
      rcases hr a0 _ hcell with ⟨h7, j, hj⟩ | ⟨h10, -⟩ | ⟨h11, -⟩
      · have k0 : k = 3 := by simp at hk; omega
        subst k0
        exact va_cald hat.1 hat.2.1 hat.2.2.2.2.2.2.1.1 hP j 3 hj rfl hin hd kk
      · simp at hk; omega
      · simp at hk; omega
    · exact gd_none
  · exact gd_none
theorem q_aaload (hx : tbB M.2.1 (pc, .aaload, len, v, tgt) = true) (g : ∀ w, Gd X M h0 (fr w) h (pc + 1) L (.inr (.inr w) :: st)) : Gd X M h0 (aldR h r i fr) h pc L (.inl i :: .inr (.inr r) :: st) := by
  have hd := tb_len hx rfl
  unfold aldR
  split
  · next a0 k n gg e =>
    split
    · next hc =>
      rw [Bool.and_eq_true, Bool.and_eq_true] at hc
      obtain ⟨rfl, hcell⟩ := ar_some e
      have hin := inB_in hc.2
      have k3 : 3 < k := Nat.le_of_ble_eq_true hc.1.1
      have k7 : k < 7 := Nat.le_of_ble_eq_true hc.1.2
      refine q_w (g _) (fun {p l e R s m args below meth c H locs cells slots Q ls} hat hI _ hl kk => ?_)
      have kk := kk ls hl
      obtain ⟨ws, hP, hD, hz, hN, hr⟩ := hI.1
      rcases hr a0 _ hcell with ⟨h7, j, hj⟩ | ⟨h10, -⟩ | ⟨h11, -⟩
      · have ht := tysX_at X k7
        have hC : ∃ C, tyA k = .object C := by
          rcases (by omega : k = 4 ∨ k = 5 ∨ k = 6) with rfl | rfl | rfl <;> exact ⟨_, rfl⟩
        obtain ⟨C, hC⟩ := hC
        rw [hC] at ht
        exact va_aldq hat.1 hat.2.1 hat.2.2.2.2.2.2.1.1 hP j k hj ht hin hd kk
      · omega
      · omega
    · exact gd_none
  · exact gd_none
theorem q_alen (hx : tbB M.2.1 (pc, .arraylength, len, v, tgt) = true) (g : ∀ w, Gd X M h0 (f w) h (pc + 1) L (.inl w :: st)) : Gd X M h0 (lenA h r f) h pc L (.inr (.inr r) :: st) := by
  have hd := tb_len hx rfl
  unfold lenA
  split
  · next a0 k n y e =>
    obtain ⟨rfl, hcell⟩ := ar_some e
    refine q_w (g _) (fun {p l e R s m args below meth c H locs cells slots Q ls} hat hI _ hl kk => ?_)
    have kk := kk ls hl
    obtain ⟨ws, hP, hD, hz, hN, hr⟩ := hI.1
    rcases hr a0 _ hcell with ⟨h7, j, hj⟩ | ⟨h10, g0, hg, hT⟩ | ⟨h11, g0, hg, -, hT⟩
    · exact va_alen hat.1 hat.2.1 hat.2.2.2.2.2.2.1.1 hP j k hj (tysX_at X h7) rfl hd kk
    · exact va_tlen hat.1 hat.2.1 hT hI.S rfl hd kk
    · exact va_tlen hat.1 hat.2.1 hT hI.S rfl hd kk
  · exact gd_none
/-- a store into an array of numbers, by its kind -/
theorem ast_fin {X : Cx} {s : State} {h : Hp} {H H1 : Heap} {locs : List Loc} {a0 k n j q : Nat} {gg : Nat → Int32} {y : Int32} (hI : Inv X s h H locs) {ws : va_W} (hP : va_P X.1 vwCl ws H) (hD : va_D (AX X) ws) (hz : H.size = h.2.1) (hN : X.2.2.1 ≤ h.2.1) (hr : ∀ a e, h.1 a = some e → rep1 X s ws a e) (h7 : k < 7)
    (hj : ws[j]? = some (a0, .inl (X.2.1 k, n, .inl gg))) (e1 : H1[a0]? = some ((vp_cell (X.2.1 k) (n, .inl gg)).setSlot q (.int y))) (e2 : H1.size = H.size) (e3 : ∀ b, b ≠ a0 → H1[b]? = H[b]?) : Inv X s (upH h a0 (.inl (k, n, .inl (upd gg q y)))) H1 (locs ++ [⟨a0, q⟩]) := by
  refine hI.put (RepH.put hP hD hz hN hr hj (e1 := .inl (X.2.1 k, n, .inl (upd gg q y))) ?_ e2 e3 (fun ws' h' => Or.inl ⟨h7, j, h'⟩)) e2 e3 (hD.2 j _ hj)
  show H1[a0]? = some (vp_cell _ _)
  rw [e1, vp_cell_i, vp_cell_i, arrV_store]
  congr 2
  funext b
  by_cases hb : b = q
  · subst hb
    simp [updV, upd]
  · simp [updV, upd, hb]
theorem q_iastore (hx : tbB M.2.1 (pc, .iastore, len, v, tgt) = true) (g : ∀ h1, Gd X M h0 (fh h1) h1 (pc + 1) L st) : Gd X M h0 (astI h r [0] i x fh) h pc L (.inl x :: .inl i :: .inr (.inr r) :: st) := by
  have hd := tb_len hx rfl
  unfold astI
  split
  · next a0 k n gg e =>
    split
    · next hc =>
      rw [Bool.and_eq_true, Bool.and_eq_true] at hc
      obtain ⟨rfl, hcell⟩ := ar_some e
      have hin := inB_in hc.2
      have hk := ks_mem hc.1.1
      have k0 : k = 0 := by simpa using hk
      subst k0
      refine q_h (h1 := upH h a0 _) rfl (g _) (fun {p l e R s m args below meth c H locs cells slots Q ls} hat hI hl kk => ?_)
      obtain ⟨ws, hP, hD, hz, hN, hr⟩ := hI.1
      rcases hr a0 _ hcell with ⟨h7, j, hj⟩ | ⟨h10, -⟩ | ⟨h11, -⟩
      · exact W.iast hat.1 hat.2.1 (hP j _ hj) ((hat.2.2.2.2.2.2.1.1.2 0 _ rfl).1 n (fun j => .int (gg j))) (fun q => by cases q) (by show ¬ (i < 0 ∨ (arrV _ _ _).slots.size ≤ _); rw [arrV_size]; exact hin) rfl rfl hd
          fun H1 e1 e2 e3 => kk H1 _ (ast_fin hI hP hD hz hN hr h7 hj e1 e2 e3)
      · omega
      · omega
    · exact gd_none
  · exact gd_none
theorem q_bastore (hx : tbB M.2.1 (pc, .bastore, len, v, tgt) = true) (g : ∀ h1, Gd X M h0 (fh h1) h1 (pc + 1) L st) : Gd X M h0 (astI h r [1, 2] i x fh) h pc L (.inl x :: .inl i :: .inr (.inr r) :: st) := by
  have hd := tb_len hx rfl
  unfold astI
  split
  · next a0 k n gg e =>
    split
    · next hc =>
      rw [Bool.and_eq_true, Bool.and_eq_true] at hc
      obtain ⟨rfl, hcell⟩ := ar_some e
      have hin := inB_in hc.2
      have hk := ks_mem hc.1.1
      have k0 : k = 1 ∨ k = 2 := by simpa using hk
      refine q_h (h1 := upH h a0 _) rfl (g _) (fun {p l e R s m args below meth c H locs cells slots Q ls} hat hI hl kk => ?_)
      obtain ⟨ws, hP, hD, hz, hN, hr⟩ := hI.1
      rcases hr a0 _ hcell with ⟨h7, j, hj⟩ | ⟨h10, -⟩ | ⟨h11, -⟩
      · rcases k0 with rfl | rfl
        · exact W.bast hat.1 hat.2.1 (hP j _ hj) ((hat.2.2.2.2.2.2.1.1.2 1 _ rfl).1 n (fun j => .int (gg j))) (fun q => by cases q) (by show ¬ (i < 0 ∨ (arrV _ _ _).slots.size ≤ _); rw [arrV_size]; exact hin) rfl rfl hd
            fun H1 e1 e2 e3 => kk H1 _ (ast_fin hI hP hD hz hN hr h7 hj e1 e2 e3)
        · exact W.zast hat.1 hat.2.1 (hP j _ hj) ((hat.2.2.2.2.2.2.1.1.2 2 _ rfl).1 n (fun j => .int (gg j))) (fun q => by cases q) (by show ¬ (i < 0 ∨ (arrV _ _ _).slots.size ≤ _); rw [arrV_size]; exact hin) rfl rfl hd
            fun H1 e1 e2 e3 => kk H1 _ (ast_fin hI hP hD hz hN hr h7 hj e1 e2 e3)
      · omega
      · omega
    · exact gd_none
  · exact gd_none
theorem q_castore (hx : tbB M.2.1 (pc, .castore, len, v, tgt) = true) (g : ∀ h1, Gd X M h0 (fh h1) h1 (pc + 1) L st) : Gd X M h0 (astI h r [3] i x fh) h pc L (.inl x :: .inl i :: .inr (.inr r) :: st) := by
  have hd := tb_len hx rfl
  unfold astI
  split
  · next a0 k n gg e =>
    split
    · next hc =>
      rw [Bool.and_eq_true, Bool.and_eq_true] at hc
      obtain ⟨rfl, hcell⟩ := ar_some e
      have hin := inB_in hc.2
      have hk := ks_mem hc.1.1
      have k0 : k = 3 := by simpa using hk
      subst k0
      refine q_h (h1 := upH h a0 _) rfl (g _) (fun {p l e R s m args below meth c H locs cells slots Q ls} hat hI hl kk => ?_)
      obtain ⟨ws, hP, hD, hz, hN, hr⟩ := hI.1
      rcases hr a0 _ hcell with ⟨h7, j, hj⟩ | ⟨h10, -⟩ | ⟨h11, -⟩
      · exact W.cast hat.1 hat.2.1 (hP j _ hj) ((hat.2.2.2.2.2.2.1.1.2 3 _ rfl).1 n (fun j => .int (gg j))) (fun q => by cases q) (by show ¬ (i < 0 ∨ (arrV _ _ _).slots.size ≤ _); rw [arrV_size]; exact hin) rfl rfl hd
          fun H1 e1 e2 e3 => kk H1 _ (ast_fin hI hP hD hz hN hr h7 hj e1 e2 e3)
      · omega
      · omega
    · exact gd_none
  · exact gd_none
theorem astR_fin {X : Cx} {s : State} {h : Hp} {H H1 : Heap} {locs : List Loc} {a0 k n j q : Nat} {gg : Nat → Option Nat} {y : Option Nat} (hI : Inv X s h H locs) {ws : va_W} (hP : va_P X.1 vwCl ws H) (hD : va_D (AX X) ws) (hz : H.size = h.2.1) (hN : X.2.2.1 ≤ h.2.1) (hr : ∀ a e, h.1 a = some e → rep1 X s ws a e) (h7 : k < 7)
    (hj : ws[j]? = some (a0, .inl (X.2.1 k, n, .inr (.inr (.inr (.inr gg)))))) (e1 : H1[a0]? = some ((vp_cell (X.2.1 k) (n, .inr (.inr (.inr (.inr gg))))).setSlot q (va_rf y))) (e2 : H1.size = H.size) (e3 : ∀ b, b ≠ a0 → H1[b]? = H[b]?) : Inv X s (upH h a0 (.inl (k, n, .inr (.inr (.inr (.inr (va_up gg q y))))))) H1 (locs ++ [⟨a0, q⟩]) := by
  refine hI.put (RepH.put hP hD hz hN hr hj (e1 := .inl (X.2.1 k, n, .inr (.inr (.inr (.inr (va_up gg q y)))))) ?_ e2 e3 (fun ws' h' => Or.inl ⟨h7, j, h'⟩)) e2 e3 (hD.2 j _ hj)
  show H1[a0]? = some (vp_cell _ _)
  rw [e1, vp_cell_q, vp_cell_q, arrV_store]
  congr 2
  funext b
  by_cases hb : b = q
  · subst hb
    simp [updV, va_up]
  · simp [updV, va_up, hb]
def clR : Nat → vw_C
  | 4 => (RX1, TX1, 4)
  | 5 => (RX2, TX2, 14)
  | _ => (RX4, TX4, 13)
theorem clR_ok {k : Nat} (h3 : 3 < k) (h7 : k < 7) : vwCl[ecl k]? = some (clR k) ∧ tyA k = .object (clR k).1 := by
  rcases (by omega : k = 4 ∨ k = 5 ∨ k = 6) with rfl | rfl | rfl <;> exact ⟨rfl, rfl⟩
theorem q_aastore {w : Option Nat} (hx : tbB M.2.1 (pc, .aastore, len, v, tgt) = true) (g : ∀ h1, Gd X M h0 (fh h1) h1 (pc + 1) L st) : Gd X M h0 (astR h r i w fh) h pc L (.inr (.inr w) :: .inl i :: .inr (.inr r) :: st) := by
  have hd := tb_len hx rfl
  unfold astR
  split
  · next a0 k n gg e =>
    split
    · next hc =>
      rw [Bool.and_eq_true, Bool.and_eq_true, Bool.and_eq_true] at hc
      obtain ⟨rfl, hcell⟩ := ar_some e
      have hin := inB_in hc.2.1
      have k3 : 3 < k := Nat.le_of_ble_eq_true hc.1.1
      have k7 : k < 7 := Nat.le_of_ble_eq_true hc.1.2
      have hel := hc.2.2
      obtain ⟨hcl, hty⟩ := clR_ok k3 k7
      refine q_h (h1 := upH h a0 _) rfl (g _) (fun {p l e R s m args below meth c H locs cells slots Q ls} hat hI hl kk => ?_)
      obtain ⟨ws, hP, hD, hz, hN, hr⟩ := hI.1
      have hK : va_K X.1 vwCl (tysX X) s := hat.2.2.2.2.2.2.1.1
      have ht := tysX_at X k7
      rw [hty] at ht
      have hin' : ¬ (i < 0 ∨ (vp_cell (X.2.1 k) (n, .inr (.inr (.inr (.inr gg))))).slots.size ≤ i.toNatClampNeg) := by
        show ¬ (i < 0 ∨ (arrV _ _ _).slots.size ≤ _)
        rw [arrV_size]
        exact hin
      rcases hr a0 _ hcell with ⟨h7, j, hj⟩ | ⟨h10, -⟩ | ⟨h11, -⟩
      · cases w with
        | none => exact va_WaastN (C := (clR k).1) hat.1 hat.2.1 (hP j _ hj) ((hK.2 k _ ht).1 n (fun j => va_rf (gg j))) (fun q => by cases q) hin' rfl rfl hd fun H1 e1 e2 e3 => kk H1 _ (astR_fin (y := none) hI hP hD hz hN hr h7 hj e1 e2 e3)
        | some b =>
          unfold isEl at hel
          split at hel
          · next q => cases q
          · next b' q =>
            cases q
            split at hel
            · next c0 fs hcb =>
              have hc0 : c0 = ecl k := by simpa using hel
              subst hc0
              rcases hr b _ hcb with ⟨h9, jb, hjb⟩ | ⟨h10, -⟩
              · obtain ⟨r', hr', cellV, g1, g2, g3, -⟩ := hP jb _ hjb
                have hcls := (hK.1 (ecl k) (clR k) hcl).2
                obtain ⟨kA, comp, k1, k2, k3', -⟩ := (hK.2 k _ ht).2
                have hcomp : comp = X.1.1 (ecl k) := Option.some.inj (k3'.symm.trans hcls.1)
                subst hcomp
                obtain ⟨kC, hkC, -⟩ := hcls.2
                exact W.aast hat.1 hat.2.1 (hP j _ hj) (fun q h => by cases h) (fun h => by cases h) k1 k2 rfl hkC ⟨fun q => hin' (Or.inl q), Nat.not_le.mp fun q => hin' (Or.inr q)⟩ g1 (fun q h => by rw [g3] at h; cases h) (by rw [g2]; exact hkC) (by rw [g2]; exact va_assign hcls) rfl rfl hd
                  fun H1 e1 e2 e3 => kk H1 _ (astR_fin (y := some b) hI hP hD hz hN hr h7 hj e1 e2 e3)
              · rcases (by omega : k = 4 ∨ k = 5 ∨ k = 6) with rfl | rfl | rfl <;> cases h10
            · cases hel
      · omega
      · omega
    · exact gd_none
  · exact gd_none
end ARR
section MAKE
variable {X : Cx} {M : MI} {h0 h : Hp} {o : Rs} {L : List (Option AV)} {st : List AV} {pc len tgt idx : Nat} {v i x : Int32} {f : Hp → Option Nat → Rs}
theorem q_mk {h1 : Hp} {n pb : Nat} {st0 : List AV} (e1 : h1.2.1 = h.2.1 + 1) (e2 : h1.2.2 = h.2.2 + n) (g : Gd X M h0 o h1 pb L st)
    (w : ∀ {p : Program} {l : Launch} {e : Jvm.Env} {R : Room} {s : State} {m : MethodId} {args : Array Value} {below : List Frame} {meth : Method} {c : Code} {H : Heap} {locs : List Loc} {cells slots : Nat} {Q : State → Prop} {ls : Array Slot}, At0 M X p s m args meth c → Inv X s h H locs → LV ls M.2.2.1 L → cells + 1 ≤ R.cells → slots + n ≤ R.slots → (∀ H1, Inv X s h1 H1 locs → W p l e R s m args below meth c H1 locs (cells + 1) (slots + n) Q (F0 m pb ls (st.map tV))) → W p l e R s m args below meth c H locs cells slots Q (F0 m pc ls (st0.map tV))) : Gd X M h0 o h pc L st0 := by
  intro hf res ho
  obtain ⟨hle, g⟩ := g hf res ho
  unfold HLe at hle
  rw [e1, e2] at hle
  refine ⟨⟨by omega, by omega⟩, fun h0h l p e R s m args below meth c Q hat hrm hret H locs ls hI hl => ?_⟩
  unfold HLe at h0h
  refine w hat hI hl (by have := hrm.2.2.1; omega) (by have := hrm.2.2.2; omega) (fun H1 hI1 => ?_)
  have := g ⟨by rw [e1]; omega, by rw [e2]; omega⟩ l p e R s m args below meth c Q hat hrm hret H1 locs ls hI1 hl
  rw [e1, e2, show h.2.1 + 1 - h0.2.1 = h.2.1 - h0.2.1 + 1 by omega, show h.2.2 + n - h0.2.2 = h.2.2 - h0.2.2 + n by omega] at this
  exact this
theorem q_new {ci : Nat} (C : String) (T : u_T) (N : Nat) (hx : tbB M.2.1 (pc, .new idx, len, v, tgt) = true) (h9 : ci < 9) (hc : vwCl[ci]? = some (C, T, N)) (hw : Cond.classLink M.1.cls idx C ∈ goodTbl ∧ Cond.instantiable C N ∈ goodTbl ∧ Cond.initialized C ∈ goodTbl)
    (g : ∀ h1 q, Gd X M h0 (f h1 q) h1 (pc + 3) L (.inr (.inr q) :: st)) : Gd X M h0 (nwO h ci f) h pc L st := by
  have hd := tb_len hx rfl
  obtain ⟨C', T', N', hc', hty, hnm, hNn, hdf⟩ := cl_9 h9
  have heq : (C', T', N') = (C, T, N) := Option.some.inj (hc'.symm.trans hc)
  cases heq
  refine q_mk (h1 := pushH h (.inr (ci, dfC ci)) (nmC ci)) rfl rfl (g _ _) (fun {p l e R s m args below meth c H locs cells slots Q ls} hat hI hl hcl hsl kk => ?_)
  have hts := hat.2.2.2.2.2.1
  have hKn := hat.2.2.2.2.2.2.1.1.1 ci _ hc
  have hz : H.size = h.2.1 := by obtain ⟨ws, -, -, hz, -⟩ := hI.1; exact hz
  subst hNn
  refine W.newcK hat.1 hat.2.1 hat.2.2.2.1 (hts _ hw.1) (hts _ hw.2.1) (hts _ hw.2.2) rfl hd hcl hsl hKn.2.1 hz fun H1 kC hkC e1 z1 o1 => ?_
  refine kk H1 (hI.push (RepH.push hI.1 (e1 := .inr (ci, (dfC ci).map tV)) ⟨_, hc, ?_⟩ (by rw [z1, hz]) (fun q hq => o1 q (by rw [← hz]; exact hq)) (fun ws' i h' => Or.inl ⟨h9, i, h'⟩)) (by rw [z1, hz]) (fun q hq => o1 q (by rw [← hz]; exact hq)))
  rw [hz]
  exact (u_born _ hts (cl_in hc) hKn hkC e1 hty).to hdf
def atyOf : Nat → ArrayType
  | 0 => .int
  | 1 => .byte
  | 2 => .boolean
  | _ => .char
theorem q_newa {k : Nat} (hk : k < 4) (hx : tbB M.2.1 (pc, .newarray (atyOf k), len, v, tgt) = true) (hw : Cond.arrayClass (newarray.typeOf (atyOf k)) ∈ goodTbl)
    (g : ∀ h1 q, Gd X M h0 (f h1 q) h1 (pc + 2) L (.inr (.inr q) :: st)) : Gd X M h0 (nwA h k x f) h pc L (.inl x :: st) := by
  have hd := tb_len hx rfl
  unfold nwA
  split
  · next hc =>
    rw [Bool.and_eq_true] at hc
    have hx0 : ¬ x < 0 := by simpa using hc.1
    have hxm : x.toNatClampNeg ≤ 1000000 := Nat.le_of_ble_eq_true hc.2
    refine q_mk rfl rfl (g _ _) (fun {p l e R s m args below meth c H locs cells slots Q ls} hat hI hl hcl hsl kk => ?_)
    have hts := hat.2.2.2.2.2.1
    have hK : va_K X.1 vwCl (tysX X) s := hat.2.2.2.2.2.2.1.1
    have hz : H.size = h.2.1 := by obtain ⟨ws, -, -, hz, -⟩ := hI.1; exact hz
    refine va_newaK hat.1 hat.2.1 (hts _ hw) rfl hd rfl hx0 rfl ?_ hcl hsl hz fun H1 cA e1 z1 o1 hAr hNm => ?_
    · rcases (by omega : k = 0 ∨ k = 1 ∨ k = 2 ∨ k = 3) with rfl | rfl | rfl | rfl <;> (simp only [atyOf, newarray.typeOf, componentBytes]; omega)
    · have hcA : cA = X.2.1 k := by
        have h2 := (hK.2 k _ (tysX_at X (by omega : k < 7))).2
        rcases (by omega : k = 0 ∨ k = 1 ∨ k = 2 ∨ k = 3) with rfl | rfl | rfl | rfl <;> exact Option.some.inj (hNm.symm.trans h2)
      subst hcA
      refine kk H1 (hI.push (RepH.push hI.1 (e1 := .inl (X.2.1 k, x.toNatClampNeg, .inl (fun _ => 0))) ?_ (by rw [z1, hz]) (fun q hq => o1 q (by rw [← hz]; exact hq)) (fun ws' i h' => Or.inl ⟨by omega, i, h'⟩)) (by rw [z1, hz]) (fun q hq => o1 q (by rw [← hz]; exact hq)))
      show H1[H.size]? = some (vp_cell _ _)
      rw [hz, e1, vp_cell_i]
      rcases (by omega : k = 0 ∨ k = 1 ∨ k = 2 ∨ k = 3) with rfl | rfl | rfl | rfl <;> rfl
  · exact gd_none
theorem q_newr {k : Nat} (h3 : 3 < k) (h7 : k < 7) (hx : tbB M.2.1 (pc, .anewarray idx, len, v, tgt) = true) (hw : Cond.classLink M.1.cls idx (clR k).1 ∈ goodTbl)
    (g : ∀ h1 q, Gd X M h0 (f h1 q) h1 (pc + 3) L (.inr (.inr q) :: st)) : Gd X M h0 (nwR h k x f) h pc L (.inl x :: st) := by
  have hd := tb_len hx rfl
  unfold nwR
  split
  · next hc =>
    rw [Bool.and_eq_true] at hc
    have hx0 : ¬ x < 0 := by simpa using hc.1
    have hxm : x.toNatClampNeg ≤ 1000000 := Nat.le_of_ble_eq_true hc.2
    refine q_mk rfl rfl (g _ _) (fun {p l e R s m args below meth c H locs cells slots Q ls} hat hI hl hcl hsl kk => ?_)
    have hts := hat.2.2.2.2.2.1
    have hK : va_K X.1 vwCl (tysX X) s := hat.2.2.2.2.2.2.1.1
    have hao : va_AO (clR k).1 s := by
      obtain ⟨a1, a2, a3⟩ := hat.2.2.2.2.2.2.1.2.1
      rcases (by omega : k = 4 ∨ k = 5 ∨ k = 6) with rfl | rfl | rfl
      · exact a1
      · exact a2
      · exact a3
    have hz : H.size = h.2.1 := by obtain ⟨ws, -, -, hz, -⟩ := hI.1; exact hz
    refine W.anew hat.1 hat.2.1 hat.2.2.2.1 (hts _ hw) (va_AO.use hao) rfl hd rfl hx0 (by omega) hcl hsl fun cA kA comp f1 f2 f3 f4 => ?_
    obtain ⟨hcl', hty⟩ := clR_ok h3 h7
    have ht := tysX_at X h7
    rw [hty] at ht
    have hcA : cA = X.2.1 k := by
      obtain ⟨_, _, -, -, -, h4⟩ := (hK.2 k _ ht).2
      exact Option.some.inj (f1.symm.trans h4)
    subst hcA
    generalize hH1 : H.push ({ cls := X.2.1 k, slots := Array.replicate x.toNatClampNeg .null, vm := .none } : Cell) = H1
    have z1 : H1.size = H.size + 1 := by rw [← hH1, Array.size_push]
    have e1 : H1[H.size]? = some (arrV (X.2.1 k) x.toNatClampNeg (fun _ => .null)) := by rw [← hH1, Array.getElem?_push_size, ← arrV_new]
    have o1 : ∀ q : Nat, q < H.size → H1[q]? = H[q]? := fun q hq => by rw [← hH1, Array.getElem?_push, if_neg (Nat.ne_of_lt hq)]
    have kk := kk H1 (hI.push (RepH.push hI.1 (e1 := .inl (X.2.1 k, x.toNatClampNeg, .inr (.inr (.inr (.inr (fun _ => none)))))) (by
      show H1[H.size]? = some (vp_cell _ _)
      rw [vp_cell_q]
      exact e1) z1 o1 (fun ws' i h' => Or.inl ⟨h7, i, h'⟩)) z1 o1)
    rw [hz]
    exact kk
  · exact gd_none
end MAKE
end
section
/-! RETURNS, SWITCHES, CALLS -/
theorem nar_eq (ty : FieldType) (x : Int32) : narrow ty (.int x) = .int (vp_nar ty x) := by cases ty <;> rfl
def catA (v : AV) : Nat := match v with
  | .inr (.inl _) => 2
  | _ => 1
theorem catA_eq (v : AV) : (tV v).category = catA v := by
  obtain x | y | r := v
  · rfl
  · rfl
  · cases r <;> rfl
theorem cat_sum (st : List AV) : ((st.map tV).map fun v => v.category).sum = (st.map catA).sum := by
  rw [List.map_map]
  congr 1
  exact List.map_congr_left (fun v _ => catA_eq v)
section RET
variable {X : Cx} {M : MI} {h0 h : Hp} {o : Rs} {L : List (Option AV)} {st : List AV} {pc len tgt idx : Nat} {v x : Int32} {r : Option Nat}
theorem q_iret (hx : tbB M.2.1 (pc, .ireturn, len, v, tgt) = true) (hr : M.2.2.2.1 = some .int) : Gd X M h0 (some (h, some (.inl x))) h pc L [.inl x] := by
  have hd := tb_len hx rfl
  intro hf res ho
  cases ho
  exact ⟨HLe.rf, fun _ l p e R s m args below meth c Q hat hrm hret H locs ls hI hl => hret H locs ls pc _ hI hd ⟨rfl, _, hr, rfl⟩⟩
theorem q_zret {ty : FieldType} (hx : tbB M.2.1 (pc, .ireturn, len, v, tgt) = true) (hr : M.2.2.2.1 = some ty) : Gd X M h0 (rtI ty h x) h pc L [.inl x] := by
  have hd := tb_len hx rfl
  unfold rtI
  split
  · next hn =>
    intro hf res ho
    cases ho
    exact ⟨HLe.rf, fun _ l p e R s m args below meth c Q hat hrm hret H locs ls hI hl => hret H locs ls pc _ hI hd ⟨rfl, _, hr, by rw [nar_eq, hn]⟩⟩
  · exact gd_none
theorem q_aret {ty : FieldType} (hx : tbB M.2.1 (pc, .areturn, len, v, tgt) = true) (hr : M.2.2.2.1 = some ty) (hty : (∃ n, ty = .object n) ∨ ∃ t, ty = .array t) : Gd X M h0 (some (h, some (.inr (.inr r)))) h pc L [.inr (.inr r)] := by
  have hd := tb_len hx rfl
  intro hf res ho
  cases ho
  exact ⟨HLe.rf, fun _ l p e R s m args below meth c Q hat hrm hret H locs ls hI hl => hret H locs ls pc _ hI hd ⟨rfl, _, hr, hty⟩⟩
theorem q_vret (hx : tbB M.2.1 (pc, .return_, len, v, tgt) = true) (hr : M.2.2.2.1 = none) : Gd X M h0 (some (h, none)) h pc L [] := by
  have hd := tb_len hx rfl
  intro hf res ho
  cases ho
  exact ⟨HLe.rf, fun _ l p e R s m args below meth c Q hat hrm hret H locs ls hI hl => hret H locs ls pc _ hI hd ⟨rfl, hr⟩⟩
def swf (x : Int32) : List (Int32 × Rs) → Rs → Rs
  | [], d => d
  | (k, a) :: r, d => if x = k then a else swf x r d
def swG (P : Rs → Nat → Prop) : List (Int32 × Rs) → List (Int32 × Nat) → Prop
  | [], [] => True
  | (k, a) :: r, (k', t) :: r' => (k = k' ∧ P a t) ∧ swG P r r'
  | _, _ => False
def swB (pc : Nat) (dflt lo hi : Int) (offs : Array Int) (ks : List (Int32 × Nat)) (td : Nat) : Bool :=
  (ks.all (fun q => decide (lo ≤ q.1.toInt) && (decide (q.1.toInt ≤ hi) && match offs[(q.1.toInt - lo).toNat]? with
    | some off => decide ((pc : Int) + off = (q.2 : Int))
    | none => false)) && decide ((pc : Int) + dflt = (td : Int))) && (decide (hi - lo + 1 = (offs.size : Int)) && (List.range offs.size).all (fun j => decide (offs[j]? = some dflt) || ks.any (fun q => decide (q.1.toInt = lo + j))))
theorem sw_find {P : Rs → Nat → Prop} {x : Int32} {d : Rs} : ∀ {as : List (Int32 × Rs)} {ks : List (Int32 × Nat)}, swG P as ks → (∃ a t, (x, t) ∈ ks ∧ swf x as d = a ∧ P a t) ∨ ((∀ q ∈ ks, x ≠ q.1) ∧ swf x as d = d)
  | [], [], _ => Or.inr ⟨fun q hq => (by cases hq), rfl⟩
  | (k, a) :: r, (k', t) :: r', hg => by
    obtain ⟨⟨rfl, hp⟩, hg⟩ := hg
    by_cases hx : x = k
    · exact Or.inl ⟨a, t, by rw [hx]; exact List.mem_cons_self, by simp [swf, hx], hp⟩
    · rcases sw_find (x := x) (d := d) hg with ⟨a', t', h1, h2, h3⟩ | ⟨h1, h2⟩
      · exact Or.inl ⟨a', t', List.mem_cons_of_mem _ h1, by simp [swf, hx, h2], h3⟩
      · refine Or.inr ⟨fun q hq => ?_, by simp [swf, hx, h2]⟩
        rcases List.mem_cons.mp hq with rfl | hq
        · exact hx
        · exact h1 q hq
  | [], _ :: _, hg => hg.elim
  | _ :: _, [], hg => hg.elim
theorem q_sw {dflt lo hi : Int} {offs : Array Int} {as : List (Int32 × Rs)} {d : Rs} (ks : List (Int32 × Nat)) (td : Nat) (hx : tbB M.2.1 (pc, .tableswitch dflt lo hi offs, len, v, tgt) = true) (hb : swB pc dflt lo hi offs ks td = true)
    (gd : Gd X M h0 d h td L st) (ga : swG (fun a t => Gd X M h0 a h t L st) as ks) : Gd X M h0 (swf x as d) h pc L (.inl x :: st) := by
  have hd := tb_d hx
  unfold swB at hb
  rw [Bool.and_eq_true, Bool.and_eq_true, Bool.and_eq_true, decide_eq_true_eq, decide_eq_true_eq, List.all_eq_true, List.all_eq_true] at hb
  obtain ⟨⟨hks, htd⟩, hsz, hcov⟩ := hb
  rcases sw_find (x := x) (d := d) ga with ⟨a, t, h1, h2, h3⟩ | ⟨h1, h2⟩
  · rw [h2]
    have hq := hks _ h1
    rw [Bool.and_eq_true, Bool.and_eq_true, decide_eq_true_eq, decide_eq_true_eq] at hq
    obtain ⟨q1, q2, q3⟩ := hq
    split at q3
    · next off ho =>
      refine q_w h3 (fun hat _ _ hl k => ?_)
      exact lv_tableIn hat.1 hat.2.1 hd (by dsimp only at q1; omega) (by dsimp only at q2; omega) ho (by simpa using q3) (k _ hl)
    · cases q3
  · rw [h2]
    refine q_w gd (fun hat _ _ hl k => ?_)
    by_cases hout : x.toInt < lo ∨ hi < x.toInt
    · exact lv_tableOut hat.1 hat.2.1 hd hout htd (k _ hl)
    · have g1 : ¬ x.toInt < lo := fun q => hout (Or.inl q)
      have g2 : ¬ hi < x.toInt := fun q => hout (Or.inr q)
      have hj : (x.toInt - lo).toNat < offs.size := by omega
      have hc := hcov _ (List.mem_range.mpr hj)
      rw [Bool.or_eq_true, decide_eq_true_eq, List.any_eq_true] at hc
      rcases hc with hc | ⟨q, hq, hqe⟩
      · exact lv_tableIn hat.1 hat.2.1 hd g1 g2 hc htd (k _ hl)
      · rw [decide_eq_true_eq] at hqe
        exact absurd (Int32.toInt_inj.mp (by omega)) (h1 q hq)
end RET
/-! calls -/
theorem Env.calling {X : Cx} {U : State} {g : JFrame} {mk : MethodId} {a : Array Value} (h : Env X U) : Env X (U.calling g mk a) := by
  obtain ⟨h1, ⟨a1, a2, a3⟩, ⟨b1, b2⟩, ⟨c1, c2⟩, ⟨z1, z2, z3, z4, z5⟩, ⟨⟨q1, e1, k1⟩, ⟨q2, e2, k2⟩, ⟨q3, e3, k3⟩, ⟨q4, e4, k4⟩⟩, cc⟩ := h
  have hm : U.vm.Alike (U.calling g mk a).vm := Vm.Alike.refl U.vm
  have hv : U.vm = (U.calling g mk a).vm := rfl
  exact ⟨va_K.moved (U := U.calling g mk a) hm h1, ⟨va_AO.moved (U := U.calling g mk a) hm a1, va_AO.moved (U := U.calling g mk a) hm a2, va_AO.moved (U := U.calling g mk a) hm a3⟩, ⟨va_Nw.same rfl hv b1, va_Nw.same rfl hv b2⟩, ⟨va_Nw.same rfl hv c1, va_Nw.same rfl hv c2⟩,
    ⟨va_Z.moved (U := U.calling g mk a) hm z1, va_Z.moved (U := U.calling g mk a) hm z2, va_Z.moved (U := U.calling g mk a) hm z3, va_Z.moved (U := U.calling g mk a) hm z4, va_Z.moved (U := U.calling g mk a) hm z5⟩,
    ⟨⟨q1, e1, vk_R.same hv.symm k1⟩, ⟨q2, e2, vk_R.same hv.symm k2⟩, ⟨q3, e3, vk_R.same hv.symm k3⟩, ⟨q4, e4, vk_R.same hv.symm k4⟩⟩, va_Nw.same rfl hv cc⟩
theorem PcM.blind {X : Cx} {h : Hp} {as : List AV} : FrameBlind (PcM X h as) := by
  intro a U g mk hp
  obtain ⟨h1, h2, h3, h4⟩ := hp
  exact ⟨h1, RepH.to (s := U) (U := U.calling g mk a) (Vm.Alike.refl U.vm) FrN.rf h2, h3.calling, h4⟩
theorem PcM.at {X : Cx} {h : Hp} {as : List AV} {s : State} {H : Heap} {locs : List Loc} (hE : Env X s) (hN : X.2.2.1 ≤ s.heap.size) (hI : Inv X s h H locs) : ∀ U : State, U.heap = H → s.WarmedH U.vm → PcM X h as (as.map tV).toArray U := by
  intro U hU hW
  have hf : FrN X.2.2.1 s.heap U.heap := by rw [hU]; exact hI.2.1
  exact ⟨rfl, by rw [hU]; exact RepH.to hW.alike hf hI.1, Env.to hW hf hE, by rw [hU]; exact Nat.le_trans hN hI.2.2.1⟩
theorem exW_good : ∀ w ∈ exW, goodWord w = true := by decide +kernel
theorem good_all {w : Cond} (h : w ∈ goodTbl) : goodWord w = true := (List.mem_append.mp h).elim (exW_good w) (fun h => (List.mem_filter.mp h).2)
theorem good_in {ws : List Cond} (h : ∀ w ∈ ws, w ∈ goodTbl) : GoodIn goodTbl ws := fun w hw => ⟨h w hw, good_of_word (good_all (h w hw))⟩
/-- what any call asks of its callee -/
def Ce (M : MI) (n : Nat) : Prop := Cond.initialized M.1.cls ∈ goodTbl ∧ Cond.code M.1 M.2.1 M.2.2.1 M.2.2.2.1 ∈ goodTbl ∧ M.1.cls ≠ "java/lang/invoke/MethodHandle" ∧ M.1.cls ≠ "java/lang/invoke/VarHandle" ∧ (parseMethodDescriptor M.1.desc).map (fun d => d.parameters.length) = some n
theorem Ce.ws {M : MI} {n : Nat} (h : Ce M n) : ∀ w ∈ wsM M, w ∈ goodTbl := by
  intro w hw
  rcases List.mem_cons.mp hw with rfl | hw
  · exact h.2.1
  · exact hw
def dpB (M M' : MI) : Bool := Nat.blt M'.2.2.2.2 M.2.2.2.2 && Nat.ble (8 + (M'.2.2.1 + 11) + 40 * M'.2.2.2.2) (40 * M.2.2.2.2)
theorem dp_ok {M M' : MI} (h : dpB M M' = true) : M'.2.2.2.2 + 1 ≤ M.2.2.2.2 ∧ 8 + (M'.2.2.1 + 11) + 40 * M'.2.2.2.2 ≤ 40 * M.2.2.2.2 := by
  unfold dpB at h
  rw [Bool.and_eq_true] at h
  exact ⟨Nat.le_of_ble_eq_true h.1, Nat.le_of_ble_eq_true h.2⟩
section CALL
variable {X : Cx} {M M' : MI} {h0 h : Hp} {o o' : Rs} {L : List (Option AV)} {st as : List AV} {pc len tgt idx ci : Nat} {v x : Int32} {r : Option Nat} {k : Hp → Option AV → Rs}
theorem run_W {h' : Hp} {r' : Option AV} {p : Program} {l : Launch} {e : Jvm.Env} {R : Room} {s : State} {m : MethodId} {args : Array Value} {below : List Frame} {meth : Method} {c : Code} {H : Heap} {locs : List Loc} {cells slots mc ms : Nat} {Q : State → Prop} {ls : Array Slot} {st0 rest : List Value} {a : Array Value}
    (hr : va_Run p l e R s m args below meth c H locs cells slots mc ms (F0 m pc ls st0) rest (QcM X h' r' a) (fun q => X.2.2.1 ≤ q)) (hI : Inv X s h H locs)
    (kk : ∀ H1 locs1, Inv X s h' H1 locs1 → W p l e R s m args below meth c H1 locs1 (cells + mc) (slots + ms) Q (F0 m (pc + 3) ls ((r'.map tV).toList ++ rest))) : W p l e R s m args below meth c H locs cells slots Q (F0 m pc ls st0) := by
  intro T hT X0
  obtain ⟨v, st₀, t, T', LL, e0, X', hL, e1, e2, ⟨hv, hrep, hfr, hsz⟩, st⟩ := hr T hT X0
  cases hv
  have hal : s.vm.Alike t.vm := by rw [← e2]; exact X'.warmed.alike
  have hfr1 : FrN X.2.2.1 s.heap t.heap := by rw [e0] at hfr; exact hI.2.1.trans hfr
  obtain ⟨t2, a1, b1⟩ := kk T'.heap (locs ++ LL) ⟨by rw [e1]; exact RepH.to hal.symm hfr1.symm hrep, by rw [e1]; exact hfr1, by rw [e1]; rw [e0] at hsz; exact Nat.le_trans hI.2.2.1 hsz, fun q hq => by
    rcases List.mem_append.mp hq with h | h
    · exact hI.2.2.2 q h
    · exact hL q h⟩ T' rfl X'
  exact ⟨t2, st t2 a1, b1⟩
theorem q_call {st0 : List AV} (so : SO X M' as h o') (g : ∀ h' r', Gd X M h0 (k h' r') h' (pc + 3) L (r'.toList ++ st))
    (w : ∀ {p : Program} {l : Launch} {e : Jvm.Env} {R : Room} {s : State} {m : MethodId} {args : Array Value} {below : List Frame} {meth : Method} {c : Code} {H : Heap} {locs : List Loc} {cells slots : Nat} {ls : Array Slot} {h' : Hp} {r' : Option AV}, At0 M X p s m args meth c → Inv X s h H locs → LV ls M.2.2.1 L → M.2.2.2.2 ≤ R.frames → 40 * M.2.2.2.2 ≤ R.locals → Met l M'.1 (wsM M') (rmM M' h h') (PcM X h as) (QcM X h' r') (h'.2.1 - h.2.1) (h'.2.2 - h.2.2) (fun q => X.2.2.1 ≤ q) →
      cells + (h'.2.1 - h.2.1) ≤ R.cells ∧ slots + (h'.2.2 - h.2.2) ≤ R.slots → va_Run p l e R s m args below meth c H locs cells slots (h'.2.1 - h.2.1) (h'.2.2 - h.2.2) (F0 m pc ls (st0.map tV)) (st.map tV) (QcM X h' r' (as.map tV).toArray) (fun q => X.2.2.1 ≤ q)) : Gd X M h0 (cc o' k) h pc L st0 := by
  unfold cc
  split
  · next h' r' =>
    obtain ⟨hle', hM⟩ := so h' r' rfl
    intro hf res ho
    obtain ⟨hle, g⟩ := g h' r' hf res ho
    refine ⟨hle'.trans hle, fun h0h l p e R s m args below meth c Q hat hrm hret H locs ls hI hl => ?_⟩
    have c1 := hle'.1
    have c2 := hle'.2
    have c3 := hle.1
    have c4 := hle.2
    have c5 := h0h.1
    have c6 := h0h.2
    have r1 := hrm.2.2.1
    have r2 := hrm.2.2.2
    refine run_W (w hat hI hl hrm.1 hrm.2.1 (hM l) ⟨by omega, by omega⟩) hI (fun H1 locs1 hI1 => ?_)
    have := g (h0h.trans hle') l p e R s m args below meth c Q hat hrm hret H1 locs1 ls hI1 hl
    rw [show h'.2.1 - h0.2.1 = h.2.1 - h0.2.1 + (h'.2.1 - h.2.1) by omega, show h'.2.2 - h0.2.2 = h.2.2 - h0.2.2 + (h'.2.2 - h.2.2) by omega, List.map_append] at this
    cases r' with
    | none => exact this
    | some z => exact this
  · exact gd_none
theorem kI_gd {f : Hp → Int32 → Rs} {pc' : Nat} (g : ∀ h' x, Gd X M h0 (f h' x) h' pc' L (.inl x :: st)) : ∀ h' r', Gd X M h0 (kI f h' r') h' pc' L (r'.toList ++ st) := by
  intro h' r'
  obtain _ | x | y | q := r'
  · exact gd_none
  · exact g h' x
  · exact gd_none
  · exact gd_none
theorem kR_gd {f : Hp → Option Nat → Rs} {pc' : Nat} (g : ∀ h' x, Gd X M h0 (f h' x) h' pc' L (.inr (.inr x) :: st)) : ∀ h' r', Gd X M h0 (kR f h' r') h' pc' L (r'.toList ++ st) := by
  intro h' r'
  obtain _ | x | y | q := r'
  · exact gd_none
  · exact gd_none
  · exact gd_none
  · exact g h' q
theorem kV_gd {f : Hp → Rs} {pc' : Nat} (g : ∀ h', Gd X M h0 (f h') h' pc' L st) : ∀ h' r', Gd X M h0 (kV f h' r') h' pc' L (r'.toList ++ st) := by
  intro h' r'
  obtain _ | x := r'
  · exact g h'
  · exact gd_none
theorem At0.fix {p : Program} {s : State} {m : MethodId} {args : Array Value} {meth : Method} {c : Code} (h : At0 M X p s m args meth c) : CallFix p m c M.2.1 M.2.2.1 s args goodTbl M.1.cls := ⟨h.1, h.2.1, h.2.2.1, h.2.2.2.1, h.2.2.2.2.2.1⟩
theorem recv_ok {p : Program} {s : State} {m : MethodId} {args : Array Value} {meth : Method} {c : Code} {H : Heap} {locs : List Loc} {a0 c0 : Nat} {fs : List AV} {C : String} {T : u_T} {N : Nat} (hat : At0 M X p s m args meth c) (hI : Inv X s h H locs) (hc : vwCl[ci]? = some (C, T, N)) (hcell : h.1 a0 = some (.inr (c0, fs))) (htg : tgo c0 ci = true) :
    ∃ cell : Cell, H[a0]? = some cell ∧ cell.vm.isStatics = false ∧ s.vm.findClass C = some cell.cls := by
  obtain ⟨ws, hP, hD, hz, hN, hr⟩ := hI.1
  rcases tgo_cases htg with ⟨rfl, h9⟩ | ⟨rfl, rfl⟩
  · rcases hr a0 _ hcell with ⟨-, i, hi⟩ | ⟨h10, -⟩
    · exact va_recv hat.2.2.2.2.2.2.1.1 hP hc hi
    · omega
  · rcases hr a0 _ hcell with ⟨h9, -⟩ | ⟨-, q, -, h1, -⟩
    · omega
    · have hc' : (RJ0, TJ0, 4) = (C, T, N) := Option.some.inj hc
      cases hc'
      obtain ⟨cell, g1, g2, g3, -⟩ := h1.kept hI.S.2.1
      exact ⟨cell, g1, g2, g3⟩
theorem st_as (as st : List AV) (r : Option Nat) : (as.reverse ++ .inr (.inr r) :: st).map tV = (as.map tV).reverse ++ va_rf r :: st.map tV := by
  rw [List.map_append, List.map_reverse]
  rfl
theorem st_as0 (as st : List AV) : (as.reverse ++ st).map tV = (as.map tV).reverse ++ st.map tV := by
  rw [List.map_append, List.map_reverse]
/-- a method of the receiver's own kind -/
theorem q_cv {n : Nat} (T : u_T) (N : Nat) (so : SO X M' (.inr (.inr r) :: as) h o') (hx : tbB M.2.1 (pc, .invokevirtual idx, len, v, tgt) = true) (hdp : dpB M M' = true) (hc : vwCl[ci]? = some (M'.1.cls, T, N)) (hce : Ce M' n) (hin : Cond.instanceMethod M'.1 ∈ goodTbl) (hse : Cond.selects M'.1.cls M'.1 M'.1 ∈ goodTbl)
    (hln : Cond.methodLink M.1.cls idx M'.1 ∈ goodTbl) (hn : as.length = n) (hs : (st.map catA).sum ≤ 8) (g : ∀ h' r', Gd X M h0 (k h' r') h' (pc + 3) L (r'.toList ++ st)) : Gd X M h0 (ck h r ci (cc o' k)) h pc L (as.reverse ++ .inr (.inr r) :: st) := by
  have hd := tb_len hx rfl
  obtain ⟨d1, d2⟩ := dp_ok hdp
  unfold ck
  split
  · next z e =>
    obtain ⟨a0, c0, fs⟩ := z
    obtain ⟨rfl, hcell, htg⟩ := ob_some e
    refine q_call so g (fun {p l e R s m args below meth c H locs cells slots ls h' r'} hat hI hl hf hlo hM hroom => ?_)
    rw [st_as]
    refine va_runV (b := a0) (As := as.map tV) (C := M'.1.cls) hat.fix hM (cwV n hat.2.2.2.2.2.1 ?_ rfl rfl rfl ⟨rfl, hce.2.2⟩ ⟨Nat.le_trans d1 hf, Nat.le_trans d2 hlo⟩) ⟨PcM.blind, recv_ok hat hI hc hcell htg, PcM.at hat.2.2.2.2.2.2.1 hat.2.2.2.2.2.2.2 hI⟩ rfl (by rw [List.length_map]; exact hn) hl.1 rfl (lv_room (by rw [cat_sum]; exact hs)) hd hroom
    refine good_in (fun w hw => ?_)
    unfold wsV at hw
    rcases List.mem_append.mp hw with hw | hw
    · simp only [List.mem_cons, List.not_mem_nil, or_false] at hw
      rcases hw with rfl | rfl | rfl | rfl
      · exact hln
      · exact hin
      · exact hse
      · exact hce.1
    · exact hce.ws w hw
  · exact gd_none
/-- a method that the receiver's class has from above -/
theorem q_cu {n : Nat} (C : String) (T : u_T) (N : Nat) (so : SO X M' (.inr (.inr r) :: as) h o') (hx : tbB M.2.1 (pc, .invokevirtual idx, len, v, tgt) = true) (hdp : dpB M M' = true) (hc : vwCl[ci]? = some (C, T, N)) (hce : Ce M' n) (hin : Cond.instanceMethod M'.1 ∈ goodTbl) (hse : Cond.selects C M'.1 M'.1 ∈ goodTbl) (hsm : Cond.sameMethod M'.1.cls M'.1.cls M'.1.name M'.1.desc ∈ goodTbl)
    (hln : Cond.methodLink M.1.cls idx M'.1 ∈ goodTbl) (hn : as.length = n) (hs : (st.map catA).sum ≤ 8) (g : ∀ h' r', Gd X M h0 (k h' r') h' (pc + 3) L (r'.toList ++ st)) : Gd X M h0 (ck h r ci (cc o' k)) h pc L (as.reverse ++ .inr (.inr r) :: st) := by
  have hd := tb_len hx rfl
  obtain ⟨d1, d2⟩ := dp_ok hdp
  unfold ck
  split
  · next z e =>
    obtain ⟨a0, c0, fs⟩ := z
    obtain ⟨rfl, hcell, htg⟩ := ob_some e
    refine q_call so g (fun {p l e R s m args below meth c H locs cells slots ls h' r'} hat hI hl hf hlo hM hroom => ?_)
    rw [st_as]
    refine va_runU (b := a0) (As := as.map tV) (C := C) hat.fix hM (va_cwU (owner := M'.1.cls) (x := M'.1) n hat.2.2.2.2.2.1 ?_ rfl rfl rfl rfl hce.2.2 ⟨Nat.le_trans d1 hf, Nat.le_trans d2 hlo⟩) ⟨PcM.blind, recv_ok hat hI hc hcell htg, PcM.at hat.2.2.2.2.2.2.1 hat.2.2.2.2.2.2.2 hI⟩ rfl (by rw [List.length_map]; exact hn) hl.1 rfl (lv_room (by rw [cat_sum]; exact hs)) hd hroom
    refine good_in (fun w hw => ?_)
    unfold va_wsU at hw
    rcases List.mem_append.mp hw with hw | hw
    · simp only [List.mem_cons, List.not_mem_nil, or_false] at hw
      rcases hw with rfl | rfl | rfl | rfl | rfl
      · exact hln
      · exact hsm
      · exact hse
      · exact hin
      · exact hce.1
    · exact hce.ws w hw
  · exact gd_none
/-- the class's own method in the place of the one that is named -/
theorem q_co {n : Nat} (z : MethodName) (T : u_T) (N : Nat) {b0 : ByteArray} {m0 : Nat} {r0 : Option FieldType} (so : SO X M' (.inr (.inr r) :: as) h o') (hx : tbB M.2.1 (pc, .invokevirtual idx, len, v, tgt) = true) (hdp : dpB M M' = true) (hc : vwCl[ci]? = some (M'.1.cls, T, N)) (hce : Ce M' n) (hin : Cond.instanceMethod M'.1 ∈ goodTbl) (hse : Cond.selects M'.1.cls z M'.1 ∈ goodTbl) (hsm : Cond.sameMethod z.cls z.cls z.name z.desc ∈ goodTbl)
    (hin0 : Cond.instanceMethod z ∈ goodTbl) (hco0 : Cond.code z b0 m0 r0 ∈ goodTbl) (hz : z.cls ≠ "java/lang/invoke/MethodHandle" ∧ z.cls ≠ "java/lang/invoke/VarHandle" ∧ (parseMethodDescriptor z.desc).map (fun d => d.parameters.length) = some n)
    (hln : Cond.methodLink M.1.cls idx z ∈ goodTbl) (hn : as.length = n) (hs : (st.map catA).sum ≤ 8) (g : ∀ h' r', Gd X M h0 (k h' r') h' (pc + 3) L (r'.toList ++ st)) : Gd X M h0 (ck h r ci (cc o' k)) h pc L (as.reverse ++ .inr (.inr r) :: st) := by
  have hd := tb_len hx rfl
  obtain ⟨d1, d2⟩ := dp_ok hdp
  unfold ck
  split
  · next zz e =>
    obtain ⟨a0, c0, fs⟩ := zz
    obtain ⟨rfl, hcell, htg⟩ := ob_some e
    refine q_call so g (fun {p l e R s m args below meth c H locs cells slots ls h' r'} hat hI hl hf hlo hM hroom => ?_)
    rw [st_as]
    refine va_runU (b := a0) (As := as.map tV) (C := M'.1.cls) hat.fix hM (va_cwO (owner := z.cls) (x := z) n hat.2.2.2.2.2.1 ?_ rfl rfl rfl hco0 hz ⟨Nat.le_trans d1 hf, Nat.le_trans d2 hlo⟩) ⟨PcM.blind, recv_ok hat hI hc hcell htg, PcM.at hat.2.2.2.2.2.2.1 hat.2.2.2.2.2.2.2 hI⟩ rfl (by rw [List.length_map]; exact hn) hl.1 rfl (lv_room (by rw [cat_sum]; exact hs)) hd hroom
    refine good_in (fun w hw => ?_)
    unfold va_wsO at hw
    rcases List.mem_append.mp hw with hw | hw
    · simp only [List.mem_cons, List.not_mem_nil, or_false] at hw
      rcases hw with rfl | rfl | rfl | rfl | rfl | rfl
      · exact hln
      · exact hsm
      · exact hin0
      · exact hse
      · exact hin
      · exact hce.1
    · exact hce.ws w hw
  · exact gd_none
/-- super.m(..) -/
theorem q_csu {n : Nat} (C : String) (T : u_T) (N : Nat) (so : SO X M' (.inr (.inr r) :: as) h o') (hx : tbB M.2.1 (pc, .invokespecial idx, len, v, tgt) = true) (hdp : dpB M M' = true) (hc : vwCl[ci]? = some (C, T, N)) (hce : Ce M' n) (hin : Cond.instanceMethod M'.1 ∈ goodTbl) (hsc : Cond.superclass M.1.cls M'.1.cls ∈ goodTbl) (hsm : Cond.sameMethod M'.1.cls M'.1.cls M'.1.name M'.1.desc ∈ goodTbl) (hni : M'.1.name ≠ "<init>")
    (hln : Cond.methodLink M.1.cls idx M'.1 ∈ goodTbl) (hn : as.length = n) (hs : (st.map catA).sum ≤ 8) (g : ∀ h' r', Gd X M h0 (k h' r') h' (pc + 3) L (r'.toList ++ st)) : Gd X M h0 (ck h r ci (cc o' k)) h pc L (as.reverse ++ .inr (.inr r) :: st) := by
  have hd := tb_len hx rfl
  obtain ⟨d1, d2⟩ := dp_ok hdp
  unfold ck
  split
  · next z e =>
    obtain ⟨a0, c0, fs⟩ := z
    obtain ⟨rfl, hcell, htg⟩ := ob_some e
    refine q_call so g (fun {p l e R s m args below meth c H locs cells slots ls h' r'} hat hI hl hf hlo hM hroom => ?_)
    rw [st_as]
    refine va_runSU (b := a0) (As := as.map tV) (C := C) (hat.2.2.2.2.2.2.1.1.1 ci _ hc).2 hat.fix hM (va_cwSU n hat.2.2.2.2.2.1 ?_ rfl rfl rfl ⟨hni, hce.2.2.2.2⟩ ⟨Nat.le_trans d1 hf, Nat.le_trans d2 hlo⟩) ⟨PcM.blind, recv_ok hat hI hc hcell htg, PcM.at hat.2.2.2.2.2.2.1 hat.2.2.2.2.2.2.2 hI⟩ rfl (by rw [List.length_map]; exact hn) hl.1 rfl (lv_room (by rw [cat_sum]; exact hs)) hd hroom
    refine good_in (fun w hw => ?_)
    unfold va_wsSU at hw
    rcases List.mem_append.mp hw with hw | hw
    · simp only [List.mem_cons, List.not_mem_nil, or_false] at hw
      rcases hw with rfl | rfl | rfl | rfl | rfl
      · exact hln
      · exact hsm
      · exact hsc
      · exact hin
      · exact hce.1
    · exact hce.ws w hw
  · exact gd_none
/-- a static method -/
theorem q_cs {n : Nat} (so : SO X M' as h o') (hx : tbB M.2.1 (pc, .invokestatic idx, len, v, tgt) = true) (hdp : dpB M M' = true) (hce : Ce M' n) (hst : Cond.static M'.1 ∈ goodTbl)
    (hln : Cond.methodLink M.1.cls idx M'.1 ∈ goodTbl) (hn : as.length = n) (hs : (st.map catA).sum ≤ 8) (g : ∀ h' r', Gd X M h0 (k h' r') h' (pc + 3) L (r'.toList ++ st)) : Gd X M h0 (cc o' k) h pc L (as.reverse ++ st) := by
  have hd := tb_len hx rfl
  obtain ⟨d1, d2⟩ := dp_ok hdp
  refine q_call so g (fun {p l e R s m args below meth c H locs cells slots ls h' r'} hat hI hl hf hlo hM hroom => ?_)
  rw [st_as0]
  refine va_runS (As := as.map tV) hat.fix hM (va_cwS n hat.2.2.2.2.2.1 ?_ rfl rfl rfl hce.2.2 ⟨Nat.le_trans d1 hf, Nat.le_trans d2 hlo⟩) ⟨PcM.blind, PcM.at hat.2.2.2.2.2.2.1 hat.2.2.2.2.2.2.2 hI⟩ rfl (by rw [List.length_map]; exact hn) hl.1 rfl (lv_room (by rw [cat_sum]; exact hs)) hd hroom
  refine good_in (fun w hw => ?_)
  unfold va_wsS at hw
  rcases List.mem_append.mp hw with hw | hw
  · simp only [List.mem_cons, List.not_mem_nil, or_false] at hw
    rcases hw with rfl | rfl | rfl
    · exact hln
    · exact hst
    · exact hce.1
  · exact hce.ws w hw
/-- a constructor -/
theorem q_ci {n : Nat} (so : SO X M' (.inr (.inr r) :: as) h o') (hx : tbB M.2.1 (pc, .invokespecial idx, len, v, tgt) = true) (hdp : dpB M M' = true) (hce : Ce M' n) (hin : Cond.instanceMethod M'.1 ∈ goodTbl) (hni : M'.1.name = "<init>") (hrt : M'.2.2.2.1 = none)
    (hln : Cond.methodLink M.1.cls idx M'.1 ∈ goodTbl) (hn : as.length = n) (hs : (st.map catA).sum ≤ 8) (g : ∀ h' r', Gd X M h0 (k h' r') h' (pc + 3) L (r'.toList ++ st)) : Gd X M h0 (dn r (cc o' k)) h pc L (as.reverse ++ .inr (.inr r) :: st) := by
  have hd := tb_len hx rfl
  obtain ⟨d1, d2⟩ := dp_ok hdp
  cases r with
  | none => exact gd_none
  | some a0 =>
    refine q_call so g (fun {p l e R s m args below meth c H locs cells slots ls h' r'} hat hI hl hf hlo hM hroom => ?_)
    have hts := hat.2.2.2.2.2.1
    rw [st_as]
    have hw0 : wsM M' = Cond.code M'.1 M'.2.1 M'.2.2.1 none :: goodTbl := by unfold wsM; rw [hrt]
    exact va_runI (b := a0) (As := as.map tV) hat.fix hM (cwI n hts (good_in hce.ws) hw0 rfl rfl (hts _ hce.1) (hts _ hln) (hts _ hin) hni hce.2.2 ⟨Nat.le_trans d1 hf, Nat.le_trans d2 hlo⟩) ⟨PcM.blind, PcM.at hat.2.2.2.2.2.2.1 hat.2.2.2.2.2.2.2 hI⟩ rfl (by rw [List.length_map]; exact hn) hl.1 rfl (lv_room (by rw [cat_sum]; exact hs)) hd hroom
theorem q_cin {n : Nat} (host : String) (so : SO X M' (.inr (.inr r) :: as) h o') (hx : tbB M.2.1 (pc, .invokespecial idx, len, v, tgt) = true) (hdp : dpB M M' = true) (hce : Ce M' n) (hin : Cond.instanceMethod M'.1 ∈ goodTbl) (hni : M'.1.name = "<init>") (hrt : M'.2.2.2.1 = none)
    (hln : ∀ s, Env X s → va_Nw (.methodLinkNest M.1.cls idx M'.1 host) s) (hn : as.length = n) (hs : (st.map catA).sum ≤ 8) (g : ∀ h' r', Gd X M h0 (k h' r') h' (pc + 3) L (r'.toList ++ st)) : Gd X M h0 (dn r (cc o' k)) h pc L (as.reverse ++ .inr (.inr r) :: st) := by
  have hd := tb_len hx rfl
  obtain ⟨d1, d2⟩ := dp_ok hdp
  cases r with
  | none => exact gd_none
  | some a0 =>
    refine q_call so g (fun {p l e R s m args below meth c H locs cells slots ls h' r'} hat hI hl hf hlo hM hroom => ?_)
    have hts := hat.2.2.2.2.2.1
    rw [st_as]
    have hw0 : wsM M' = Cond.code M'.1 M'.2.1 M'.2.2.1 none :: goodTbl := by unfold wsM; rw [hrt]
    exact va_runIN (b := a0) (As := as.map tV) hat.fix hM ⟨va_cnB n hts (good_in hce.ws) hw0 rfl rfl (hln s hat.2.2.2.2.2.2.1) (hts _ hce.1) hce.2.2 ⟨Nat.le_trans d1 hf, Nat.le_trans d2 hlo⟩, hni, hts _ hin⟩ ⟨PcM.blind, PcM.at hat.2.2.2.2.2.2.1 hat.2.2.2.2.2.2.2 hI⟩ rfl (by rw [List.length_map]; exact hn) hl.1 rfl (lv_room (by rw [cat_sum]; exact hs)) hd hroom
end CALL
end
section
/-! COPIES OF BYTE ARRAYS -/
def okB (n : Nat) (g : Nat → Int32) : Bool := (List.range n).all (fun j => byI (g j) == g j)
theorem okB_fit {n : Nat} {g : Nat → Int32} (h : okB n g = true) {j : Nat} (hj : j < n) : fits .byte (.int (g j)) = true := by
  unfold okB at h
  rw [List.all_eq_true] at h
  have e : byI (g j) = g j := by simpa using h j (List.mem_range.mpr hj)
  rw [← e]
  exact pk_fb (g j)
def cpC (n0 n1 : Nat) (g : Nat → Int32) (sp dp n : Int32) : Bool := (!(decide (sp < 0)) && (!(decide (dp < 0)) && !(decide (n < 0)))) && ((Nat.ble (sp.toNatClampNeg + n.toNatClampNeg) n0 && Nat.ble (dp.toNatClampNeg + n.toNatClampNeg) n1) && okB n0 g)
def cpyB (h : Hp) (rs : Option Nat) (sp : Int32) (rd : Option Nat) (dp n : Int32) (f : Hp → Rs) : Rs := match ar h rs, ar h rd with
  | some (_, k0, (n0, .inl g0)), some (b, k1, (n1, .inl g1)) => if (k0 == 1 && k1 == 1) && cpC n0 n1 g0 sp dp n then f (upH h b (.inl (1, n1, .inl (va_cpy g0 g1 sp.toNatClampNeg dp.toNatClampNeg n.toNatClampNeg)))) else none
  | _, _ => none
def clnB (h : Hp) (r : Option Nat) (f : Hp → Option Nat → Rs) : Rs := match ar h r with
  | some (_, k, (n, .inl g)) => if k == 1 && okB n g then f (pushH h (.inl (1, n, .inl g)) n) (some h.2.1) else none
  | _ => none
def ckB (h : Hp) (r : Option Nat) (o : Rs) : Rs := match ar h r with
  | some (_, k, _) => if k == 1 then o else none
  | none => none
section COPY
variable {X : Cx} {M : MI} {h0 h : Hp} {o : Rs} {L : List (Option AV)} {st : List AV} {pc len tgt idx : Nat} {v sp dp n : Int32} {rs rd : Option Nat} {fh : Hp → Rs} {f : Hp → Option Nat → Rs}
theorem nn_toInt {z : Int32} (hz : ¬ z < 0) : z.toInt = (z.toNatClampNeg : Int) := by
  have hz0 : (0 : Int) ≤ z.toInt := by
    have := Int32.not_lt.mp hz
    simpa using Int32.le_iff_toInt_le.mp this
  show z.toInt = ((z.toInt.toNat : Nat) : Int)
  omega
theorem q_cpy (hx : tbB M.2.1 (pc, .invokestatic idx, len, v, tgt) = true) (hd0 : 1 ≤ M.2.2.2.2) (hs : (st.map catA).sum ≤ 8) (hw : Cond.methodLink M.1.cls idx arraycopyName ∈ goodTbl ∧ Cond.native arraycopyName ∈ goodTbl ∧ Cond.static arraycopyName ∈ goodTbl ∧ Cond.initialized "java/lang/System" ∈ goodTbl)
    (g : ∀ h1, Gd X M h0 (fh h1) h1 (pc + 3) L st) : Gd X M h0 (cpyB h rs sp rd dp n fh) h pc L (.inl n :: .inl dp :: .inr (.inr rd) :: .inl sp :: .inr (.inr rs) :: st) := by
  have hd := tb_len hx rfl
  unfold cpyB
  split
  · next a0 k0 n0 g0 b k1 n1 g1 e0 e1 =>
    split
    · next hc =>
      rw [Bool.and_eq_true, Bool.and_eq_true] at hc
      obtain ⟨⟨hk0, hk1⟩, hc⟩ := hc
      have hk0 : k0 = 1 := by simpa using hk0
      have hk1 : k1 = 1 := by simpa using hk1
      subst hk0
      subst hk1
      obtain ⟨rfl, hcell0⟩ := ar_some e0
      obtain ⟨rfl, hcell1⟩ := ar_some e1
      unfold cpC at hc
      rw [Bool.and_eq_true, Bool.and_eq_true, Bool.and_eq_true, Bool.and_eq_true, Bool.and_eq_true] at hc
      obtain ⟨⟨s1, s2, s3⟩, ⟨s4, s5⟩, s6⟩ := hc
      have c1 : ¬ sp < 0 := by simpa using s1
      have c2 : ¬ dp < 0 := by simpa using s2
      have c3 : ¬ n < 0 := by simpa using s3
      have c4 : sp.toNatClampNeg + n.toNatClampNeg ≤ n0 := Nat.le_of_ble_eq_true s4
      have c5 : dp.toNatClampNeg + n.toNatClampNeg ≤ n1 := Nat.le_of_ble_eq_true s5
      intro hf res ho
      obtain ⟨hle, g⟩ := g _ hf res ho
      refine ⟨hle, fun h0h l p e R s m args below meth c Q hat hrm hret H locs ls hI hl => ?_⟩
      have hts := hat.2.2.2.2.2.1
      have hK : va_K X.1 vwCl (tysX X) s := hat.2.2.2.2.2.2.1.1
      obtain ⟨ws, hP, hD, hz, hN, hr⟩ := hI.1
      have r0 : ∃ i : Nat, ws[i]? = some (a0, .inl (X.2.1 1, n0, .inl g0)) := by
        rcases hr a0 _ hcell0 with ⟨-, h⟩ | ⟨h, -⟩ | ⟨h, -⟩
        · exact h
        · omega
        · omega
      have r1 : ∃ i : Nat, ws[i]? = some (b, .inl (X.2.1 1, n1, .inl g1)) := by
        rcases hr b _ hcell1 with ⟨-, h⟩ | ⟨h, -⟩ | ⟨h, -⟩
        · exact h
        · omega
        · omega
      obtain ⟨i0, ha0⟩ := r0
      obtain ⟨i1, ha1⟩ := r1
      have hc0 : H[a0]? = some (vp_cell (X.2.1 1) (n0, .inl g0)) := hP i0 _ ha0
      have hc1 : H[b]? = some (vp_cell (X.2.1 1) (n1, .inl g1)) := hP i1 _ ha1
      obtain ⟨-, kk0, hkk0, cm0, hkind0⟩ := (hK.2 1 _ rfl).1 n0 (fun j => .int (g0 j))
      intro T hT Xs
      have hT0 : T.heap[a0]? = some (vp_cell (X.2.1 1) (n0, .inl g0)) := by rw [hT]; exact hc0
      have hT1 : T.heap[b]? = some (vp_cell (X.2.1 1) (n1, .inl g1)) := by rw [hT]; exact hc1
      obtain ⟨vm', X', step⟩ := Xs.arraycopy hat.1 hat.2.2.2.1 (hts _ hw.1) (hts _ hw.2.1) (hts _ hw.2.2.1) (hts _ hw.2.2.2) (src := a0) (dst := b) (cs := vp_cell (X.2.1 1) (n0, .inl g0)) (cd := vp_cell (X.2.1 1) (n1, .inl g1)) (srcPos := sp) (destPos := dp) (n := n) hT0 hT1
        (fun _ h => by cases h) (fun _ h => by cases h) (fun h => by cases h) (fun h => by cases h) hkk0 hkk0 hkind0 hkind0 (by simp [refKind]) c1 c2 c3
        (by rw [nn_toInt c1, nn_toInt c3]; show ¬ _ > ((arrV _ n0 (fun j => .int (g0 j))).slots.size : Int); rw [arrV_size]; omega)
        (by rw [nn_toInt c2, nn_toInt c3]; show ¬ _ > ((arrV _ n1 (fun j => .int (g1 j))).slots.size : Int); rw [arrV_size]; omega)
        (fun vm₁ _ i hi => by
          have e : (vp_cell (X.2.1 1) (n0, .inl g0)).slots.getD (sp.toNatClampNeg + i) .null = .int (g0 (sp.toNatClampNeg + i)) := by
            show (arrV _ n0 (fun j => .int (g0 j))).slots.getD _ _ = _
            rw [Array.getD_eq_getD_getElem?, arrV_read _ _ (by omega)]
            rfl
          rw [e]
          exact ⟨okB_fit s6 (by omega), trivial⟩)
        (g := F0 m pc ls (.int n :: .int dp :: .ref b :: .int sp :: .ref a0 :: st.map tV)) rfl (by show ls.size = _; rw [hl.1, hat.2.2.1]) (rest := st.map tV) rfl (by rw [hat.2.1]; exact hd) (Nat.le_trans hd0 hrm.1)
        (by have h2 := hrm.2.1; show 2 * 0 + ((st.map tV).map fun v => v.category).sum + (nativeFrameWords "java/lang/System" "arraycopy" 5 + 11) ≤ _; rw [cat_sum]; have h3 : nativeFrameWords "java/lang/System" "arraycopy" 5 ≤ 20 := by decide +kernel
            omega)
      have e1 : copied (vp_cell (X.2.1 1) (n0, .inl g0)) (vp_cell (X.2.1 1) (n1, .inl g1)) sp dp n = vp_cell (X.2.1 1) (n1, .inl (va_cpy g0 g1 sp.toNatClampNeg dp.toNatClampNeg n.toNatClampNeg)) := va_copied (fun z => .int z) (X.2.1 1) (X.2.1 1) g0 g1 c4
      rw [e1] at X' step
      have hlb : b < H.size := (Array.getElem?_eq_some_iff.mp hc1).1
      generalize hH1 : H.setIfInBounds b (vp_cell (X.2.1 1) (n1, .inl (va_cpy g0 g1 sp.toNatClampNeg dp.toNatClampNeg n.toNatClampNeg))) = H1
      have hheap : ((T.setVm vm').setCell b (vp_cell (X.2.1 1) (n1, .inl (va_cpy g0 g1 sp.toNatClampNeg dp.toNatClampNeg n.toNatClampNeg)))).heap = H1 := by rw [← hH1, ← hT]; rfl
      have oq : ∀ q : Nat, q ≠ b → H1[q]? = H[q]? := fun q hq => by rw [← hH1]; simp [Array.getElem?_setIfInBounds, Ne.symm hq]
      have z1 : H1.size = H.size := by rw [← hH1]; simp
      have hcellN : H1[b]? = some (vp_cell (X.2.1 1) (n1, .inl (va_cpy g0 g1 sp.toNatClampNeg dp.toNatClampNeg n.toNatClampNeg))) := by rw [← hH1]; simp [Array.getElem?_setIfInBounds, hlb]
      have hAX : AX X b := hD.2 i1 _ ha1
      have hrep := RepH.put hP hD hz hN hr ha1 (e := .inl (1, n1, .inl (va_cpy g0 g1 sp.toNatClampNeg dp.toNatClampNeg n.toNatClampNeg))) (e1 := .inl (X.2.1 1, n1, .inl (va_cpy g0 g1 sp.toNatClampNeg dp.toNatClampNeg n.toNatClampNeg))) hcellN z1 oq (fun ws' h' => Or.inl ⟨by decide, i1, h'⟩)
      have hI0 : Inv X s (upH h b (.inl (1, n1, .inl (va_cpy g0 g1 sp.toNatClampNeg dp.toNatClampNeg n.toNatClampNeg)))) H1 (locs ++ [⟨b, 0⟩]) := hI.put hrep z1 oq hAX
      obtain ⟨t, a1, b1⟩ := g h0h l p e R s m args below meth c Q hat hrm hret H1 _ ls ⟨hI0.1, hI0.2.1, hI0.2.2.1, fun q hq => by
        rcases List.mem_append.mp hq with h | h
        · exact hI.2.2.2 q h
        · obtain ⟨z, -, hz'⟩ := List.mem_map.mp h
          rw [← hz']
          exact hAX⟩ hl _ hheap X'
      exact ⟨t, step t a1, b1⟩
    · exact gd_none
  · exact gd_none
theorem q_cln (hx : tbB M.2.1 (pc, .invokevirtual idx, len, v, tgt) = true) (hd0 : 1 ≤ M.2.2.2.2) (hs : (st.map catA).sum ≤ 8) (hw : Cond.methodLink M.1.cls idx ⟨"[B", "clone", "()Ljava/lang/Object;"⟩ ∈ goodTbl ∧ Cond.sameMethod "[B" "java/lang/Object" "clone" "()Ljava/lang/Object;" ∈ goodTbl ∧ Cond.native ⟨"java/lang/Object", "clone", "()Ljava/lang/Object;"⟩ ∈ goodTbl ∧ Cond.instanceMethod ⟨"java/lang/Object", "clone", "()Ljava/lang/Object;"⟩ ∈ goodTbl ∧ Cond.selects "[B" ⟨"[B", "clone", "()Ljava/lang/Object;"⟩ ⟨"java/lang/Object", "clone", "()Ljava/lang/Object;"⟩ ∈ goodTbl)
    (g : ∀ h1 q, Gd X M h0 (f h1 q) h1 (pc + 3) L (.inr (.inr q) :: st)) : Gd X M h0 (clnB h rs f) h pc L (.inr (.inr rs) :: st) := by
  have hd := tb_len hx rfl
  unfold clnB
  split
  · next a0 k0 n0 g0 e0 =>
    split
    · next hc =>
      rw [Bool.and_eq_true] at hc
      obtain ⟨hk0, hok⟩ := hc
      have hk0 : k0 = 1 := by simpa using hk0
      subst hk0
      obtain ⟨rfl, hcell0⟩ := ar_some e0
      intro hf res ho
      obtain ⟨hle, g⟩ := g _ _ hf res ho
      have l1 : h.2.1 + 1 ≤ hf.2.1 := hle.1
      have l2 : h.2.2 + n0 ≤ hf.2.2 := hle.2
      refine ⟨⟨by omega, by omega⟩, fun h0h l p e R s m args below meth c Q hat hrm hret H locs ls hI hl => ?_⟩
      have l3 : h0.2.1 ≤ h.2.1 := h0h.1
      have l4 : h0.2.2 ≤ h.2.2 := h0h.2
      have hts := hat.2.2.2.2.2.1
      have hK : va_K X.1 vwCl (tysX X) s := hat.2.2.2.2.2.2.1.1
      have hcst : va_Nw (.castable "[B" "java/lang/Cloneable") s := hat.2.2.2.2.2.2.1.2.2.2.2.2.2
      have hIc := hI
      obtain ⟨ws, hP, hD, hz, hN, hr⟩ := hI.1
      have r0 : ∃ i : Nat, ws[i]? = some (a0, .inl (X.2.1 1, n0, .inl g0)) := by
        rcases hr a0 _ hcell0 with ⟨-, h⟩ | ⟨h, -⟩ | ⟨h, -⟩
        · exact h
        · omega
        · omega
      obtain ⟨i0, ha0⟩ := r0
      have hnm : s.vm.findClass "[B" = some (X.2.1 1) := (hK.2 1 _ rfl).2
      obtain ⟨c0, t0', f1, f2, f3⟩ := Cond.castable_spec (va_Nw.use (A := args) rfl hcst)
      cases hnm.symm.trans f1
      have hcellH : H[a0]? = some (vp_cell (X.2.1 1) (n0, .inl g0)) := hP i0 _ ha0
      have hsz : (vp_cell (X.2.1 1) (n0, .inl g0)).slots.size = n0 := arrV_size _ _ _
      obtain ⟨-, kS, hkS, compS, hkindS⟩ := (hK.2 1 _ rfl).1 0 (fun _ => .null)
      intro T hT Xs
      have hcellT : T.heap[a0]? = some (vp_cell (X.2.1 1) (n0, .inl g0)) := by rw [hT]; exact hcellH
      obtain ⟨-, kA, hkA, comp, hkind⟩ := State.isArrayOf_alike Xs.warmed.alike ((hK.2 1 _ rfl).1 0 (fun _ => .null))
      obtain ⟨vm', X', step⟩ := Xs.cloneArray hat.1 hat.2.2.2.1 (hts _ hw.1) (hts _ hw.2.1) (hts _ hw.2.2.1) (hts _ hw.2.2.2.1) (hts _ hw.2.2.2.2) (a := a0) (cell := vp_cell (X.2.1 1) (n0, .inl g0)) hcellT (fun k h => by cases h) (fun h => by cases h) hnm f2 f3
        (fun i v hv => by
          have hk' : T.vm.classes[X.2.1 1]? = some kA := hkA
          have hvi : ∃ j : Nat, j < n0 ∧ v = .int (g0 j) := by
            have hi : i < n0 := by
              have := (Array.getElem?_eq_some_iff.mp hv).1
              rw [hsz] at this
              exact this
            have hv2 : (arrV (X.2.1 1) n0 (fun j => .int (g0 j))).slots[i]? = some v := hv
            rw [arrV_read _ _ hi] at hv2
            exact ⟨i, hi, (Option.some.inj hv2).symm⟩
          obtain ⟨j, hj, rfl⟩ := hvi
          have hfit := okB_fit hok hj
          show T.fitsSlot (X.2.1 1) .none i (.int (g0 j)) = true
          simpa [State.fitsSlot, State.slotType?, hk', hkind] using hfit)
        (g := F0 m pc ls (.ref a0 :: st.map tV)) rfl (by show ls.size = _; rw [hl.1, hat.2.2.1]) rfl (by rw [hat.2.1]; exact hd) (Nat.le_trans hd0 hrm.1) (by have h2 := hrm.2.1; show 2 * 0 + ((st.map tV).map fun v => v.category).sum + 14 ≤ _; rw [cat_sum]; omega)
        (show (h.2.1 - h0.2.1) + 1 ≤ R.cells by have h3 := hrm.2.2.1; omega) (by rw [hsz]; have h3 := hrm.2.2.2; show (h.2.2 - h0.2.2) + n0 ≤ R.slots; omega) (hloader := Vm.clonesLoader_of_array hkS hkindS)
      have hcellE : ({ cls := (vp_cell (X.2.1 1) (n0, .inl g0)).cls, slots := (vp_cell (X.2.1 1) (n0, .inl g0)).slots } : Cell) = vp_cell (X.2.1 1) (n0, .inl g0) := rfl
      rw [hcellE, hsz] at X'
      generalize hH1 : H.push (vp_cell (X.2.1 1) (n0, .inl g0)) = H1
      have z1 : H1.size = H.size + 1 := by rw [← hH1, Array.size_push]
      have e1 : H1[H.size]? = some (vp_cell (X.2.1 1) (n0, .inl g0)) := by rw [← hH1, Array.getElem?_push_size]
      have o1 : ∀ q : Nat, q < H.size → H1[q]? = H[q]? := fun q hq => by rw [← hH1, Array.getElem?_push, if_neg (Nat.ne_of_lt hq)]
      have hI1 : Inv X s (pushH h (.inl (1, n0, .inl g0)) n0) H1 locs := hIc.push (RepH.push hIc.1 (e1 := .inl (X.2.1 1, n0, .inl g0)) (e := .inl (1, n0, .inl g0)) e1 z1 o1 (fun ws' i h' => Or.inl ⟨by decide, i, h'⟩)) z1 o1
      have g2 := g ⟨by show h0.2.1 ≤ h.2.1 + 1; omega, by show h0.2.2 ≤ h.2.2 + n0; omega⟩ l p e R s m args below meth c Q hat hrm hret H1 locs ls hI1 hl
      have k1 : (pushH h (.inl (1, n0, .inl g0)) n0).2.1 - h0.2.1 = h.2.1 - h0.2.1 + 1 := by show h.2.1 + 1 - h0.2.1 = _; omega
      have k2 : (pushH h (.inl (1, n0, .inl g0)) n0).2.2 - h0.2.2 = h.2.2 - h0.2.2 + n0 := by show h.2.2 + n0 - h0.2.2 = _; omega
      rw [k1, k2] at g2
      obtain ⟨t, b1, b2⟩ := g2 ((T.setVm vm').pushCell (vp_cell (X.2.1 1) (n0, .inl g0))) (by rw [← hH1, ← hT]; rfl) X'
      refine ⟨t, step t ?_, b2⟩
      rw [hcellE, hT, hz]
      exact b1
    · exact gd_none
  · exact gd_none
theorem q_ckB (hx : tbB M.2.1 (pc, .checkcast idx, len, v, tgt) = true) (hw : Cond.classLink M.1.cls idx "[B" ∈ goodTbl) (g : Gd X M h0 o h (pc + 3) L (.inr (.inr rs) :: st)) : Gd X M h0 (ckB h rs o) h pc L (.inr (.inr rs) :: st) := by
  have hd := tb_len hx rfl
  unfold ckB
  split
  · next a0 k0 x0 e0 =>
    split
    · next hc =>
      have hk0 : k0 = 1 := by simpa using hc
      subst hk0
      obtain ⟨rfl, hcell0⟩ := ar_some e0
      refine q_w g (fun {p l e R s m args below meth c H locs cells slots Q ls} hat hI _ hl kk => ?_)
      have kk := kk ls hl
      have hK : va_K X.1 vwCl (tysX X) s := hat.2.2.2.2.2.2.1.1
      obtain ⟨ws, hP, hD, hz, hN, hr⟩ := hI.1
      rcases hr a0 _ hcell0 with ⟨-, i0, ha0⟩ | ⟨h, -⟩ | ⟨h, -⟩
      · exact va_castA hat.1 hat.2.1 hat.2.2.2.1 (hat.2.2.2.2.2.1 _ hw) hP i0 ha0 (hK.2 1 _ rfl).2 hd kk
      · omega
      · omega
    · exact gd_none
  · exact gd_none
end COPY
/-! Math -/
def mxI (x y : Int32) : Int32 := if x < y then y else x
def mnI (x y : Int32) : Int32 := if y < x then y else x
def abI (x : Int32) : Int32 := if 0 ≤ x then x else 0 - x
section MATH
variable {X : Cx} {M : MI} {h0 h : Hp} {o : Rs} {L : List (Option AV)} {st : List AV} {pc len tgt idx : Nat} {v x y : Int32}
theorem q_pc {pb : Nat} {st0 : List AV} (hd0 : 1 ≤ M.2.2.2.2) (g : Gd X M h0 o h pb L st)
    (w : ∀ {p : Program} {l : Launch} {e : Jvm.Env} {R : Room} {s : State} {m : MethodId} {args : Array Value} {below : List Frame} {meth : Method} {c : Code} {H : Heap} {locs : List Loc} {cells slots : Nat} {Q : State → Prop} {ls : Array Slot}, At0 M X p s m args meth c → c.maxLocals = ls.size → 1 ≤ R.frames → (∀ {rest : List Value}, (rest.map fun v => v.category).sum ≤ 10 → (rest.map fun v => v.category).sum + 13 ≤ R.locals) → cells ≤ R.cells → slots ≤ R.slots → W p l e R s m args below meth c H locs cells slots Q (F0 m pb ls (st.map tV)) → W p l e R s m args below meth c H locs cells slots Q (F0 m pc ls (st0.map tV))) : Gd X M h0 o h pc L st0 := by
  intro hf res ho
  obtain ⟨hle, g⟩ := g hf res ho
  have l1 := hle.1
  have l2 := hle.2
  refine ⟨hle, fun h0h l p e R s m args below meth c Q hat hrm hret H locs ls hI hl => ?_⟩
  have r1 := hrm.2.1
  have r2 := hrm.2.2.1
  have r3 := hrm.2.2.2
  exact w hat (hat.2.2.1.trans hl.1.symm) (Nat.le_trans hd0 hrm.1) (fun hq => by omega) (by omega) (by omega) (g h0h l p e R s m args below meth c Q hat hrm hret H locs ls hI hl)
theorem q_mmax (hx : tbB M.2.1 (pc, .invokestatic idx, len, v, tgt) = true) (hd0 : 1 ≤ M.2.2.2.2) (hs : (st.map catA).sum ≤ 8) (hw : Cond.methodLink M.1.cls idx Lib.Math.max.name ∈ goodTbl ∧ Cond.static Lib.Math.max.name ∈ goodTbl ∧ Cond.initialized "java/lang/Math" ∈ goodTbl ∧ Cond.code Lib.Math.max.name Lib.Math.max.code 2 (some .int) ∈ goodTbl) (g : Gd X M h0 o h (pc + 3) L (.inl (mxI x y) :: st)) : Gd X M h0 o h pc L (.inl y :: .inl x :: st) := by
  have hd := tb_len hx rfl
  refine q_pc hd0 (st := .inl (mxI x y) :: st) g (fun {p l e R s m args below meth c H locs cells slots Q ls} hat hml hf hlo hc hsl k => ?_)
  have hts := hat.2.2.2.2.2.1
  exact va_mmax hat.1 hat.2.1 hml hat.2.2.2.1 (hts _ hw.1) (hts _ hw.2.1) (hts _ hw.2.2.1) (hts _ hw.2.2.2) hf (hlo (by rw [cat_sum]; omega)) hc hsl hd k
theorem q_mmin (hx : tbB M.2.1 (pc, .invokestatic idx, len, v, tgt) = true) (hd0 : 1 ≤ M.2.2.2.2) (hs : (st.map catA).sum ≤ 8) (hw : Cond.methodLink M.1.cls idx Lib.Math.min.name ∈ goodTbl ∧ Cond.static Lib.Math.min.name ∈ goodTbl ∧ Cond.initialized "java/lang/Math" ∈ goodTbl ∧ Cond.code Lib.Math.min.name Lib.Math.min.code 2 (some .int) ∈ goodTbl) (g : Gd X M h0 o h (pc + 3) L (.inl (mnI x y) :: st)) : Gd X M h0 o h pc L (.inl y :: .inl x :: st) := by
  have hd := tb_len hx rfl
  refine q_pc hd0 (st := .inl (mnI x y) :: st) g (fun {p l e R s m args below meth c H locs cells slots Q ls} hat hml hf hlo hc hsl k => ?_)
  have hts := hat.2.2.2.2.2.1
  exact va_mmin hat.1 hat.2.1 hml hat.2.2.2.1 (hts _ hw.1) (hts _ hw.2.1) (hts _ hw.2.2.1) (hts _ hw.2.2.2) hf (hlo (by rw [cat_sum]; omega)) hc hsl hd k
theorem q_mabs (hx : tbB M.2.1 (pc, .invokestatic idx, len, v, tgt) = true) (hd0 : 1 ≤ M.2.2.2.2) (hs : (st.map catA).sum ≤ 8) (hw : Cond.methodLink M.1.cls idx Lib.Math.abs.name ∈ goodTbl ∧ Cond.static Lib.Math.abs.name ∈ goodTbl ∧ Cond.initialized "java/lang/Math" ∈ goodTbl ∧ Cond.code Lib.Math.abs.name Lib.Math.abs.code 1 (some .int) ∈ goodTbl) (g : Gd X M h0 o h (pc + 3) L (.inl (abI x) :: st)) : Gd X M h0 o h pc L (.inl x :: st) := by
  have hd := tb_len hx rfl
  refine q_pc hd0 (st := .inl (abI x) :: st) g (fun {p l e R s m args below meth c H locs cells slots Q ls} hat hml hf hlo hc hsl k => ?_)
  have hts := hat.2.2.2.2.2.1
  exact va_mabs hat.1 hat.2.1 hml hat.2.2.2.1 (hts _ hw.1) (hts _ hw.2.1) (hts _ hw.2.2.1) (hts _ hw.2.2.2) hf (hlo (by rw [cat_sum]; omega)) hc hsl hd k
end MATH
end
section
/-! words of the tables, by their places -/
theorem wd_0 : Cond.selects RX0 yX0_dropOldest yX0_dropOldest ∈ goodTbl := gw 0 (by decide +kernel) rfl
theorem wd_1 : Cond.selects RX5 yX5_faultOfPad yX5_faultOfPad ∈ goodTbl := gw 1 (by decide +kernel) rfl
theorem wd_2 : Cond.selects RX2 yX2_addEvent yX2_addEvent ∈ goodTbl := gw 2 (by decide +kernel) rfl
theorem wd_3 : Cond.selects RX5 yX5_layLines yX5_layLines ∈ goodTbl := gw 3 (by decide +kernel) rfl
theorem wd_4 : Cond.selects RX3 yX3_begin yX3_begin ∈ goodTbl := gw 4 (by decide +kernel) rfl
theorem wd_5 : Cond.selects RX3 yX3_addText yX3_addText ∈ goodTbl := gw 5 (by decide +kernel) rfl
theorem wd_6 : Cond.selects RX3 yX3_addSign yX3_addSign ∈ goodTbl := gw 6 (by decide +kernel) rfl
theorem wd_7 : Cond.selects RX3 yX3_addNumber yX3_addNumber ∈ goodTbl := gw 7 (by decide +kernel) rfl
theorem wd_8 : Cond.selects RX3 yX3_endLine yX3_endLine ∈ goodTbl := gw 8 (by decide +kernel) rfl
theorem wd_9 : Cond.selects RX3 yX3_layItem yX3_layItem ∈ goodTbl := gw 9 (by decide +kernel) rfl
theorem wd_10 : Cond.selects RX3 yX3_layWord yX3_layWord ∈ goodTbl := gw 10 (by decide +kernel) rfl
theorem wd_11 : Cond.selects RX3 yX3_addMoney yX3_addMoney ∈ goodTbl := gw 11 (by decide +kernel) rfl
theorem wd_12 : Cond.selects RX3 yX3_layTold yX3_layTold ∈ goodTbl := gw 12 (by decide +kernel) rfl
theorem wd_13 : Cond.selects RX4 yX4_printLine yX4_printLine ∈ goodTbl := gw 13 (by decide +kernel) rfl
theorem wd_14 : Cond.selects RX4 yX4_takeReceipt yX4_takeReceipt ∈ goodTbl := gw 14 (by decide +kernel) rfl
theorem wd_15 : Cond.selects RX4 yX4_waitingAheadOf yX4_waitingAheadOf ∈ goodTbl := gw 15 (by decide +kernel) rfl
theorem wd_16 : Cond.selects RX4 yX4_finish yX4_finish ∈ goodTbl := gw 16 (by decide +kernel) rfl
theorem wd_17 : Cond.selects RX6 yX6_lay yX6_lay ∈ goodTbl := gw 17 (by decide +kernel) rfl
theorem wd_18 : Cond.selects RX6 yX6_records yX6_records ∈ goodTbl := gw 18 (by decide +kernel) rfl
theorem wd_19 : Cond.selects RX6 yX6_faultAt yX6_faultAt ∈ goodTbl := gw 19 (by decide +kernel) rfl
theorem wd_20 : Cond.selects RX6 yX6_canStand yX6_canStand ∈ goodTbl := gw 20 (by decide +kernel) rfl
theorem wd_21 : Cond.selects RX6 yX6_of yX6_of ∈ goodTbl := gw 21 (by decide +kernel) rfl
theorem wd_22 : Cond.selects RX6 yX6_packsName yX6_packsName ∈ goodTbl := gw 22 (by decide +kernel) rfl
theorem wd_23 : Cond.selects RX6 yX6_happens yX6_happens ∈ goodTbl := gw 23 (by decide +kernel) rfl
theorem wd_24 : Cond.selects RX6 yX6_isItem yX6_isItem ∈ goodTbl := gw 24 (by decide +kernel) rfl
theorem wd_25 : Cond.selects RX6 yX6_isStruck yX6_isStruck ∈ goodTbl := gw 25 (by decide +kernel) rfl
theorem wd_26 : Cond.selects RX6 yX6_packed yX6_packed ∈ goodTbl := gw 26 (by decide +kernel) rfl
theorem wd_27 : Cond.selects RX6 yX6_sum yX6_sum ∈ goodTbl := gw 27 (by decide +kernel) rfl
theorem wd_28 : Cond.selects RX6 yX6_howMany yX6_howMany ∈ goodTbl := gw 28 (by decide +kernel) rfl
theorem wd_29 : Cond.selects RX6 yX6_price yX6_price ∈ goodTbl := gw 29 (by decide +kernel) rfl
theorem wd_30 : Cond.selects RX6 yX6_manyHow yX6_manyHow ∈ goodTbl := gw 30 (by decide +kernel) rfl
theorem wd_31 : Cond.selects RX6 yX6_isHow yX6_isHow ∈ goodTbl := gw 31 (by decide +kernel) rfl
theorem wd_32 : Cond.selects RX6 yX6_freeRecord yX6_freeRecord ∈ goodTbl := gw 32 (by decide +kernel) rfl
theorem wd_33 : Cond.selects RX6 yX6_empties yX6_empties ∈ goodTbl := gw 33 (by decide +kernel) rfl
theorem wd_34 : Cond.selects RX6 yX6_recordOf yX6_recordOf ∈ goodTbl := gw 34 (by decide +kernel) rfl
theorem wd_35 : Cond.selects RX6 yX6_printedNow yX6_printedNow ∈ goodTbl := gw 35 (by decide +kernel) rfl
theorem wd_36 : Cond.selects RX6 yX6_widthOf yX6_widthOf ∈ goodTbl := gw 36 (by decide +kernel) rfl
theorem wd_37 : Cond.selects RX6 yX6_laysAll yX6_laysAll ∈ goodTbl := gw 37 (by decide +kernel) rfl
theorem wd_38 : Cond.selects RX6 yX6_lays yX6_lays ∈ goodTbl := gw 38 (by decide +kernel) rfl
theorem wd_39 : Cond.selects RX6 yX6_puts yX6_puts ∈ goodTbl := gw 39 (by decide +kernel) rfl
theorem wd_40 : Cond.selects RX6 yX6_numberOf yX6_numberOf ∈ goodTbl := gw 40 (by decide +kernel) rfl
theorem wd_41 : Cond.selects RX6 yX6_number yX6_number ∈ goodTbl := gw 41 (by decide +kernel) rfl
theorem wd_42 : Cond.selects RX6 yX6_nextLine yX6_nextLine ∈ goodTbl := gw 42 (by decide +kernel) rfl
theorem wd_43 : Cond.selects RX6 yX6_event yX6_event ∈ goodTbl := gw 43 (by decide +kernel) rfl
theorem wd_44 : Cond.selects RX6 yX6_layItem yX6_layItem ∈ goodTbl := gw 44 (by decide +kernel) rfl
theorem wd_45 : Cond.selects RX6 yX6_addsToWord yX6_addsToWord ∈ goodTbl := gw 45 (by decide +kernel) rfl
theorem wd_46 : Cond.selects RX6 yX6_layWord yX6_layWord ∈ goodTbl := gw 46 (by decide +kernel) rfl
theorem wd_47 : Cond.selects RX6 yX6_nameLength yX6_nameLength ∈ goodTbl := gw 47 (by decide +kernel) rfl
theorem wd_48 : Cond.selects RX6 yX6_nameSign yX6_nameSign ∈ goodTbl := gw 48 (by decide +kernel) rfl
theorem wd_49 : Cond.selects RX6 yX6_money yX6_money ∈ goodTbl := gw 49 (by decide +kernel) rfl
theorem wd_50 : Cond.selects RX6 yX6_layVoid yX6_layVoid ∈ goodTbl := gw 50 (by decide +kernel) rfl
theorem wd_51 : Cond.selects RX6 yX6_total yX6_total ∈ goodTbl := gw 51 (by decide +kernel) rfl
theorem wd_52 : Cond.selects RX6 yX6_hasTax yX6_hasTax ∈ goodTbl := gw 52 (by decide +kernel) rfl
theorem wd_53 : Cond.selects RX6 yX6_tax yX6_tax ∈ goodTbl := gw 53 (by decide +kernel) rfl
theorem wd_54 : Cond.selects RX6 yX6_layTax yX6_layTax ∈ goodTbl := gw 54 (by decide +kernel) rfl
theorem wd_55 : Cond.selects RX6 yX6_taxOf yX6_taxOf ∈ goodTbl := gw 55 (by decide +kernel) rfl
theorem wd_56 : Cond.selects RX6 yX6_ticks yX6_ticks ∈ goodTbl := gw 56 (by decide +kernel) rfl
theorem wd_57 : Cond.selects RX6 yX6_printsLine yX6_printsLine ∈ goodTbl := gw 57 (by decide +kernel) rfl
theorem wd_58 : Cond.selects RX6 yX6_recordAt yX6_recordAt ∈ goodTbl := gw 58 (by decide +kernel) rfl
theorem wd_59 : Cond.selects RX6 yX6_rank yX6_rank ∈ goodTbl := gw 59 (by decide +kernel) rfl
theorem wd_60 : Cond.selects RX6 yX6_isAhead yX6_isAhead ∈ goodTbl := gw 60 (by decide +kernel) rfl
theorem wd_61 : Cond.selects RX6 yX6_linesOf yX6_linesOf ∈ goodTbl := gw 61 (by decide +kernel) rfl
theorem wd_62 : Cond.selects RX6 yX6_ends yX6_ends ∈ goodTbl := gw 62 (by decide +kernel) rfl
theorem wd_63 : Cond.selects RX6 yX6_forgets yX6_forgets ∈ goodTbl := gw 63 (by decide +kernel) rfl
theorem wd_64 : Cond.selects RX6 yX6_linesOfItem yX6_linesOfItem ∈ goodTbl := gw 64 (by decide +kernel) rfl
theorem wd_65 : Cond.selects RX6 yX6_struckOf yX6_struckOf ∈ goodTbl := gw 65 (by decide +kernel) rfl
theorem wd_66 : Cond.selects RX6 yX6_signAt yX6_signAt ∈ goodTbl := gw 66 (by decide +kernel) rfl
theorem wd_67 : Cond.selects RX6 yX6_linesUpTo yX6_linesUpTo ∈ goodTbl := gw 67 (by decide +kernel) rfl
theorem wd_68 : Cond.selects RX6 yX6_leftOf yX6_leftOf ∈ goodTbl := gw 68 (by decide +kernel) rfl
theorem wd_69 : Cond.selects RX6 yX6_ticksFor yX6_ticksFor ∈ goodTbl := gw 69 (by decide +kernel) rfl
theorem wd_70 : Cond.selects RX6 yX6_allLeft yX6_allLeft ∈ goodTbl := gw 70 (by decide +kernel) rfl
theorem wd_72 : Cond.initialized RX5 ∈ goodTbl := gw 72 (by decide +kernel) rfl
theorem wd_73 : Cond.initialized RX4 ∈ goodTbl := gw 73 (by decide +kernel) rfl
theorem wd_74 : Cond.initialized RX2 ∈ goodTbl := gw 74 (by decide +kernel) rfl
theorem wd_75 : Cond.initialized RX0 ∈ goodTbl := gw 75 (by decide +kernel) rfl
theorem wd_76 : Cond.initialized RJ5 ∈ goodTbl := gw 76 (by decide +kernel) rfl
theorem wd_77 : Cond.initialized RJ4 ∈ goodTbl := gw 77 (by decide +kernel) rfl
theorem wd_78 : Cond.initialized RJ0 ∈ goodTbl := gw 78 (by decide +kernel) rfl
theorem wd_80 : Cond.initialized RX3 ∈ goodTbl := gw 80 (by decide +kernel) rfl
theorem wd_81 : Cond.initialized RX6 ∈ goodTbl := gw 81 (by decide +kernel) rfl
theorem wd_83 : Cond.initialized RJ3 ∈ goodTbl := gw 83 (by decide +kernel) rfl
theorem wd_84 : Cond.initialized RX1 ∈ goodTbl := gw 84 (by decide +kernel) rfl
theorem wd_85 : Cond.initialized RJ7 ∈ goodTbl := gw 85 (by decide +kernel) rfl
theorem wd_87 : Cond.initialized RJ8 ∈ goodTbl := gw 87 (by decide +kernel) rfl
theorem wd_88 : Cond.initialized RJ1 ∈ goodTbl := gw 88 (by decide +kernel) rfl
theorem wd_89 : Cond.initialized RJ6 ∈ goodTbl := gw 89 (by decide +kernel) rfl
theorem wd_90 : Cond.classLink RL 7 RX5 ∈ goodTbl := gw 90 (by decide +kernel) rfl
theorem wd_91 : Cond.instantiable RX5 5 ∈ goodTbl := gw 91 (by decide +kernel) rfl
theorem wd_92 : Cond.methodLink RL 9 yX5_init ∈ goodTbl := gw 92 (by decide +kernel) rfl
theorem wd_93 : Cond.instanceMethod yX5_init ∈ goodTbl := gw 93 (by decide +kernel) rfl
theorem wd_94 : Cond.code yX5_init cX5_init 1 none ∈ goodTbl := gw 94 (by decide +kernel) rfl
theorem wd_95 : Cond.methodLink RX5 1 Lib.objectInit ∈ goodTbl := gw 95 (by decide +kernel) rfl
theorem wd_98 : Cond.classLink RX5 7 RX4 ∈ goodTbl := gw 98 (by decide +kernel) rfl
theorem wd_99 : Cond.instantiable RX4 13 ∈ goodTbl := gw 99 (by decide +kernel) rfl
theorem wd_100 : Cond.methodLink RX5 9 yX4_init ∈ goodTbl := gw 100 (by decide +kernel) rfl
theorem wd_101 : Cond.instanceMethod yX4_init ∈ goodTbl := gw 101 (by decide +kernel) rfl
theorem wd_102 : Cond.code yX4_init cX4_init 2 none ∈ goodTbl := gw 102 (by decide +kernel) rfl
theorem wd_103 : Cond.methodLink RX4 3 Lib.objectInit ∈ goodTbl := gw 103 (by decide +kernel) rfl
theorem wd_104 : Cond.classLink RX4 22 RX2 ∈ goodTbl := gw 104 (by decide +kernel) rfl
theorem wd_106 : Cond.instantiable RX2 14 ∈ goodTbl := gw 106 (by decide +kernel) rfl
theorem wd_108 : Cond.instanceMethod yX2_init ∈ goodTbl := gw 108 (by decide +kernel) rfl
theorem wd_109 : Cond.code yX2_init cX2_init 1 none ∈ goodTbl := gw 109 (by decide +kernel) rfl
theorem wd_110 : Cond.methodLink RX2 3 Lib.objectInit ∈ goodTbl := gw 110 (by decide +kernel) rfl
theorem wd_111 : Cond.classLink RX2 9 RX1 ∈ goodTbl := gw 111 (by decide +kernel) rfl
theorem wd_113 : Cond.fieldLink RX2 21 "ReceiptRolls$Receipt" "number" "I" ∈ goodTbl := gw 113 (by decide +kernel) rfl
theorem wd_114 : Cond.fieldLink RX4 68 "ReceiptRolls$Receipt" "number" "I" ∈ goodTbl := gw 114 (by decide +kernel) rfl
theorem wd_115 : Cond.fieldLink RX5 227 "ReceiptRolls$Receipt" "number" "I" ∈ goodTbl := gw 115 (by decide +kernel) rfl
theorem wd_116 : Cond.fieldLink RX2 25 "ReceiptRolls$Receipt" "till" "I" ∈ goodTbl := gw 116 (by decide +kernel) rfl
theorem wd_117 : Cond.fieldLink RX5 211 "ReceiptRolls$Receipt" "till" "I" ∈ goodTbl := gw 117 (by decide +kernel) rfl
theorem wd_118 : Cond.fieldLink RX2 28 "ReceiptRolls$Receipt" "priority" "I" ∈ goodTbl := gw 118 (by decide +kernel) rfl
theorem wd_119 : Cond.fieldLink RX5 147 "ReceiptRolls$Receipt" "priority" "I" ∈ goodTbl := gw 119 (by decide +kernel) rfl
theorem wd_120 : Cond.fieldLink RX2 31 "ReceiptRolls$Receipt" "stage" "I" ∈ goodTbl := gw 120 (by decide +kernel) rfl
theorem wd_121 : Cond.fieldLink RX5 144 "ReceiptRolls$Receipt" "stage" "I" ∈ goodTbl := gw 121 (by decide +kernel) rfl
theorem wd_122 : Cond.fieldLink RX4 79 "ReceiptRolls$Receipt" "stage" "I" ∈ goodTbl := gw 122 (by decide +kernel) rfl
theorem wd_123 : Cond.fieldLink RX2 34 "ReceiptRolls$Receipt" "width" "I" ∈ goodTbl := gw 123 (by decide +kernel) rfl
theorem wd_124 : Cond.fieldLink RX5 217 "ReceiptRolls$Receipt" "width" "I" ∈ goodTbl := gw 124 (by decide +kernel) rfl
theorem wd_125 : Cond.fieldLink RX2 37 "ReceiptRolls$Receipt" "lines" "I" ∈ goodTbl := gw 125 (by decide +kernel) rfl
theorem wd_126 : Cond.fieldLink RX5 214 "ReceiptRolls$Receipt" "lines" "I" ∈ goodTbl := gw 126 (by decide +kernel) rfl
theorem wd_127 : Cond.fieldLink RX4 101 "ReceiptRolls$Receipt" "lines" "I" ∈ goodTbl := gw 127 (by decide +kernel) rfl
theorem wd_128 : Cond.fieldLink RX2 40 "ReceiptRolls$Receipt" "printed" "I" ∈ goodTbl := gw 128 (by decide +kernel) rfl
theorem wd_129 : Cond.fieldLink RX5 166 "ReceiptRolls$Receipt" "printed" "I" ∈ goodTbl := gw 129 (by decide +kernel) rfl
theorem wd_130 : Cond.fieldLink RX4 98 "ReceiptRolls$Receipt" "printed" "I" ∈ goodTbl := gw 130 (by decide +kernel) rfl
theorem wd_131 : Cond.fieldLink RX2 43 "ReceiptRolls$Receipt" "doneTick" "I" ∈ goodTbl := gw 131 (by decide +kernel) rfl
theorem wd_132 : Cond.fieldLink RX5 218 "ReceiptRolls$Receipt" "doneTick" "I" ∈ goodTbl := gw 132 (by decide +kernel) rfl
theorem wd_133 : Cond.fieldLink RX4 113 "ReceiptRolls$Receipt" "doneTick" "I" ∈ goodTbl := gw 133 (by decide +kernel) rfl
theorem wd_134 : Cond.fieldLink RX2 46 "ReceiptRolls$Receipt" "doneRank" "I" ∈ goodTbl := gw 134 (by decide +kernel) rfl
theorem wd_135 : Cond.fieldLink RX4 116 "ReceiptRolls$Receipt" "doneRank" "I" ∈ goodTbl := gw 135 (by decide +kernel) rfl
theorem wd_136 : Cond.fieldLink RX2 49 "ReceiptRolls$Receipt" "items" "I" ∈ goodTbl := gw 136 (by decide +kernel) rfl
theorem wd_137 : Cond.fieldLink RX5 67 "ReceiptRolls$Receipt" "items" "I" ∈ goodTbl := gw 137 (by decide +kernel) rfl
theorem wd_138 : Cond.fieldLink RX3 32 "ReceiptRolls$Receipt" "events" "I" ∈ goodTbl := gw 138 (by decide +kernel) rfl
theorem wd_139 : Cond.fieldLink RX2 52 "ReceiptRolls$Receipt" "events" "I" ∈ goodTbl := gw 139 (by decide +kernel) rfl
theorem wd_140 : Cond.fieldLink RX2 55 "ReceiptRolls$Receipt" "struck" "I" ∈ goodTbl := gw 140 (by decide +kernel) rfl
theorem wd_141 : Cond.fieldLink RX5 268 "ReceiptRolls$Receipt" "struck" "I" ∈ goodTbl := gw 141 (by decide +kernel) rfl
theorem wd_142 : Cond.fieldLink RX2 11 "ReceiptRolls$Receipt" "rung" "[LReceiptRolls$Item;" ∈ goodTbl := gw 142 (by decide +kernel) rfl
theorem wd_143 : Cond.fieldLink RX2 17 "ReceiptRolls$Receipt" "happened" "[I" ∈ goodTbl := gw 143 (by decide +kernel) rfl
theorem wd_144 : Cond.fieldLink RX3 38 "ReceiptRolls$Receipt" "happened" "[I" ∈ goodTbl := gw 144 (by decide +kernel) rfl
theorem wd_174 : Cond.arrayClass .int ∈ goodTbl := gw 174 (by decide +kernel) rfl
theorem wd_175 : Cond.fieldLink RX4 9 "ReceiptRolls$State" "rollLeft" "I" ∈ goodTbl := gw 175 (by decide +kernel) rfl
theorem wd_176 : Cond.fieldLink RX5 150 "ReceiptRolls$State" "rollLeft" "I" ∈ goodTbl := gw 176 (by decide +kernel) rfl
theorem wd_177 : Cond.fieldLink RX4 32 "ReceiptRolls$State" "linesPrinted" "I" ∈ goodTbl := gw 177 (by decide +kernel) rfl
theorem wd_178 : Cond.fieldLink RX5 230 "ReceiptRolls$State" "linesPrinted" "I" ∈ goodTbl := gw 178 (by decide +kernel) rfl
theorem wd_179 : Cond.fieldLink RX4 35 "ReceiptRolls$State" "linesSpoilt" "I" ∈ goodTbl := gw 179 (by decide +kernel) rfl
theorem wd_180 : Cond.fieldLink RX5 172 "ReceiptRolls$State" "linesSpoilt" "I" ∈ goodTbl := gw 180 (by decide +kernel) rfl
theorem wd_181 : Cond.fieldLink RX4 15 "ReceiptRolls$State" "rolls" "I" ∈ goodTbl := gw 181 (by decide +kernel) rfl
theorem wd_182 : Cond.fieldLink RX5 160 "ReceiptRolls$State" "rolls" "I" ∈ goodTbl := gw 182 (by decide +kernel) rfl
theorem wd_183 : Cond.fieldLink RX4 38 "ReceiptRolls$State" "linesThrown" "I" ∈ goodTbl := gw 183 (by decide +kernel) rfl
theorem wd_184 : Cond.fieldLink RX5 153 "ReceiptRolls$State" "linesThrown" "I" ∈ goodTbl := gw 184 (by decide +kernel) rfl
theorem wd_185 : Cond.fieldLink RX4 41 "ReceiptRolls$State" "ticks" "I" ∈ goodTbl := gw 185 (by decide +kernel) rfl
theorem wd_186 : Cond.fieldLink RX5 175 "ReceiptRolls$State" "ticks" "I" ∈ goodTbl := gw 186 (by decide +kernel) rfl
theorem wd_187 : Cond.fieldLink RX4 44 "ReceiptRolls$State" "closed" "I" ∈ goodTbl := gw 187 (by decide +kernel) rfl
theorem wd_188 : Cond.fieldLink RX5 114 "ReceiptRolls$State" "closed" "I" ∈ goodTbl := gw 188 (by decide +kernel) rfl
theorem wd_189 : Cond.fieldLink RX4 47 "ReceiptRolls$State" "done" "I" ∈ goodTbl := gw 189 (by decide +kernel) rfl
theorem wd_190 : Cond.fieldLink RX5 117 "ReceiptRolls$State" "done" "I" ∈ goodTbl := gw 190 (by decide +kernel) rfl
theorem wd_191 : Cond.fieldLink RX4 50 "ReceiptRolls$State" "itemsStruck" "I" ∈ goodTbl := gw 191 (by decide +kernel) rfl
theorem wd_192 : Cond.fieldLink RX5 101 "ReceiptRolls$State" "itemsStruck" "I" ∈ goodTbl := gw 192 (by decide +kernel) rfl
theorem wd_193 : Cond.fieldLink RX4 53 "ReceiptRolls$State" "printing" "I" ∈ goodTbl := gw 193 (by decide +kernel) rfl
theorem wd_194 : Cond.fieldLink RX5 163 "ReceiptRolls$State" "printing" "I" ∈ goodTbl := gw 194 (by decide +kernel) rfl
theorem wd_195 : Cond.fieldLink RX4 18 "ReceiptRolls$State" "settings" "[I" ∈ goodTbl := gw 195 (by decide +kernel) rfl
theorem wd_196 : Cond.fieldLink RX4 24 "ReceiptRolls$State" "open" "[LReceiptRolls$Receipt;" ∈ goodTbl := gw 196 (by decide +kernel) rfl
theorem wd_197 : Cond.fieldLink RX4 28 "ReceiptRolls$State" "ledger" "[LReceiptRolls$Receipt;" ∈ goodTbl := gw 197 (by decide +kernel) rfl
theorem wd_225 : Cond.classLink RX5 16 RX0 ∈ goodTbl := gw 225 (by decide +kernel) rfl
theorem wd_226 : Cond.instantiable RX0 2 ∈ goodTbl := gw 226 (by decide +kernel) rfl
theorem wd_227 : Cond.methodLink RX5 18 yX0_init ∈ goodTbl := gw 227 (by decide +kernel) rfl
theorem wd_228 : Cond.instanceMethod yX0_init ∈ goodTbl := gw 228 (by decide +kernel) rfl
theorem wd_229 : Cond.code yX0_init cX0_init 2 none ∈ goodTbl := gw 229 (by decide +kernel) rfl
theorem wd_230 : Cond.methodLink RX0 3 Lib.objectInit ∈ goodTbl := gw 230 (by decide +kernel) rfl
theorem wd_231 : Cond.classLink RX0 9 RX4 ∈ goodTbl := gw 231 (by decide +kernel) rfl
theorem wd_233 : Cond.methodLink RX0 17 yX4_init ∈ goodTbl := gw 233 (by decide +kernel) rfl
theorem wd_234 : Cond.fieldLink RX0 18 "ReceiptRolls$History" "kept" "I" ∈ goodTbl := gw 234 (by decide +kernel) rfl
theorem wd_235 : Cond.fieldLink RX5 237 "ReceiptRolls$History" "kept" "I" ∈ goodTbl := gw 235 (by decide +kernel) rfl
theorem wd_236 : Cond.fieldLink RX0 11 "ReceiptRolls$History" "states" "[LReceiptRolls$State;" ∈ goodTbl := gw 236 (by decide +kernel) rfl
theorem wd_242 : Cond.classLink RX5 27 RJ4 ∈ goodTbl := gw 242 (by decide +kernel) rfl
theorem wd_243 : Cond.instantiable RJ4 4 ∈ goodTbl := gw 243 (by decide +kernel) rfl
theorem wd_244 : Cond.methodLink RX5 29 yJ4_init_da8c8 ∈ goodTbl := gw 244 (by decide +kernel) rfl
theorem wd_245 : Cond.instanceMethod yJ4_init_da8c8 ∈ goodTbl := gw 245 (by decide +kernel) rfl
theorem wd_246 : Cond.code yJ4_init_da8c8 cJ4_init_da8c8 1 none ∈ goodTbl := gw 246 (by decide +kernel) rfl
theorem wd_247 : Cond.methodLink RJ4 1 yJ5_init_d00df ∈ goodTbl := gw 247 (by decide +kernel) rfl
theorem wd_248 : Cond.instanceMethod yJ5_init_d00df ∈ goodTbl := gw 248 (by decide +kernel) rfl
theorem wd_249 : Cond.code yJ5_init_d00df cJ5_init_d00df 2 none ∈ goodTbl := gw 249 (by decide +kernel) rfl
theorem wd_250 : Cond.methodLink RJ5 3 Lib.objectInit ∈ goodTbl := gw 250 (by decide +kernel) rfl
theorem wd_251 : Cond.fieldLink RJ5 18 "java/lang/String" "COMPACT_STRINGS" "Z" ∈ goodTbl := gw 251 (by decide +kernel) rfl
theorem wd_260 : Cond.fieldLink RJ5 15 "java/lang/AbstractStringBuilder" "value" "[B" ∈ goodTbl := gw 260 (by decide +kernel) rfl
theorem wd_261 : Cond.fieldLink RJ5 22 "java/lang/AbstractStringBuilder" "coder" "B" ∈ goodTbl := gw 261 (by decide +kernel) rfl
theorem wd_262 : Cond.fieldLink RJ5 73 "java/lang/AbstractStringBuilder" "maybeLatin1" "Z" ∈ goodTbl := gw 262 (by decide +kernel) rfl
theorem wd_263 : Cond.fieldLink RJ0 1048 "java/lang/AbstractStringBuilder" "maybeLatin1" "Z" ∈ goodTbl := gw 263 (by decide +kernel) rfl
theorem wd_264 : Cond.fieldLink RJ5 79 "java/lang/AbstractStringBuilder" "count" "I" ∈ goodTbl := gw 264 (by decide +kernel) rfl
theorem wd_273 : Cond.superclass RJ4 RJ5 ∈ goodTbl := gw 273 (by decide +kernel) rfl
theorem wd_274 : Cond.arrayClass .byte ∈ goodTbl := gw 274 (by decide +kernel) rfl
theorem wd_275 : Cond.classLink RX5 34 RX3 ∈ goodTbl := gw 275 (by decide +kernel) rfl
theorem wd_276 : Cond.instantiable RX3 6 ∈ goodTbl := gw 276 (by decide +kernel) rfl
theorem wd_278 : Cond.instanceMethod yX3_init ∈ goodTbl := gw 278 (by decide +kernel) rfl
theorem wd_279 : Cond.code yX3_init cX3_init 1 none ∈ goodTbl := gw 279 (by decide +kernel) rfl
theorem wd_280 : Cond.methodLink RX3 3 Lib.objectInit ∈ goodTbl := gw 280 (by decide +kernel) rfl
theorem wd_281 : Cond.fieldLink RX3 84 "ReceiptRolls$Sheet" "width" "I" ∈ goodTbl := gw 281 (by decide +kernel) rfl
theorem wd_282 : Cond.fieldLink RX5 128 "ReceiptRolls$Sheet" "width" "I" ∈ goodTbl := gw 282 (by decide +kernel) rfl
theorem wd_283 : Cond.fieldLink RX3 81 "ReceiptRolls$Sheet" "line" "I" ∈ goodTbl := gw 283 (by decide +kernel) rfl
theorem wd_284 : Cond.fieldLink RX5 131 "ReceiptRolls$Sheet" "line" "I" ∈ goodTbl := gw 284 (by decide +kernel) rfl
theorem wd_285 : Cond.fieldLink RX3 90 "ReceiptRolls$Sheet" "firstAlike" "I" ∈ goodTbl := gw 285 (by decide +kernel) rfl
theorem wd_286 : Cond.fieldLink RX5 169 "ReceiptRolls$Sheet" "firstAlike" "I" ∈ goodTbl := gw 286 (by decide +kernel) rfl
theorem wd_287 : Cond.fieldLink RX3 87 "ReceiptRolls$Sheet" "wanted" "I" ∈ goodTbl := gw 287 (by decide +kernel) rfl
theorem wd_288 : Cond.fieldLink RX3 93 "ReceiptRolls$Sheet" "column" "I" ∈ goodTbl := gw 288 (by decide +kernel) rfl
theorem wd_289 : Cond.fieldLink RX3 9 "ReceiptRolls$Sheet" "signs" "[C" ∈ goodTbl := gw 289 (by decide +kernel) rfl
theorem wd_303 : Cond.arrayClass .char ∈ goodTbl := gw 303 (by decide +kernel) rfl
theorem wd_304 : Cond.fieldLink RX5 10 "ReceiptRolls" "now" "LReceiptRolls$State;" ∈ goodTbl := gw 304 (by decide +kernel) rfl
theorem wd_305 : Cond.fieldLink RX5 19 "ReceiptRolls" "history" "LReceiptRolls$History;" ∈ goodTbl := gw 305 (by decide +kernel) rfl
theorem wd_306 : Cond.fieldLink RX5 23 "ReceiptRolls" "slots" "[LReceiptRolls$State;" ∈ goodTbl := gw 306 (by decide +kernel) rfl
theorem wd_307 : Cond.fieldLink RX5 30 "ReceiptRolls" "pad" "Ljava/lang/StringBuilder;" ∈ goodTbl := gw 307 (by decide +kernel) rfl
theorem wd_308 : Cond.fieldLink RX5 37 "ReceiptRolls" "sheet" "LReceiptRolls$Sheet;" ∈ goodTbl := gw 308 (by decide +kernel) rfl
theorem wd_320 : Cond.methodLink RL 13 yX5_set ∈ goodTbl := gw 320 (by decide +kernel) rfl
theorem wd_321 : Cond.instanceMethod yX5_set ∈ goodTbl := gw 321 (by decide +kernel) rfl
theorem wd_322 : Cond.selects RX5 yX5_set yX5_set ∈ goodTbl := gw 322 (by decide +kernel) rfl
theorem wd_323 : Cond.code yX5_set cX5_set 3 (some .int) ∈ goodTbl := gw 323 (by decide +kernel) rfl
theorem wd_324 : Cond.fieldLink RX5 41 "ReceiptRolls" "LEAST_SETTINGS" "[I" ∈ goodTbl := gw 324 (by decide +kernel) rfl
theorem wd_326 : Cond.fieldLink RX5 45 "ReceiptRolls" "MOST_SETTINGS" "[I" ∈ goodTbl := gw 326 (by decide +kernel) rfl
theorem wd_328 : Cond.methodLink RX5 48 yX0_remember ∈ goodTbl := gw 328 (by decide +kernel) rfl
theorem wd_329 : Cond.instanceMethod yX0_remember ∈ goodTbl := gw 329 (by decide +kernel) rfl
theorem wd_330 : Cond.selects RX0 yX0_remember yX0_remember ∈ goodTbl := gw 330 (by decide +kernel) rfl
theorem wd_331 : Cond.code yX0_remember cX0_remember 2 none ∈ goodTbl := gw 331 (by decide +kernel) rfl
theorem wd_332 : Cond.methodLink RX0 22 yX0_dropOldest ∈ goodTbl := gw 332 (by decide +kernel) rfl
theorem wd_334 : Cond.instanceMethod yX0_dropOldest ∈ goodTbl := gw 334 (by decide +kernel) rfl
theorem wd_335 : Cond.code yX0_dropOldest cX0_dropOldest 3 none ∈ goodTbl := gw 335 (by decide +kernel) rfl
theorem wd_336 : Cond.methodLink RX0 25 yX4_copyFrom ∈ goodTbl := gw 336 (by decide +kernel) rfl
theorem wd_337 : Cond.instanceMethod yX4_copyFrom ∈ goodTbl := gw 337 (by decide +kernel) rfl
theorem wd_338 : Cond.selects RX4 yX4_copyFrom yX4_copyFrom ∈ goodTbl := gw 338 (by decide +kernel) rfl
theorem wd_339 : Cond.code yX4_copyFrom cX4_copyFrom 3 none ∈ goodTbl := gw 339 (by decide +kernel) rfl
theorem wd_340 : Cond.methodLink RX4 56 yX4_copyReceipts ∈ goodTbl := gw 340 (by decide +kernel) rfl
theorem wd_341 : Cond.static yX4_copyReceipts ∈ goodTbl := gw 341 (by decide +kernel) rfl
theorem wd_342 : Cond.code yX4_copyReceipts cX4_copyReceipts 3 none ∈ goodTbl := gw 342 (by decide +kernel) rfl
theorem wd_343 : Cond.methodLink RX4 60 yX2_copyFrom ∈ goodTbl := gw 343 (by decide +kernel) rfl
theorem wd_344 : Cond.instanceMethod yX2_copyFrom ∈ goodTbl := gw 344 (by decide +kernel) rfl
theorem wd_345 : Cond.selects RX2 yX2_copyFrom yX2_copyFrom ∈ goodTbl := gw 345 (by decide +kernel) rfl
theorem wd_346 : Cond.code yX2_copyFrom cX2_copyFrom 3 none ∈ goodTbl := gw 346 (by decide +kernel) rfl
theorem wd_347 : Cond.methodLink RX5 52 yX4_changeSetting ∈ goodTbl := gw 347 (by decide +kernel) rfl
theorem wd_348 : Cond.instanceMethod yX4_changeSetting ∈ goodTbl := gw 348 (by decide +kernel) rfl
theorem wd_349 : Cond.selects RX4 yX4_changeSetting yX4_changeSetting ∈ goodTbl := gw 349 (by decide +kernel) rfl
theorem wd_350 : Cond.code yX4_changeSetting cX4_changeSetting 4 (some .int) ∈ goodTbl := gw 350 (by decide +kernel) rfl
theorem wd_351 : Cond.methodLink RX4 64 yX4_settingAt ∈ goodTbl := gw 351 (by decide +kernel) rfl
theorem wd_352 : Cond.instanceMethod yX4_settingAt ∈ goodTbl := gw 352 (by decide +kernel) rfl
theorem wd_353 : Cond.selects RX4 yX4_settingAt yX4_settingAt ∈ goodTbl := gw 353 (by decide +kernel) rfl
theorem wd_354 : Cond.code yX4_settingAt cX4_settingAt 2 (some .int) ∈ goodTbl := gw 354 (by decide +kernel) rfl
theorem wd_355 : Cond.methodLink RL 18 yX5_ring ∈ goodTbl := gw 355 (by decide +kernel) rfl
theorem wd_356 : Cond.instanceMethod yX5_ring ∈ goodTbl := gw 356 (by decide +kernel) rfl
theorem wd_357 : Cond.selects RX5 yX5_ring yX5_ring ∈ goodTbl := gw 357 (by decide +kernel) rfl
theorem wd_358 : Cond.code yX5_ring cX5_ring 7 (some .int) ∈ goodTbl := gw 358 (by decide +kernel) rfl
theorem wd_359 : Cond.methodLink RX5 56 yX4_openAt ∈ goodTbl := gw 359 (by decide +kernel) rfl
theorem wd_360 : Cond.instanceMethod yX4_openAt ∈ goodTbl := gw 360 (by decide +kernel) rfl
theorem wd_361 : Cond.selects RX4 yX4_openAt yX4_openAt ∈ goodTbl := gw 361 (by decide +kernel) rfl
theorem wd_362 : Cond.code yX4_openAt cX4_openAt 2 (some (.object "ReceiptRolls$Receipt")) ∈ goodTbl := gw 362 (by decide +kernel) rfl
theorem wd_363 : Cond.methodLink RX5 60 yX5_faultOfPad ∈ goodTbl := gw 363 (by decide +kernel) rfl
theorem wd_365 : Cond.instanceMethod yX5_faultOfPad ∈ goodTbl := gw 365 (by decide +kernel) rfl
theorem wd_366 : Cond.code yX5_faultOfPad cX5_faultOfPad 6 (some .int) ∈ goodTbl := gw 366 (by decide +kernel) rfl
theorem wd_367 : Cond.methodLink RX5 236 yJ4_length_8abf5 ∈ goodTbl := gw 367 (by decide +kernel) rfl
theorem wd_368 : Cond.instanceMethod yJ4_length_8abf5 ∈ goodTbl := gw 368 (by decide +kernel) rfl
theorem wd_369 : Cond.selects RJ4 yJ4_length_8abf5 yJ4_length_8abf5 ∈ goodTbl := gw 369 (by decide +kernel) rfl
theorem wd_370 : Cond.code yJ4_length_8abf5 cJ4_length_8abf5 1 (some .int) ∈ goodTbl := gw 370 (by decide +kernel) rfl
theorem wd_371 : Cond.methodLink RJ4 343 yJ5_length_8abf5 ∈ goodTbl := gw 371 (by decide +kernel) rfl
theorem wd_372 : Cond.instanceMethod yJ5_length_8abf5 ∈ goodTbl := gw 372 (by decide +kernel) rfl
theorem wd_373 : Cond.code yJ5_length_8abf5 cJ5_length_8abf5 1 (some .int) ∈ goodTbl := gw 373 (by decide +kernel) rfl
theorem wd_374 : Cond.methodLink RX5 293 yJ4_charAt_5068e ∈ goodTbl := gw 374 (by decide +kernel) rfl
theorem wd_375 : Cond.instanceMethod yJ4_charAt_5068e ∈ goodTbl := gw 375 (by decide +kernel) rfl
theorem wd_376 : Cond.selects RJ4 yJ4_charAt_5068e yJ4_charAt_5068e ∈ goodTbl := gw 376 (by decide +kernel) rfl
theorem wd_377 : Cond.code yJ4_charAt_5068e cJ4_charAt_5068e 2 (some .char) ∈ goodTbl := gw 377 (by decide +kernel) rfl
theorem wd_378 : Cond.methodLink RJ4 329 yJ5_charAt_5068e ∈ goodTbl := gw 378 (by decide +kernel) rfl
theorem wd_379 : Cond.instanceMethod yJ5_charAt_5068e ∈ goodTbl := gw 379 (by decide +kernel) rfl
theorem wd_380 : Cond.code yJ5_charAt_5068e cJ5_charAt_5068e 5 (some .char) ∈ goodTbl := gw 380 (by decide +kernel) rfl
theorem wd_381 : Cond.methodLink RJ5 138 Lib.Math.min.name ∈ goodTbl := gw 381 (by decide +kernel) rfl
theorem wd_384 : Cond.methodLink RJ5 144 yJ0_checkIndex_df160 ∈ goodTbl := gw 384 (by decide +kernel) rfl
theorem wd_385 : Cond.static yJ0_checkIndex_df160 ∈ goodTbl := gw 385 (by decide +kernel) rfl
theorem wd_386 : Cond.code yJ0_checkIndex_df160 cJ0_checkIndex_df160 2 none ∈ goodTbl := gw 386 (by decide +kernel) rfl
theorem wd_387 : Cond.fieldLink RJ0 1053 "jdk/internal/util/Preconditions" "SIOOBE_FORMATTER" "Ljava/util/function/BiFunction;" ∈ goodTbl := gw 387 (by decide +kernel) rfl
theorem wd_389 : Cond.methodLink RJ0 1059 yJ3_checkIndex_8e157 ∈ goodTbl := gw 389 (by decide +kernel) rfl
theorem wd_390 : Cond.static yJ3_checkIndex_8e157 ∈ goodTbl := gw 390 (by decide +kernel) rfl
theorem wd_391 : Cond.code yJ3_checkIndex_8e157 cJ3_checkIndex_8e157 3 (some .int) ∈ goodTbl := gw 391 (by decide +kernel) rfl
theorem wd_404 : Cond.fieldLink RX5 64 "ReceiptRolls" "RATES" "[I" ∈ goodTbl := gw 404 (by decide +kernel) rfl
theorem wd_406 : Cond.classLink RX5 73 RX1 ∈ goodTbl := gw 406 (by decide +kernel) rfl
theorem wd_407 : Cond.instantiable RX1 4 ∈ goodTbl := gw 407 (by decide +kernel) rfl
theorem wd_408 : Cond.methodLink RX5 75 yJ4_toString_0e30d ∈ goodTbl := gw 408 (by decide +kernel) rfl
theorem wd_409 : Cond.instanceMethod yJ4_toString_0e30d ∈ goodTbl := gw 409 (by decide +kernel) rfl
theorem wd_410 : Cond.selects RJ4 yJ4_toString_0e30d yJ4_toString_0e30d ∈ goodTbl := gw 410 (by decide +kernel) rfl
theorem wd_411 : Cond.code yJ4_toString_0e30d cJ4_toString_0e30d 1 (some (.object "java/lang/String")) ∈ goodTbl := gw 411 (by decide +kernel) rfl
theorem wd_412 : Cond.classLink RJ4 18 RJ0 ∈ goodTbl := gw 412 (by decide +kernel) rfl
theorem wd_413 : Cond.instantiable RJ0 4 ∈ goodTbl := gw 413 (by decide +kernel) rfl
theorem wd_414 : Cond.methodLink RJ4 137 yJ0_init_81219 ∈ goodTbl := gw 414 (by decide +kernel) rfl
theorem wd_415 : Cond.instanceMethod yJ0_init_81219 ∈ goodTbl := gw 415 (by decide +kernel) rfl
theorem wd_416 : Cond.code yJ0_init_81219 cJ0_init_81219 2 none ∈ goodTbl := gw 416 (by decide +kernel) rfl
theorem wd_417 : Cond.methodLink RJ0 489 yJ0_init_db425 ∈ goodTbl := gw 417 (by decide +kernel) rfl
theorem wd_418 : Cond.instanceMethod yJ0_init_db425 ∈ goodTbl := gw 418 (by decide +kernel) rfl
theorem wd_419 : Cond.code yJ0_init_db425 cJ0_init_db425 5 none ∈ goodTbl := gw 419 (by decide +kernel) rfl
theorem wd_420 : Cond.methodLink RJ0 1 Lib.objectInit ∈ goodTbl := gw 420 (by decide +kernel) rfl
theorem wd_421 : Cond.methodLink RJ0 552 yJ5_getValue_6d5f1 ∈ goodTbl := gw 421 (by decide +kernel) rfl
theorem wd_422 : Cond.instanceMethod yJ5_getValue_6d5f1 ∈ goodTbl := gw 422 (by decide +kernel) rfl
theorem wd_423 : Cond.sameMethod RJ5 RJ5 "getValue" "()[B" ∈ goodTbl := gw 423 (by decide +kernel) rfl
theorem wd_424 : Cond.selects RJ4 yJ5_getValue_6d5f1 yJ5_getValue_6d5f1 ∈ goodTbl := gw 424 (by decide +kernel) rfl
theorem wd_425 : Cond.code yJ5_getValue_6d5f1 cJ5_getValue_6d5f1 1 (some (.array .byte)) ∈ goodTbl := gw 425 (by decide +kernel) rfl
theorem wd_426 : Cond.methodLink RJ0 549 yJ5_length_8abf5 ∈ goodTbl := gw 426 (by decide +kernel) rfl
theorem wd_427 : Cond.methodLink RJ0 1047 yJ5_isLatin1_aae02 ∈ goodTbl := gw 427 (by decide +kernel) rfl
theorem wd_428 : Cond.instanceMethod yJ5_isLatin1_aae02 ∈ goodTbl := gw 428 (by decide +kernel) rfl
theorem wd_429 : Cond.sameMethod RJ5 RJ5 "isLatin1" "()Z" ∈ goodTbl := gw 429 (by decide +kernel) rfl
theorem wd_430 : Cond.selects RJ4 yJ5_isLatin1_aae02 yJ5_isLatin1_aae02 ∈ goodTbl := gw 430 (by decide +kernel) rfl
theorem wd_431 : Cond.code yJ5_isLatin1_aae02 cJ5_isLatin1_aae02 1 (some .boolean) ∈ goodTbl := gw 431 (by decide +kernel) rfl
theorem wd_432 : Cond.methodLink RJ0 54 yJ7_copyOfRange_39247 ∈ goodTbl := gw 432 (by decide +kernel) rfl
theorem wd_433 : Cond.static yJ7_copyOfRange_39247 ∈ goodTbl := gw 433 (by decide +kernel) rfl
theorem wd_434 : Cond.code yJ7_copyOfRange_39247 cJ7_copyOfRange_39247 3 (some (.array .byte)) ∈ goodTbl := gw 434 (by decide +kernel) rfl
theorem wd_435 : Cond.methodLink RJ7 339 yJ7_copyOfRangeByte_39247 ∈ goodTbl := gw 435 (by decide +kernel) rfl
theorem wd_436 : Cond.static yJ7_copyOfRangeByte_39247 ∈ goodTbl := gw 436 (by decide +kernel) rfl
theorem wd_437 : Cond.code yJ7_copyOfRangeByte_39247 cJ7_copyOfRangeByte_39247 5 (some (.array .byte)) ∈ goodTbl := gw 437 (by decide +kernel) rfl
theorem wd_438 : Cond.methodLink RJ7 343 yJ7_checkLength_df160 ∈ goodTbl := gw 438 (by decide +kernel) rfl
theorem wd_439 : Cond.static yJ7_checkLength_df160 ∈ goodTbl := gw 439 (by decide +kernel) rfl
theorem wd_440 : Cond.code yJ7_checkLength_df160 cJ7_checkLength_df160 2 none ∈ goodTbl := gw 440 (by decide +kernel) rfl
theorem wd_441 : Cond.methodLink RJ7 304 Lib.Math.min.name ∈ goodTbl := gw 441 (by decide +kernel) rfl
theorem wd_442 : Cond.methodLink RJ7 150 arraycopyName ∈ goodTbl := gw 442 (by decide +kernel) rfl
theorem wd_445 : Cond.methodLink RJ7 310 ⟨"[B", "clone", "()Ljava/lang/Object;"⟩ ∈ goodTbl := gw 445 (by decide +kernel) rfl
theorem wd_451 : Cond.classLink RJ7 311 "[B" ∈ goodTbl := gw 451 (by decide +kernel) rfl
theorem wd_452 : Cond.fieldLink RJ0 38 "java/lang/String" "COMPACT_STRINGS" "Z" ∈ goodTbl := gw 452 (by decide +kernel) rfl
theorem wd_473 : Cond.fieldLink RJ0 9 "java/lang/String" "value" "[B" ∈ goodTbl := gw 473 (by decide +kernel) rfl
theorem wd_474 : Cond.fieldLink RJ0 15 "java/lang/String" "coder" "B" ∈ goodTbl := gw 474 (by decide +kernel) rfl
theorem wd_484 : Cond.methodLink RX5 79 yX1_init ∈ goodTbl := gw 484 (by decide +kernel) rfl
theorem wd_485 : Cond.instanceMethod yX1_init ∈ goodTbl := gw 485 (by decide +kernel) rfl
theorem wd_486 : Cond.code yX1_init cX1_init 5 none ∈ goodTbl := gw 486 (by decide +kernel) rfl
theorem wd_487 : Cond.methodLink RX1 1 Lib.objectInit ∈ goodTbl := gw 487 (by decide +kernel) rfl
theorem wd_488 : Cond.fieldLink RX1 7 "ReceiptRolls$Item" "name" "Ljava/lang/String;" ∈ goodTbl := gw 488 (by decide +kernel) rfl
theorem wd_489 : Cond.fieldLink RX3 103 "ReceiptRolls$Item" "name" "Ljava/lang/String;" ∈ goodTbl := gw 489 (by decide +kernel) rfl
theorem wd_490 : Cond.fieldLink RX5 194 "ReceiptRolls$Item" "name" "Ljava/lang/String;" ∈ goodTbl := gw 490 (by decide +kernel) rfl
theorem wd_491 : Cond.fieldLink RX1 13 "ReceiptRolls$Item" "many" "I" ∈ goodTbl := gw 491 (by decide +kernel) rfl
theorem wd_492 : Cond.fieldLink RX3 96 "ReceiptRolls$Item" "many" "I" ∈ goodTbl := gw 492 (by decide +kernel) rfl
theorem wd_493 : Cond.fieldLink RX5 181 "ReceiptRolls$Item" "many" "I" ∈ goodTbl := gw 493 (by decide +kernel) rfl
theorem wd_494 : Cond.fieldLink RX1 17 "ReceiptRolls$Item" "price" "I" ∈ goodTbl := gw 494 (by decide +kernel) rfl
theorem wd_495 : Cond.fieldLink RX5 184 "ReceiptRolls$Item" "price" "I" ∈ goodTbl := gw 495 (by decide +kernel) rfl
theorem wd_496 : Cond.fieldLink RX1 20 "ReceiptRolls$Item" "tax" "I" ∈ goodTbl := gw 496 (by decide +kernel) rfl
theorem wd_497 : Cond.fieldLink RX5 187 "ReceiptRolls$Item" "tax" "I" ∈ goodTbl := gw 497 (by decide +kernel) rfl
theorem wd_498 : Cond.fieldLink RX2 79 "ReceiptRolls$Item" "tax" "I" ∈ goodTbl := gw 498 (by decide +kernel) rfl
theorem wd_508 : Cond.methodLink RX5 82 yX2_addItem ∈ goodTbl := gw 508 (by decide +kernel) rfl
theorem wd_509 : Cond.instanceMethod yX2_addItem ∈ goodTbl := gw 509 (by decide +kernel) rfl
theorem wd_510 : Cond.selects RX2 yX2_addItem yX2_addItem ∈ goodTbl := gw 510 (by decide +kernel) rfl
theorem wd_511 : Cond.code yX2_addItem cX2_addItem 2 none ∈ goodTbl := gw 511 (by decide +kernel) rfl
theorem wd_512 : Cond.methodLink RX2 64 yX2_addEvent ∈ goodTbl := gw 512 (by decide +kernel) rfl
theorem wd_514 : Cond.instanceMethod yX2_addEvent ∈ goodTbl := gw 514 (by decide +kernel) rfl
theorem wd_515 : Cond.code yX2_addEvent cX2_addEvent 2 none ∈ goodTbl := gw 515 (by decide +kernel) rfl
theorem wd_516 : Cond.methodLink RX5 86 yJ4_setLength_d00df ∈ goodTbl := gw 516 (by decide +kernel) rfl
theorem wd_517 : Cond.instanceMethod yJ4_setLength_d00df ∈ goodTbl := gw 517 (by decide +kernel) rfl
theorem wd_518 : Cond.selects RJ4 yJ4_setLength_d00df yJ4_setLength_d00df ∈ goodTbl := gw 518 (by decide +kernel) rfl
theorem wd_519 : Cond.code yJ4_setLength_d00df cJ4_setLength_d00df 2 none ∈ goodTbl := gw 519 (by decide +kernel) rfl
theorem wd_520 : Cond.methodLink RJ4 333 yJ5_setLength_d00df ∈ goodTbl := gw 520 (by decide +kernel) rfl
theorem wd_521 : Cond.instanceMethod yJ5_setLength_d00df ∈ goodTbl := gw 521 (by decide +kernel) rfl
theorem wd_522 : Cond.code yJ5_setLength_d00df cJ5_setLength_d00df 2 none ∈ goodTbl := gw 522 (by decide +kernel) rfl
theorem wd_523 : Cond.methodLink RJ5 100 yJ5_ensureCapacityInternal_d00df ∈ goodTbl := gw 523 (by decide +kernel) rfl
theorem wd_525 : Cond.instanceMethod yJ5_ensureCapacityInternal_d00df ∈ goodTbl := gw 525 (by decide +kernel) rfl
theorem wd_526 : Cond.code yJ5_ensureCapacityInternal_d00df cJ5_ensureCapacityInternal_d00df 3 none ∈ goodTbl := gw 526 (by decide +kernel) rfl
theorem wd_527 : Cond.methodLink RJ5 104 yJ5_newCapacity_0f7a4 ∈ goodTbl := gw 527 (by decide +kernel) rfl
theorem wd_529 : Cond.instanceMethod yJ5_newCapacity_0f7a4 ∈ goodTbl := gw 529 (by decide +kernel) rfl
theorem wd_530 : Cond.code yJ5_newCapacity_0f7a4 cJ5_newCapacity_0f7a4 6 (some .int) ∈ goodTbl := gw 530 (by decide +kernel) rfl
theorem wd_531 : Cond.methodLink RJ5 114 yJ8_newLength_cabcc ∈ goodTbl := gw 531 (by decide +kernel) rfl
theorem wd_532 : Cond.static yJ8_newLength_cabcc ∈ goodTbl := gw 532 (by decide +kernel) rfl
theorem wd_533 : Cond.code yJ8_newLength_cabcc cJ8_newLength_cabcc 4 (some .int) ∈ goodTbl := gw 533 (by decide +kernel) rfl
theorem wd_534 : Cond.methodLink RJ8 194 Lib.Math.max.name ∈ goodTbl := gw 534 (by decide +kernel) rfl
theorem wd_537 : Cond.constant RJ8 200 (2147483639 : Int32) ∈ goodTbl := gw 537 (by decide +kernel) rfl
theorem wd_541 : Cond.constant RJ5 39 (2147483647 : Int32) ∈ goodTbl := gw 541 (by decide +kernel) rfl
theorem wd_542 : Cond.methodLink RJ5 108 yJ7_copyOf_9075b ∈ goodTbl := gw 542 (by decide +kernel) rfl
theorem wd_543 : Cond.static yJ7_copyOf_9075b ∈ goodTbl := gw 543 (by decide +kernel) rfl
theorem wd_544 : Cond.code yJ7_copyOf_9075b cJ7_copyOf_9075b 3 (some (.array .byte)) ∈ goodTbl := gw 544 (by decide +kernel) rfl
theorem wd_545 : Cond.methodLink RJ5 83 yJ5_isLatin1_aae02 ∈ goodTbl := gw 545 (by decide +kernel) rfl
theorem wd_546 : Cond.methodLink RJ5 133 yJ1_fillNull_b72d1 ∈ goodTbl := gw 546 (by decide +kernel) rfl
theorem wd_547 : Cond.static yJ1_fillNull_b72d1 ∈ goodTbl := gw 547 (by decide +kernel) rfl
theorem wd_548 : Cond.code yJ1_fillNull_b72d1 cJ1_fillNull_b72d1 3 none ∈ goodTbl := gw 548 (by decide +kernel) rfl
theorem wd_549 : Cond.methodLink RJ1 236 yJ7_fill_eb02e ∈ goodTbl := gw 549 (by decide +kernel) rfl
theorem wd_550 : Cond.static yJ7_fill_eb02e ∈ goodTbl := gw 550 (by decide +kernel) rfl
theorem wd_551 : Cond.code yJ7_fill_eb02e cJ7_fill_eb02e 5 none ∈ goodTbl := gw 551 (by decide +kernel) rfl
theorem wd_552 : Cond.methodLink RJ7 13 yJ7_rangeCheck_23922 ∈ goodTbl := gw 552 (by decide +kernel) rfl
theorem wd_553 : Cond.static yJ7_rangeCheck_23922 ∈ goodTbl := gw 553 (by decide +kernel) rfl
theorem wd_554 : Cond.code yJ7_rangeCheck_23922 cJ7_rangeCheck_23922 3 none ∈ goodTbl := gw 554 (by decide +kernel) rfl
theorem wd_559 : Cond.methodLink RL 23 yX5_strike ∈ goodTbl := gw 559 (by decide +kernel) rfl
theorem wd_560 : Cond.instanceMethod yX5_strike ∈ goodTbl := gw 560 (by decide +kernel) rfl
theorem wd_561 : Cond.selects RX5 yX5_strike yX5_strike ∈ goodTbl := gw 561 (by decide +kernel) rfl
theorem wd_562 : Cond.code yX5_strike cX5_strike 5 (some .int) ∈ goodTbl := gw 562 (by decide +kernel) rfl
theorem wd_563 : Cond.methodLink RX5 90 yX2_itemAt ∈ goodTbl := gw 563 (by decide +kernel) rfl
theorem wd_564 : Cond.instanceMethod yX2_itemAt ∈ goodTbl := gw 564 (by decide +kernel) rfl
theorem wd_565 : Cond.selects RX2 yX2_itemAt yX2_itemAt ∈ goodTbl := gw 565 (by decide +kernel) rfl
theorem wd_566 : Cond.code yX2_itemAt cX2_itemAt 2 (some (.object "ReceiptRolls$Item")) ∈ goodTbl := gw 566 (by decide +kernel) rfl
theorem wd_567 : Cond.methodLink RX5 94 yX2_isStruck ∈ goodTbl := gw 567 (by decide +kernel) rfl
theorem wd_568 : Cond.instanceMethod yX2_isStruck ∈ goodTbl := gw 568 (by decide +kernel) rfl
theorem wd_569 : Cond.selects RX2 yX2_isStruck yX2_isStruck ∈ goodTbl := gw 569 (by decide +kernel) rfl
theorem wd_570 : Cond.code yX2_isStruck cX2_isStruck 2 (some .boolean) ∈ goodTbl := gw 570 (by decide +kernel) rfl
theorem wd_571 : Cond.methodLink RX5 98 yX2_strikeItem ∈ goodTbl := gw 571 (by decide +kernel) rfl
theorem wd_572 : Cond.instanceMethod yX2_strikeItem ∈ goodTbl := gw 572 (by decide +kernel) rfl
theorem wd_573 : Cond.selects RX2 yX2_strikeItem yX2_strikeItem ∈ goodTbl := gw 573 (by decide +kernel) rfl
theorem wd_574 : Cond.code yX2_strikeItem cX2_strikeItem 2 none ∈ goodTbl := gw 574 (by decide +kernel) rfl
theorem wd_575 : Cond.methodLink RX5 104 yX1_sum ∈ goodTbl := gw 575 (by decide +kernel) rfl
theorem wd_576 : Cond.instanceMethod yX1_sum ∈ goodTbl := gw 576 (by decide +kernel) rfl
theorem wd_577 : Cond.selects RX1 yX1_sum yX1_sum ∈ goodTbl := gw 577 (by decide +kernel) rfl
theorem wd_578 : Cond.code yX1_sum cX1_sum 1 (some .int) ∈ goodTbl := gw 578 (by decide +kernel) rfl
theorem wd_579 : Cond.methodLink RL 27 yX5_close ∈ goodTbl := gw 579 (by decide +kernel) rfl
theorem wd_580 : Cond.instanceMethod yX5_close ∈ goodTbl := gw 580 (by decide +kernel) rfl
theorem wd_581 : Cond.selects RX5 yX5_close yX5_close ∈ goodTbl := gw 581 (by decide +kernel) rfl
theorem wd_582 : Cond.code yX5_close cX5_close 5 (some .int) ∈ goodTbl := gw 582 (by decide +kernel) rfl
theorem wd_583 : Cond.methodLink RX5 107 yX5_isPriority ∈ goodTbl := gw 583 (by decide +kernel) rfl
theorem wd_584 : Cond.static yX5_isPriority ∈ goodTbl := gw 584 (by decide +kernel) rfl
theorem wd_585 : Cond.code yX5_isPriority cX5_isPriority 1 (some .boolean) ∈ goodTbl := gw 585 (by decide +kernel) rfl
theorem wd_586 : Cond.methodLink RX5 110 yX4_freePlace ∈ goodTbl := gw 586 (by decide +kernel) rfl
theorem wd_587 : Cond.instanceMethod yX4_freePlace ∈ goodTbl := gw 587 (by decide +kernel) rfl
theorem wd_588 : Cond.selects RX4 yX4_freePlace yX4_freePlace ∈ goodTbl := gw 588 (by decide +kernel) rfl
theorem wd_589 : Cond.code yX4_freePlace cX4_freePlace 2 (some (.object "ReceiptRolls$Receipt")) ∈ goodTbl := gw 589 (by decide +kernel) rfl
theorem wd_590 : Cond.methodLink RX5 120 yX5_layLines ∈ goodTbl := gw 590 (by decide +kernel) rfl
theorem wd_592 : Cond.instanceMethod yX5_layLines ∈ goodTbl := gw 592 (by decide +kernel) rfl
theorem wd_593 : Cond.code yX5_layLines cX5_layLines 3 (some .int) ∈ goodTbl := gw 593 (by decide +kernel) rfl
theorem wd_594 : Cond.methodLink RX5 264 yX3_lay ∈ goodTbl := gw 594 (by decide +kernel) rfl
theorem wd_595 : Cond.instanceMethod yX3_lay ∈ goodTbl := gw 595 (by decide +kernel) rfl
theorem wd_596 : Cond.selects RX3 yX3_lay yX3_lay ∈ goodTbl := gw 596 (by decide +kernel) rfl
theorem wd_597 : Cond.code yX3_lay cX3_lay 8 (some .int) ∈ goodTbl := gw 597 (by decide +kernel) rfl
theorem wd_598 : Cond.methodLink RX3 15 yX3_begin ∈ goodTbl := gw 598 (by decide +kernel) rfl
theorem wd_600 : Cond.instanceMethod yX3_begin ∈ goodTbl := gw 600 (by decide +kernel) rfl
theorem wd_601 : Cond.code yX3_begin cX3_begin 4 none ∈ goodTbl := gw 601 (by decide +kernel) rfl
theorem wd_603 : Cond.methodLink RX3 21 yX3_addText ∈ goodTbl := gw 603 (by decide +kernel) rfl
theorem wd_605 : Cond.instanceMethod yX3_addText ∈ goodTbl := gw 605 (by decide +kernel) rfl
theorem wd_606 : Cond.code yX3_addText cX3_addText 3 none ∈ goodTbl := gw 606 (by decide +kernel) rfl
theorem wd_607 : Cond.methodLink RX3 107 yJ0_length_8abf5 ∈ goodTbl := gw 607 (by decide +kernel) rfl
theorem wd_608 : Cond.instanceMethod yJ0_length_8abf5 ∈ goodTbl := gw 608 (by decide +kernel) rfl
theorem wd_609 : Cond.selects RJ0 yJ0_length_8abf5 yJ0_length_8abf5 ∈ goodTbl := gw 609 (by decide +kernel) rfl
theorem wd_610 : Cond.code yJ0_length_8abf5 cJ0_length_8abf5 1 (some .int) ∈ goodTbl := gw 610 (by decide +kernel) rfl
theorem wd_611 : Cond.methodLink RJ0 335 yJ0_coder_7d493 ∈ goodTbl := gw 611 (by decide +kernel) rfl
theorem wd_612 : Cond.instanceMethod yJ0_coder_7d493 ∈ goodTbl := gw 612 (by decide +kernel) rfl
theorem wd_613 : Cond.selects RJ0 yJ0_coder_7d493 yJ0_coder_7d493 ∈ goodTbl := gw 613 (by decide +kernel) rfl
theorem wd_614 : Cond.code yJ0_coder_7d493 cJ0_coder_7d493 1 (some .byte) ∈ goodTbl := gw 614 (by decide +kernel) rfl
theorem wd_615 : Cond.methodLink RX3 112 yJ0_charAt_5068e ∈ goodTbl := gw 615 (by decide +kernel) rfl
theorem wd_616 : Cond.instanceMethod yJ0_charAt_5068e ∈ goodTbl := gw 616 (by decide +kernel) rfl
theorem wd_617 : Cond.selects RJ0 yJ0_charAt_5068e yJ0_charAt_5068e ∈ goodTbl := gw 617 (by decide +kernel) rfl
theorem wd_618 : Cond.code yJ0_charAt_5068e cJ0_charAt_5068e 2 (some .char) ∈ goodTbl := gw 618 (by decide +kernel) rfl
theorem wd_619 : Cond.methodLink RJ0 492 yJ0_isLatin1_aae02 ∈ goodTbl := gw 619 (by decide +kernel) rfl
theorem wd_620 : Cond.instanceMethod yJ0_isLatin1_aae02 ∈ goodTbl := gw 620 (by decide +kernel) rfl
theorem wd_621 : Cond.selects RJ0 yJ0_isLatin1_aae02 yJ0_isLatin1_aae02 ∈ goodTbl := gw 621 (by decide +kernel) rfl
theorem wd_622 : Cond.code yJ0_isLatin1_aae02 cJ0_isLatin1_aae02 1 (some .boolean) ∈ goodTbl := gw 622 (by decide +kernel) rfl
theorem wd_623 : Cond.methodLink RJ0 495 yJ1_charAt_3b067 ∈ goodTbl := gw 623 (by decide +kernel) rfl
theorem wd_624 : Cond.static yJ1_charAt_3b067 ∈ goodTbl := gw 624 (by decide +kernel) rfl
theorem wd_625 : Cond.code yJ1_charAt_3b067 cJ1_charAt_3b067 2 (some .char) ∈ goodTbl := gw 625 (by decide +kernel) rfl
theorem wd_626 : Cond.methodLink RJ1 9 yJ0_checkIndex_df160 ∈ goodTbl := gw 626 (by decide +kernel) rfl
theorem wd_634 : Cond.methodLink RX3 99 yX3_addSign ∈ goodTbl := gw 634 (by decide +kernel) rfl
theorem wd_636 : Cond.instanceMethod yX3_addSign ∈ goodTbl := gw 636 (by decide +kernel) rfl
theorem wd_637 : Cond.code yX3_addSign cX3_addSign 2 none ∈ goodTbl := gw 637 (by decide +kernel) rfl
theorem wd_638 : Cond.methodLink RX3 25 yX3_addNumber ∈ goodTbl := gw 638 (by decide +kernel) rfl
theorem wd_640 : Cond.instanceMethod yX3_addNumber ∈ goodTbl := gw 640 (by decide +kernel) rfl
theorem wd_641 : Cond.code yX3_addNumber cX3_addNumber 3 none ∈ goodTbl := gw 641 (by decide +kernel) rfl
theorem wd_642 : Cond.constant RX3 125 (1000000000 : Int32) ∈ goodTbl := gw 642 (by decide +kernel) rfl
theorem wd_643 : Cond.methodLink RX3 29 yX3_endLine ∈ goodTbl := gw 643 (by decide +kernel) rfl
theorem wd_645 : Cond.instanceMethod yX3_endLine ∈ goodTbl := gw 645 (by decide +kernel) rfl
theorem wd_646 : Cond.code yX3_endLine cX3_endLine 1 none ∈ goodTbl := gw 646 (by decide +kernel) rfl
theorem wd_647 : Cond.methodLink RX3 42 yX2_itemAt ∈ goodTbl := gw 647 (by decide +kernel) rfl
theorem wd_648 : Cond.methodLink RX3 46 yX3_layItem ∈ goodTbl := gw 648 (by decide +kernel) rfl
theorem wd_650 : Cond.instanceMethod yX3_layItem ∈ goodTbl := gw 650 (by decide +kernel) rfl
theorem wd_651 : Cond.code yX3_layItem cX3_layItem 5 none ∈ goodTbl := gw 651 (by decide +kernel) rfl
theorem wd_652 : Cond.methodLink RX3 116 yX3_layWord ∈ goodTbl := gw 652 (by decide +kernel) rfl
theorem wd_654 : Cond.instanceMethod yX3_layWord ∈ goodTbl := gw 654 (by decide +kernel) rfl
theorem wd_655 : Cond.code yX3_layWord cX3_layWord 7 none ∈ goodTbl := gw 655 (by decide +kernel) rfl
theorem wd_656 : Cond.methodLink RX3 119 Lib.Math.max.name ∈ goodTbl := gw 656 (by decide +kernel) rfl
theorem wd_657 : Cond.methodLink RX3 52 yX1_sum ∈ goodTbl := gw 657 (by decide +kernel) rfl
theorem wd_658 : Cond.methodLink RX3 66 yX3_addMoney ∈ goodTbl := gw 658 (by decide +kernel) rfl
theorem wd_660 : Cond.instanceMethod yX3_addMoney ∈ goodTbl := gw 660 (by decide +kernel) rfl
theorem wd_661 : Cond.code yX3_addMoney cX3_addMoney 4 none ∈ goodTbl := gw 661 (by decide +kernel) rfl
theorem wd_662 : Cond.methodLink RX3 126 Lib.Math.abs.name ∈ goodTbl := gw 662 (by decide +kernel) rfl
theorem wd_665 : Cond.methodLink RX3 129 yX3_digitsOf ∈ goodTbl := gw 665 (by decide +kernel) rfl
theorem wd_666 : Cond.static yX3_digitsOf ∈ goodTbl := gw 666 (by decide +kernel) rfl
theorem wd_667 : Cond.code yX3_digitsOf cX3_digitsOf 3 (some .int) ∈ goodTbl := gw 667 (by decide +kernel) rfl
theorem wd_669 : Cond.methodLink RX3 58 yX3_layTold ∈ goodTbl := gw 669 (by decide +kernel) rfl
theorem wd_671 : Cond.instanceMethod yX3_layTold ∈ goodTbl := gw 671 (by decide +kernel) rfl
theorem wd_672 : Cond.code yX3_layTold cX3_layTold 4 none ∈ goodTbl := gw 672 (by decide +kernel) rfl
theorem wd_674 : Cond.methodLink RX3 63 yX2_total ∈ goodTbl := gw 674 (by decide +kernel) rfl
theorem wd_675 : Cond.instanceMethod yX2_total ∈ goodTbl := gw 675 (by decide +kernel) rfl
theorem wd_676 : Cond.selects RX2 yX2_total yX2_total ∈ goodTbl := gw 676 (by decide +kernel) rfl
theorem wd_677 : Cond.code yX2_total cX2_total 1 (some .int) ∈ goodTbl := gw 677 (by decide +kernel) rfl
theorem wd_678 : Cond.methodLink RX2 68 yX2_totalWithout ∈ goodTbl := gw 678 (by decide +kernel) rfl
theorem wd_679 : Cond.instanceMethod yX2_totalWithout ∈ goodTbl := gw 679 (by decide +kernel) rfl
theorem wd_680 : Cond.selects RX2 yX2_totalWithout yX2_totalWithout ∈ goodTbl := gw 680 (by decide +kernel) rfl
theorem wd_681 : Cond.code yX2_totalWithout cX2_totalWithout 5 (some .int) ∈ goodTbl := gw 681 (by decide +kernel) rfl
theorem wd_682 : Cond.methodLink RX2 71 yX2_itemAt ∈ goodTbl := gw 682 (by decide +kernel) rfl
theorem wd_683 : Cond.methodLink RX2 75 yX1_sum ∈ goodTbl := gw 683 (by decide +kernel) rfl
theorem wd_685 : Cond.methodLink RX3 72 yX2_sumTaxed ∈ goodTbl := gw 685 (by decide +kernel) rfl
theorem wd_686 : Cond.instanceMethod yX2_sumTaxed ∈ goodTbl := gw 686 (by decide +kernel) rfl
theorem wd_687 : Cond.selects RX2 yX2_sumTaxed yX2_sumTaxed ∈ goodTbl := gw 687 (by decide +kernel) rfl
theorem wd_688 : Cond.code yX2_sumTaxed cX2_sumTaxed 5 (some .int) ∈ goodTbl := gw 688 (by decide +kernel) rfl
theorem wd_689 : Cond.methodLink RX2 82 yX2_isStruck ∈ goodTbl := gw 689 (by decide +kernel) rfl
theorem wd_691 : Cond.methodLink RX3 78 yX2_taxOf ∈ goodTbl := gw 691 (by decide +kernel) rfl
theorem wd_692 : Cond.instanceMethod yX2_taxOf ∈ goodTbl := gw 692 (by decide +kernel) rfl
theorem wd_693 : Cond.selects RX2 yX2_taxOf yX2_taxOf ∈ goodTbl := gw 693 (by decide +kernel) rfl
theorem wd_694 : Cond.code yX2_taxOf cX2_taxOf 4 (some .int) ∈ goodTbl := gw 694 (by decide +kernel) rfl
theorem wd_696 : Cond.methodLink RX2 89 yX2_sumTaxed ∈ goodTbl := gw 696 (by decide +kernel) rfl
theorem wd_697 : Cond.methodLink RX5 156 yX4_settingAt ∈ goodTbl := gw 697 (by decide +kernel) rfl
theorem wd_698 : Cond.methodLink RX5 124 yX2_copyFrom ∈ goodTbl := gw 698 (by decide +kernel) rfl
theorem wd_699 : Cond.methodLink RX5 134 yX2_closeAs ∈ goodTbl := gw 699 (by decide +kernel) rfl
theorem wd_700 : Cond.instanceMethod yX2_closeAs ∈ goodTbl := gw 700 (by decide +kernel) rfl
theorem wd_701 : Cond.selects RX2 yX2_closeAs yX2_closeAs ∈ goodTbl := gw 701 (by decide +kernel) rfl
theorem wd_702 : Cond.code yX2_closeAs cX2_closeAs 6 none ∈ goodTbl := gw 702 (by decide +kernel) rfl
theorem wd_703 : Cond.methodLink RX5 138 yX2_clear ∈ goodTbl := gw 703 (by decide +kernel) rfl
theorem wd_704 : Cond.instanceMethod yX2_clear ∈ goodTbl := gw 704 (by decide +kernel) rfl
theorem wd_705 : Cond.selects RX2 yX2_clear yX2_clear ∈ goodTbl := gw 705 (by decide +kernel) rfl
theorem wd_706 : Cond.code yX2_clear cX2_clear 1 none ∈ goodTbl := gw 706 (by decide +kernel) rfl
theorem wd_707 : Cond.methodLink RL 31 yX5_hurry ∈ goodTbl := gw 707 (by decide +kernel) rfl
theorem wd_708 : Cond.instanceMethod yX5_hurry ∈ goodTbl := gw 708 (by decide +kernel) rfl
theorem wd_709 : Cond.selects RX5 yX5_hurry yX5_hurry ∈ goodTbl := gw 709 (by decide +kernel) rfl
theorem wd_710 : Cond.code yX5_hurry cX5_hurry 5 (some .int) ∈ goodTbl := gw 710 (by decide +kernel) rfl
theorem wd_711 : Cond.methodLink RX5 141 yX4_known ∈ goodTbl := gw 711 (by decide +kernel) rfl
theorem wd_712 : Cond.instanceMethod yX4_known ∈ goodTbl := gw 712 (by decide +kernel) rfl
theorem wd_713 : Cond.selects RX4 yX4_known yX4_known ∈ goodTbl := gw 713 (by decide +kernel) rfl
theorem wd_714 : Cond.code yX4_known cX4_known 4 (some (.object "ReceiptRolls$Receipt")) ∈ goodTbl := gw 714 (by decide +kernel) rfl
theorem wd_715 : Cond.methodLink RX4 71 yX4_places ∈ goodTbl := gw 715 (by decide +kernel) rfl
theorem wd_716 : Cond.instanceMethod yX4_places ∈ goodTbl := gw 716 (by decide +kernel) rfl
theorem wd_717 : Cond.selects RX4 yX4_places yX4_places ∈ goodTbl := gw 717 (by decide +kernel) rfl
theorem wd_718 : Cond.code yX4_places cX4_places 1 (some .int) ∈ goodTbl := gw 718 (by decide +kernel) rfl
theorem wd_719 : Cond.methodLink RX4 75 yX4_placeAt ∈ goodTbl := gw 719 (by decide +kernel) rfl
theorem wd_720 : Cond.instanceMethod yX4_placeAt ∈ goodTbl := gw 720 (by decide +kernel) rfl
theorem wd_721 : Cond.selects RX4 yX4_placeAt yX4_placeAt ∈ goodTbl := gw 721 (by decide +kernel) rfl
theorem wd_722 : Cond.code yX4_placeAt cX4_placeAt 3 (some (.object "ReceiptRolls$Receipt")) ∈ goodTbl := gw 722 (by decide +kernel) rfl
theorem wd_723 : Cond.methodLink RL 35 yX5_newRoll ∈ goodTbl := gw 723 (by decide +kernel) rfl
theorem wd_724 : Cond.instanceMethod yX5_newRoll ∈ goodTbl := gw 724 (by decide +kernel) rfl
theorem wd_725 : Cond.selects RX5 yX5_newRoll yX5_newRoll ∈ goodTbl := gw 725 (by decide +kernel) rfl
theorem wd_726 : Cond.code yX5_newRoll cX5_newRoll 2 (some .int) ∈ goodTbl := gw 726 (by decide +kernel) rfl
theorem wd_727 : Cond.methodLink RL 40 yX5_tear ∈ goodTbl := gw 727 (by decide +kernel) rfl
theorem wd_728 : Cond.instanceMethod yX5_tear ∈ goodTbl := gw 728 (by decide +kernel) rfl
theorem wd_729 : Cond.selects RX5 yX5_tear yX5_tear ∈ goodTbl := gw 729 (by decide +kernel) rfl
theorem wd_730 : Cond.code yX5_tear cX5_tear 4 (some .int) ∈ goodTbl := gw 730 (by decide +kernel) rfl
theorem wd_731 : Cond.methodLink RL 45 yX5_pass ∈ goodTbl := gw 731 (by decide +kernel) rfl
theorem wd_732 : Cond.instanceMethod yX5_pass ∈ goodTbl := gw 732 (by decide +kernel) rfl
theorem wd_733 : Cond.selects RX5 yX5_pass yX5_pass ∈ goodTbl := gw 733 (by decide +kernel) rfl
theorem wd_734 : Cond.code yX5_pass cX5_pass 4 (some .int) ∈ goodTbl := gw 734 (by decide +kernel) rfl
theorem wd_735 : Cond.methodLink RX5 178 yX4_tick ∈ goodTbl := gw 735 (by decide +kernel) rfl
theorem wd_736 : Cond.instanceMethod yX4_tick ∈ goodTbl := gw 736 (by decide +kernel) rfl
theorem wd_737 : Cond.selects RX4 yX4_tick yX4_tick ∈ goodTbl := gw 737 (by decide +kernel) rfl
theorem wd_738 : Cond.code yX4_tick cX4_tick 2 (some .int) ∈ goodTbl := gw 738 (by decide +kernel) rfl
theorem wd_739 : Cond.methodLink RX4 90 yX4_printLine ∈ goodTbl := gw 739 (by decide +kernel) rfl
theorem wd_741 : Cond.instanceMethod yX4_printLine ∈ goodTbl := gw 741 (by decide +kernel) rfl
theorem wd_742 : Cond.code yX4_printLine cX4_printLine 2 (some .boolean) ∈ goodTbl := gw 742 (by decide +kernel) rfl
theorem wd_743 : Cond.methodLink RX4 94 yX4_takeReceipt ∈ goodTbl := gw 743 (by decide +kernel) rfl
theorem wd_745 : Cond.instanceMethod yX4_takeReceipt ∈ goodTbl := gw 745 (by decide +kernel) rfl
theorem wd_746 : Cond.code yX4_takeReceipt cX4_takeReceipt 2 (some (.object "ReceiptRolls$Receipt")) ∈ goodTbl := gw 746 (by decide +kernel) rfl
theorem wd_747 : Cond.methodLink RX4 107 yX4_known ∈ goodTbl := gw 747 (by decide +kernel) rfl
theorem wd_748 : Cond.methodLink RX4 110 yX4_waitingAt ∈ goodTbl := gw 748 (by decide +kernel) rfl
theorem wd_749 : Cond.instanceMethod yX4_waitingAt ∈ goodTbl := gw 749 (by decide +kernel) rfl
theorem wd_750 : Cond.selects RX4 yX4_waitingAt yX4_waitingAt ∈ goodTbl := gw 750 (by decide +kernel) rfl
theorem wd_751 : Cond.code yX4_waitingAt cX4_waitingAt 4 (some (.object "ReceiptRolls$Receipt")) ∈ goodTbl := gw 751 (by decide +kernel) rfl
theorem wd_752 : Cond.methodLink RX4 82 yX4_waitingAheadOf ∈ goodTbl := gw 752 (by decide +kernel) rfl
theorem wd_754 : Cond.instanceMethod yX4_waitingAheadOf ∈ goodTbl := gw 754 (by decide +kernel) rfl
theorem wd_755 : Cond.code yX4_waitingAheadOf cX4_waitingAheadOf 5 (some .int) ∈ goodTbl := gw 755 (by decide +kernel) rfl
theorem wd_756 : Cond.methodLink RX4 86 yX2_isAheadOf ∈ goodTbl := gw 756 (by decide +kernel) rfl
theorem wd_757 : Cond.instanceMethod yX2_isAheadOf ∈ goodTbl := gw 757 (by decide +kernel) rfl
theorem wd_758 : Cond.selects RX2 yX2_isAheadOf yX2_isAheadOf ∈ goodTbl := gw 758 (by decide +kernel) rfl
theorem wd_759 : Cond.code yX2_isAheadOf cX2_isAheadOf 2 (some .boolean) ∈ goodTbl := gw 759 (by decide +kernel) rfl
theorem wd_760 : Cond.methodLink RX4 104 yX4_finish ∈ goodTbl := gw 760 (by decide +kernel) rfl
theorem wd_762 : Cond.instanceMethod yX4_finish ∈ goodTbl := gw 762 (by decide +kernel) rfl
theorem wd_763 : Cond.code yX4_finish cX4_finish 4 none ∈ goodTbl := gw 763 (by decide +kernel) rfl
theorem wd_764 : Cond.methodLink RX4 119 yX2_clear ∈ goodTbl := gw 764 (by decide +kernel) rfl
theorem wd_765 : Cond.methodLink RL 49 yX5_item ∈ goodTbl := gw 765 (by decide +kernel) rfl
theorem wd_766 : Cond.instanceMethod yX5_item ∈ goodTbl := gw 766 (by decide +kernel) rfl
theorem wd_767 : Cond.selects RX5 yX5_item yX5_item ∈ goodTbl := gw 767 (by decide +kernel) rfl
theorem wd_768 : Cond.code yX5_item cX5_item 6 (some .int) ∈ goodTbl := gw 768 (by decide +kernel) rfl
theorem wd_769 : Cond.methodLink RX5 190 yX3_linesOfItem ∈ goodTbl := gw 769 (by decide +kernel) rfl
theorem wd_770 : Cond.instanceMethod yX3_linesOfItem ∈ goodTbl := gw 770 (by decide +kernel) rfl
theorem wd_771 : Cond.selects RX3 yX3_linesOfItem yX3_linesOfItem ∈ goodTbl := gw 771 (by decide +kernel) rfl
theorem wd_772 : Cond.code yX3_linesOfItem cX3_linesOfItem 3 (some .int) ∈ goodTbl := gw 772 (by decide +kernel) rfl
theorem wd_773 : Cond.methodLink RX5 198 yJ0_length_8abf5 ∈ goodTbl := gw 773 (by decide +kernel) rfl
theorem wd_774 : Cond.methodLink RL 54 yX5_ofTill ∈ goodTbl := gw 774 (by decide +kernel) rfl
theorem wd_775 : Cond.instanceMethod yX5_ofTill ∈ goodTbl := gw 775 (by decide +kernel) rfl
theorem wd_776 : Cond.selects RX5 yX5_ofTill yX5_ofTill ∈ goodTbl := gw 776 (by decide +kernel) rfl
theorem wd_777 : Cond.code yX5_ofTill cX5_ofTill 4 (some .int) ∈ goodTbl := gw 777 (by decide +kernel) rfl
theorem wd_778 : Cond.methodLink RX5 203 yX2_itemsStruck ∈ goodTbl := gw 778 (by decide +kernel) rfl
theorem wd_779 : Cond.instanceMethod yX2_itemsStruck ∈ goodTbl := gw 779 (by decide +kernel) rfl
theorem wd_780 : Cond.selects RX2 yX2_itemsStruck yX2_itemsStruck ∈ goodTbl := gw 780 (by decide +kernel) rfl
theorem wd_781 : Cond.code yX2_itemsStruck cX2_itemsStruck 1 (some .int) ∈ goodTbl := gw 781 (by decide +kernel) rfl
theorem wd_782 : Cond.methodLink RX2 58 yJ6_bitCount_0f7a4 ∈ goodTbl := gw 782 (by decide +kernel) rfl
theorem wd_783 : Cond.static yJ6_bitCount_0f7a4 ∈ goodTbl := gw 783 (by decide +kernel) rfl
theorem wd_784 : Cond.code yJ6_bitCount_0f7a4 cJ6_bitCount_0f7a4 1 (some .int) ∈ goodTbl := gw 784 (by decide +kernel) rfl
theorem wd_785 : Cond.constant RJ6 265 (1431655765 : Int32) ∈ goodTbl := gw 785 (by decide +kernel) rfl
theorem wd_786 : Cond.constant RJ6 266 (858993459 : Int32) ∈ goodTbl := gw 786 (by decide +kernel) rfl
theorem wd_787 : Cond.constant RJ6 267 (252645135 : Int32) ∈ goodTbl := gw 787 (by decide +kernel) rfl
theorem wd_788 : Cond.methodLink RX5 205 yX2_total ∈ goodTbl := gw 788 (by decide +kernel) rfl
theorem wd_789 : Cond.methodLink RX5 208 yX2_taxOf ∈ goodTbl := gw 789 (by decide +kernel) rfl
theorem wd_790 : Cond.methodLink RL 58 yX5_ofReceipt ∈ goodTbl := gw 790 (by decide +kernel) rfl
theorem wd_791 : Cond.instanceMethod yX5_ofReceipt ∈ goodTbl := gw 791 (by decide +kernel) rfl
theorem wd_792 : Cond.selects RX5 yX5_ofReceipt yX5_ofReceipt ∈ goodTbl := gw 792 (by decide +kernel) rfl
theorem wd_793 : Cond.code yX5_ofReceipt cX5_ofReceipt 4 (some .int) ∈ goodTbl := gw 793 (by decide +kernel) rfl
theorem wd_794 : Cond.methodLink RL 62 yX5_sign ∈ goodTbl := gw 794 (by decide +kernel) rfl
theorem wd_795 : Cond.instanceMethod yX5_sign ∈ goodTbl := gw 795 (by decide +kernel) rfl
theorem wd_796 : Cond.selects RX5 yX5_sign yX5_sign ∈ goodTbl := gw 796 (by decide +kernel) rfl
theorem wd_797 : Cond.code yX5_sign cX5_sign 6 (some .int) ∈ goodTbl := gw 797 (by decide +kernel) rfl
theorem wd_798 : Cond.methodLink RX5 221 yX3_signAt ∈ goodTbl := gw 798 (by decide +kernel) rfl
theorem wd_799 : Cond.instanceMethod yX3_signAt ∈ goodTbl := gw 799 (by decide +kernel) rfl
theorem wd_800 : Cond.selects RX3 yX3_signAt yX3_signAt ∈ goodTbl := gw 800 (by decide +kernel) rfl
theorem wd_801 : Cond.code yX3_signAt cX3_signAt 2 (some .int) ∈ goodTbl := gw 801 (by decide +kernel) rfl
theorem wd_802 : Cond.methodLink RL 66 yX5_waiting ∈ goodTbl := gw 802 (by decide +kernel) rfl
theorem wd_803 : Cond.instanceMethod yX5_waiting ∈ goodTbl := gw 803 (by decide +kernel) rfl
theorem wd_804 : Cond.selects RX5 yX5_waiting yX5_waiting ∈ goodTbl := gw 804 (by decide +kernel) rfl
theorem wd_805 : Cond.code yX5_waiting cX5_waiting 3 (some .int) ∈ goodTbl := gw 805 (by decide +kernel) rfl
theorem wd_806 : Cond.methodLink RX5 224 yX4_waitingAt ∈ goodTbl := gw 806 (by decide +kernel) rfl
theorem wd_807 : Cond.methodLink RL 70 yX5_printer ∈ goodTbl := gw 807 (by decide +kernel) rfl
theorem wd_808 : Cond.instanceMethod yX5_printer ∈ goodTbl := gw 808 (by decide +kernel) rfl
theorem wd_809 : Cond.selects RX5 yX5_printer yX5_printer ∈ goodTbl := gw 809 (by decide +kernel) rfl
theorem wd_810 : Cond.code yX5_printer cX5_printer 2 (some .int) ∈ goodTbl := gw 810 (by decide +kernel) rfl
theorem wd_811 : Cond.methodLink RL 74 yX5_count ∈ goodTbl := gw 811 (by decide +kernel) rfl
theorem wd_812 : Cond.instanceMethod yX5_count ∈ goodTbl := gw 812 (by decide +kernel) rfl
theorem wd_813 : Cond.selects RX5 yX5_count yX5_count ∈ goodTbl := gw 813 (by decide +kernel) rfl
theorem wd_814 : Cond.code yX5_count cX5_count 2 (some .int) ∈ goodTbl := gw 814 (by decide +kernel) rfl
theorem wd_815 : Cond.methodLink RX5 233 yX4_receiptsWaiting ∈ goodTbl := gw 815 (by decide +kernel) rfl
theorem wd_816 : Cond.instanceMethod yX4_receiptsWaiting ∈ goodTbl := gw 816 (by decide +kernel) rfl
theorem wd_817 : Cond.selects RX4 yX4_receiptsWaiting yX4_receiptsWaiting ∈ goodTbl := gw 817 (by decide +kernel) rfl
theorem wd_818 : Cond.code yX4_receiptsWaiting cX4_receiptsWaiting 4 (some .int) ∈ goodTbl := gw 818 (by decide +kernel) rfl
theorem wd_819 : Cond.methodLink RL 78 yX5_between ∈ goodTbl := gw 819 (by decide +kernel) rfl
theorem wd_820 : Cond.instanceMethod yX5_between ∈ goodTbl := gw 820 (by decide +kernel) rfl
theorem wd_821 : Cond.selects RX5 yX5_between yX5_between ∈ goodTbl := gw 821 (by decide +kernel) rfl
theorem wd_822 : Cond.code yX5_between cX5_between 10 (some .int) ∈ goodTbl := gw 822 (by decide +kernel) rfl
theorem wd_823 : Cond.methodLink RX5 240 yX4_places ∈ goodTbl := gw 823 (by decide +kernel) rfl
theorem wd_824 : Cond.methodLink RX5 243 yX4_placeAt ∈ goodTbl := gw 824 (by decide +kernel) rfl
theorem wd_825 : Cond.methodLink RX5 246 Lib.Math.max.name ∈ goodTbl := gw 825 (by decide +kernel) rfl
theorem wd_826 : Cond.methodLink RL 82 yX5_doneIn ∈ goodTbl := gw 826 (by decide +kernel) rfl
theorem wd_827 : Cond.instanceMethod yX5_doneIn ∈ goodTbl := gw 827 (by decide +kernel) rfl
theorem wd_828 : Cond.selects RX5 yX5_doneIn yX5_doneIn ∈ goodTbl := gw 828 (by decide +kernel) rfl
theorem wd_829 : Cond.code yX5_doneIn cX5_doneIn 4 (some .int) ∈ goodTbl := gw 829 (by decide +kernel) rfl
theorem wd_830 : Cond.methodLink RX5 251 yX4_linesUntilDone ∈ goodTbl := gw 830 (by decide +kernel) rfl
theorem wd_831 : Cond.instanceMethod yX4_linesUntilDone ∈ goodTbl := gw 831 (by decide +kernel) rfl
theorem wd_832 : Cond.selects RX4 yX4_linesUntilDone yX4_linesUntilDone ∈ goodTbl := gw 832 (by decide +kernel) rfl
theorem wd_833 : Cond.code yX4_linesUntilDone cX4_linesUntilDone 5 (some .int) ∈ goodTbl := gw 833 (by decide +kernel) rfl
theorem wd_834 : Cond.methodLink RX4 122 yX2_linesToPrint ∈ goodTbl := gw 834 (by decide +kernel) rfl
theorem wd_835 : Cond.instanceMethod yX2_linesToPrint ∈ goodTbl := gw 835 (by decide +kernel) rfl
theorem wd_836 : Cond.selects RX2 yX2_linesToPrint yX2_linesToPrint ∈ goodTbl := gw 836 (by decide +kernel) rfl
theorem wd_837 : Cond.code yX2_linesToPrint cX2_linesToPrint 1 (some .int) ∈ goodTbl := gw 837 (by decide +kernel) rfl
theorem wd_838 : Cond.methodLink RX5 255 yX4_ticksFor ∈ goodTbl := gw 838 (by decide +kernel) rfl
theorem wd_839 : Cond.instanceMethod yX4_ticksFor ∈ goodTbl := gw 839 (by decide +kernel) rfl
theorem wd_840 : Cond.selects RX4 yX4_ticksFor yX4_ticksFor ∈ goodTbl := gw 840 (by decide +kernel) rfl
theorem wd_841 : Cond.code yX4_ticksFor cX4_ticksFor 3 (some .int) ∈ goodTbl := gw 841 (by decide +kernel) rfl
theorem wd_842 : Cond.methodLink RL 86 yX5_linesLeft ∈ goodTbl := gw 842 (by decide +kernel) rfl
theorem wd_843 : Cond.instanceMethod yX5_linesLeft ∈ goodTbl := gw 843 (by decide +kernel) rfl
theorem wd_844 : Cond.selects RX5 yX5_linesLeft yX5_linesLeft ∈ goodTbl := gw 844 (by decide +kernel) rfl
theorem wd_845 : Cond.code yX5_linesLeft cX5_linesLeft 1 (some .int) ∈ goodTbl := gw 845 (by decide +kernel) rfl
theorem wd_846 : Cond.methodLink RX5 258 yX4_linesToPrint ∈ goodTbl := gw 846 (by decide +kernel) rfl
theorem wd_847 : Cond.instanceMethod yX4_linesToPrint ∈ goodTbl := gw 847 (by decide +kernel) rfl
theorem wd_848 : Cond.selects RX4 yX4_linesToPrint yX4_linesToPrint ∈ goodTbl := gw 848 (by decide +kernel) rfl
theorem wd_849 : Cond.code yX4_linesToPrint cX4_linesToPrint 4 (some .int) ∈ goodTbl := gw 849 (by decide +kernel) rfl
theorem wd_850 : Cond.methodLink RL 90 yX5_outIn ∈ goodTbl := gw 850 (by decide +kernel) rfl
theorem wd_851 : Cond.instanceMethod yX5_outIn ∈ goodTbl := gw 851 (by decide +kernel) rfl
theorem wd_852 : Cond.selects RX5 yX5_outIn yX5_outIn ∈ goodTbl := gw 852 (by decide +kernel) rfl
theorem wd_853 : Cond.code yX5_outIn cX5_outIn 1 (some .int) ∈ goodTbl := gw 853 (by decide +kernel) rfl
theorem wd_854 : Cond.methodLink RL 94 yX5_bestWidth ∈ goodTbl := gw 854 (by decide +kernel) rfl
theorem wd_855 : Cond.instanceMethod yX5_bestWidth ∈ goodTbl := gw 855 (by decide +kernel) rfl
theorem wd_856 : Cond.selects RX5 yX5_bestWidth yX5_bestWidth ∈ goodTbl := gw 856 (by decide +kernel) rfl
theorem wd_857 : Cond.code yX5_bestWidth cX5_bestWidth 8 (some .int) ∈ goodTbl := gw 857 (by decide +kernel) rfl
theorem wd_858 : Cond.constant RX5 263 (2147483647 : Int32) ∈ goodTbl := gw 858 (by decide +kernel) rfl
theorem wd_859 : Cond.methodLink RL 98 yX5_ifStruck ∈ goodTbl := gw 859 (by decide +kernel) rfl
theorem wd_860 : Cond.instanceMethod yX5_ifStruck ∈ goodTbl := gw 860 (by decide +kernel) rfl
theorem wd_861 : Cond.selects RX5 yX5_ifStruck yX5_ifStruck ∈ goodTbl := gw 861 (by decide +kernel) rfl
theorem wd_862 : Cond.code yX5_ifStruck cX5_ifStruck 4 (some .int) ∈ goodTbl := gw 862 (by decide +kernel) rfl
theorem wd_863 : Cond.methodLink RX5 271 yX2_totalWithout ∈ goodTbl := gw 863 (by decide +kernel) rfl
theorem wd_864 : Cond.methodLink RL 104 yX5_put ∈ goodTbl := gw 864 (by decide +kernel) rfl
theorem wd_865 : Cond.instanceMethod yX5_put ∈ goodTbl := gw 865 (by decide +kernel) rfl
theorem wd_866 : Cond.selects RX5 yX5_put yX5_put ∈ goodTbl := gw 866 (by decide +kernel) rfl
theorem wd_867 : Cond.code yX5_put cX5_put 5 (some .int) ∈ goodTbl := gw 867 (by decide +kernel) rfl
theorem wd_868 : Cond.methodLink RX5 274 yX5_lengthOf ∈ goodTbl := gw 868 (by decide +kernel) rfl
theorem wd_869 : Cond.static yX5_lengthOf ∈ goodTbl := gw 869 (by decide +kernel) rfl
theorem wd_870 : Cond.code yX5_lengthOf cX5_lengthOf 4 (some .int) ∈ goodTbl := gw 870 (by decide +kernel) rfl
theorem wd_871 : Cond.methodLink RX5 278 yX5_codeAt ∈ goodTbl := gw 871 (by decide +kernel) rfl
theorem wd_872 : Cond.static yX5_codeAt ∈ goodTbl := gw 872 (by decide +kernel) rfl
theorem wd_873 : Cond.code yX5_codeAt cX5_codeAt 3 (some .int) ∈ goodTbl := gw 873 (by decide +kernel) rfl
theorem wd_874 : Cond.constantLong RX5 291 (255 : Int64) ∈ goodTbl := gw 874 (by decide +kernel) rfl
theorem wd_875 : Cond.methodLink RX5 282 yJ4_append_cf468 ∈ goodTbl := gw 875 (by decide +kernel) rfl
theorem wd_876 : Cond.instanceMethod yJ4_append_cf468 ∈ goodTbl := gw 876 (by decide +kernel) rfl
theorem wd_877 : Cond.selects RJ4 yJ4_append_cf468 yJ4_append_cf468 ∈ goodTbl := gw 877 (by decide +kernel) rfl
theorem wd_878 : Cond.code yJ4_append_cf468 cJ4_append_cf468 2 (some (.object "java/lang/StringBuilder")) ∈ goodTbl := gw 878 (by decide +kernel) rfl
theorem wd_879 : Cond.methodLink RJ4 50 yJ5_append_3fe6f ∈ goodTbl := gw 879 (by decide +kernel) rfl
theorem wd_880 : Cond.instanceMethod yJ5_append_3fe6f ∈ goodTbl := gw 880 (by decide +kernel) rfl
theorem wd_881 : Cond.code yJ5_append_3fe6f cJ5_append_3fe6f 2 (some (.object "java/lang/AbstractStringBuilder")) ∈ goodTbl := gw 881 (by decide +kernel) rfl
theorem wd_882 : Cond.methodLink RJ5 191 yJ1_canEncode_fc78d ∈ goodTbl := gw 882 (by decide +kernel) rfl
theorem wd_883 : Cond.static yJ1_canEncode_fc78d ∈ goodTbl := gw 883 (by decide +kernel) rfl
theorem wd_884 : Cond.code yJ1_canEncode_fc78d cJ1_canEncode_fc78d 1 (some .boolean) ∈ goodTbl := gw 884 (by decide +kernel) rfl
theorem wd_901 : Cond.methodLink RL 109 yX5_wipe ∈ goodTbl := gw 901 (by decide +kernel) rfl
theorem wd_902 : Cond.instanceMethod yX5_wipe ∈ goodTbl := gw 902 (by decide +kernel) rfl
theorem wd_903 : Cond.selects RX5 yX5_wipe yX5_wipe ∈ goodTbl := gw 903 (by decide +kernel) rfl
theorem wd_904 : Cond.code yX5_wipe cX5_wipe 2 (some .int) ∈ goodTbl := gw 904 (by decide +kernel) rfl
theorem wd_905 : Cond.methodLink RL 113 yX5_fault ∈ goodTbl := gw 905 (by decide +kernel) rfl
theorem wd_906 : Cond.instanceMethod yX5_fault ∈ goodTbl := gw 906 (by decide +kernel) rfl
theorem wd_907 : Cond.selects RX5 yX5_fault yX5_fault ∈ goodTbl := gw 907 (by decide +kernel) rfl
theorem wd_908 : Cond.code yX5_fault cX5_fault 1 (some .int) ∈ goodTbl := gw 908 (by decide +kernel) rfl
theorem wd_909 : Cond.methodLink RL 117 yX5_undo ∈ goodTbl := gw 909 (by decide +kernel) rfl
theorem wd_910 : Cond.instanceMethod yX5_undo ∈ goodTbl := gw 910 (by decide +kernel) rfl
theorem wd_911 : Cond.selects RX5 yX5_undo yX5_undo ∈ goodTbl := gw 911 (by decide +kernel) rfl
theorem wd_912 : Cond.code yX5_undo cX5_undo 1 (some .int) ∈ goodTbl := gw 912 (by decide +kernel) rfl
theorem wd_913 : Cond.methodLink RX5 286 yX0_giveBack ∈ goodTbl := gw 913 (by decide +kernel) rfl
theorem wd_914 : Cond.instanceMethod yX0_giveBack ∈ goodTbl := gw 914 (by decide +kernel) rfl
theorem wd_915 : Cond.selects RX0 yX0_giveBack yX0_giveBack ∈ goodTbl := gw 915 (by decide +kernel) rfl
theorem wd_916 : Cond.code yX0_giveBack cX0_giveBack 3 none ∈ goodTbl := gw 916 (by decide +kernel) rfl
theorem wd_917 : Cond.methodLink RL 121 yX5_save ∈ goodTbl := gw 917 (by decide +kernel) rfl
theorem wd_918 : Cond.instanceMethod yX5_save ∈ goodTbl := gw 918 (by decide +kernel) rfl
theorem wd_919 : Cond.selects RX5 yX5_save yX5_save ∈ goodTbl := gw 919 (by decide +kernel) rfl
theorem wd_920 : Cond.code yX5_save cX5_save 2 (some .int) ∈ goodTbl := gw 920 (by decide +kernel) rfl
theorem wd_921 : Cond.methodLink RX5 289 yX4_copyFrom ∈ goodTbl := gw 921 (by decide +kernel) rfl
theorem wd_922 : Cond.methodLink RL 125 yX5_restore ∈ goodTbl := gw 922 (by decide +kernel) rfl
theorem wd_923 : Cond.instanceMethod yX5_restore ∈ goodTbl := gw 923 (by decide +kernel) rfl
theorem wd_924 : Cond.selects RX5 yX5_restore yX5_restore ∈ goodTbl := gw 924 (by decide +kernel) rfl
theorem wd_925 : Cond.code yX5_restore cX5_restore 2 (some .int) ∈ goodTbl := gw 925 (by decide +kernel) rfl
theorem wd_926 : Cond.classLink RL 10 RX6 ∈ goodTbl := gw 926 (by decide +kernel) rfl
theorem wd_927 : Cond.instantiable RX6 15 ∈ goodTbl := gw 927 (by decide +kernel) rfl
theorem wd_928 : Cond.methodLink RL 12 yX6_init ∈ goodTbl := gw 928 (by decide +kernel) rfl
theorem wd_929 : Cond.instanceMethod yX6_init ∈ goodTbl := gw 929 (by decide +kernel) rfl
theorem wd_930 : Cond.code yX6_init cX6_init 2 none ∈ goodTbl := gw 930 (by decide +kernel) rfl
theorem wd_931 : Cond.methodLink RX6 1 Lib.objectInit ∈ goodTbl := gw 931 (by decide +kernel) rfl
theorem wd_932 : Cond.methodLink RX6 36 yX6_lay ∈ goodTbl := gw 932 (by decide +kernel) rfl
theorem wd_934 : Cond.instanceMethod yX6_lay ∈ goodTbl := gw 934 (by decide +kernel) rfl
theorem wd_935 : Cond.code yX6_lay cX6_lay 4 none ∈ goodTbl := gw 935 (by decide +kernel) rfl
theorem wd_936 : Cond.fieldLink RX6 32 "ReceiptRollsModel" "thrown" "I" ∈ goodTbl := gw 936 (by decide +kernel) rfl
theorem wd_937 : Cond.fieldLink RX6 7 "ReceiptRollsModel" "s" "[I" ∈ goodTbl := gw 937 (by decide +kernel) rfl
theorem wd_938 : Cond.fieldLink RX6 13 "ReceiptRollsModel" "undos" "[I" ∈ goodTbl := gw 938 (by decide +kernel) rfl
theorem wd_939 : Cond.fieldLink RX6 44 "ReceiptRollsModel" "undoMany" "I" ∈ goodTbl := gw 939 (by decide +kernel) rfl
theorem wd_940 : Cond.fieldLink RX6 16 "ReceiptRollsModel" "slots" "[I" ∈ goodTbl := gw 940 (by decide +kernel) rfl
theorem wd_941 : Cond.fieldLink RX6 19 "ReceiptRollsModel" "hasSlot" "[Z" ∈ goodTbl := gw 941 (by decide +kernel) rfl
theorem wd_942 : Cond.fieldLink RX6 23 "ReceiptRollsModel" "pad" "[I" ∈ goodTbl := gw 942 (by decide +kernel) rfl
theorem wd_943 : Cond.fieldLink RX6 193 "ReceiptRollsModel" "length" "I" ∈ goodTbl := gw 943 (by decide +kernel) rfl
theorem wd_944 : Cond.fieldLink RX6 26 "ReceiptRollsModel" "line" "[I" ∈ goodTbl := gw 944 (by decide +kernel) rfl
theorem wd_945 : Cond.fieldLink RX6 77 "ReceiptRollsModel" "wanted" "I" ∈ goodTbl := gw 945 (by decide +kernel) rfl
theorem wd_946 : Cond.fieldLink RX6 74 "ReceiptRollsModel" "at" "I" ∈ goodTbl := gw 946 (by decide +kernel) rfl
theorem wd_947 : Cond.fieldLink RX6 80 "ReceiptRollsModel" "column" "I" ∈ goodTbl := gw 947 (by decide +kernel) rfl
theorem wd_948 : Cond.fieldLink RX6 113 "ReceiptRollsModel" "begun" "I" ∈ goodTbl := gw 948 (by decide +kernel) rfl
theorem wd_949 : Cond.fieldLink RX6 29 "ReceiptRollsModel" "word" "[I" ∈ goodTbl := gw 949 (by decide +kernel) rfl
theorem wd_950 : Cond.fieldLink RX6 91 "ReceiptRollsModel" "wordMany" "I" ∈ goodTbl := gw 950 (by decide +kernel) rfl
theorem wd_982 : Cond.arrayClass .boolean ∈ goodTbl := gw 982 (by decide +kernel) rfl
theorem wd_983 : Cond.methodLink RL 17 yX6_set ∈ goodTbl := gw 983 (by decide +kernel) rfl
theorem wd_984 : Cond.instanceMethod yX6_set ∈ goodTbl := gw 984 (by decide +kernel) rfl
theorem wd_985 : Cond.selects RX6 yX6_set yX6_set ∈ goodTbl := gw 985 (by decide +kernel) rfl
theorem wd_986 : Cond.code yX6_set cX6_set 4 (some .int) ∈ goodTbl := gw 986 (by decide +kernel) rfl
theorem wd_987 : Cond.methodLink RX6 40 yX6_in ∈ goodTbl := gw 987 (by decide +kernel) rfl
theorem wd_988 : Cond.static yX6_in ∈ goodTbl := gw 988 (by decide +kernel) rfl
theorem wd_989 : Cond.code yX6_in cX6_in 3 (some .boolean) ∈ goodTbl := gw 989 (by decide +kernel) rfl
theorem wd_990 : Cond.methodLink RX6 184 yX6_leastOf ∈ goodTbl := gw 990 (by decide +kernel) rfl
theorem wd_991 : Cond.static yX6_leastOf ∈ goodTbl := gw 991 (by decide +kernel) rfl
theorem wd_992 : Cond.code yX6_leastOf cX6_leastOf 1 (some .int) ∈ goodTbl := gw 992 (by decide +kernel) rfl
theorem wd_993 : Cond.methodLink RX6 187 yX6_mostOf ∈ goodTbl := gw 993 (by decide +kernel) rfl
theorem wd_994 : Cond.static yX6_mostOf ∈ goodTbl := gw 994 (by decide +kernel) rfl
theorem wd_995 : Cond.code yX6_mostOf cX6_mostOf 1 (some .int) ∈ goodTbl := gw 995 (by decide +kernel) rfl
theorem wd_996 : Cond.methodLink RX6 190 yX6_records ∈ goodTbl := gw 996 (by decide +kernel) rfl
theorem wd_998 : Cond.instanceMethod yX6_records ∈ goodTbl := gw 998 (by decide +kernel) rfl
theorem wd_999 : Cond.code yX6_records cX6_records 2 none ∈ goodTbl := gw 999 (by decide +kernel) rfl
theorem wd_1000 : Cond.methodLink RL 22 yX6_ring ∈ goodTbl := gw 1000 (by decide +kernel) rfl
theorem wd_1001 : Cond.instanceMethod yX6_ring ∈ goodTbl := gw 1001 (by decide +kernel) rfl
theorem wd_1002 : Cond.selects RX6 yX6_ring yX6_ring ∈ goodTbl := gw 1002 (by decide +kernel) rfl
theorem wd_1003 : Cond.code yX6_ring cX6_ring 6 (some .int) ∈ goodTbl := gw 1003 (by decide +kernel) rfl
theorem wd_1004 : Cond.methodLink RX6 196 yX6_isTill ∈ goodTbl := gw 1004 (by decide +kernel) rfl
theorem wd_1005 : Cond.static yX6_isTill ∈ goodTbl := gw 1005 (by decide +kernel) rfl
theorem wd_1006 : Cond.code yX6_isTill cX6_isTill 1 (some .boolean) ∈ goodTbl := gw 1006 (by decide +kernel) rfl
theorem wd_1007 : Cond.methodLink RX6 200 yX6_faultAt ∈ goodTbl := gw 1007 (by decide +kernel) rfl
theorem wd_1009 : Cond.instanceMethod yX6_faultAt ∈ goodTbl := gw 1009 (by decide +kernel) rfl
theorem wd_1010 : Cond.code yX6_faultAt cX6_faultAt 2 (some .int) ∈ goodTbl := gw 1010 (by decide +kernel) rfl
theorem wd_1011 : Cond.methodLink RX6 245 yX6_canStand ∈ goodTbl := gw 1011 (by decide +kernel) rfl
theorem wd_1013 : Cond.instanceMethod yX6_canStand ∈ goodTbl := gw 1013 (by decide +kernel) rfl
theorem wd_1014 : Cond.code yX6_canStand cX6_canStand 2 (some .boolean) ∈ goodTbl := gw 1014 (by decide +kernel) rfl
theorem wd_1015 : Cond.methodLink RX6 47 yX6_of ∈ goodTbl := gw 1015 (by decide +kernel) rfl
theorem wd_1017 : Cond.instanceMethod yX6_of ∈ goodTbl := gw 1017 (by decide +kernel) rfl
theorem wd_1018 : Cond.code yX6_of cX6_of 3 (some .int) ∈ goodTbl := gw 1018 (by decide +kernel) rfl
theorem wd_1019 : Cond.methodLink RX6 203 yX6_packsName ∈ goodTbl := gw 1019 (by decide +kernel) rfl
theorem wd_1021 : Cond.instanceMethod yX6_packsName ∈ goodTbl := gw 1021 (by decide +kernel) rfl
theorem wd_1022 : Cond.code yX6_packsName cX6_packsName 6 none ∈ goodTbl := gw 1022 (by decide +kernel) rfl
theorem wd_1023 : Cond.methodLink RX6 206 yX6_happens ∈ goodTbl := gw 1023 (by decide +kernel) rfl
theorem wd_1025 : Cond.instanceMethod yX6_happens ∈ goodTbl := gw 1025 (by decide +kernel) rfl
theorem wd_1026 : Cond.code yX6_happens cX6_happens 4 none ∈ goodTbl := gw 1026 (by decide +kernel) rfl
theorem wd_1027 : Cond.methodLink RL 26 yX6_strike ∈ goodTbl := gw 1027 (by decide +kernel) rfl
theorem wd_1028 : Cond.instanceMethod yX6_strike ∈ goodTbl := gw 1028 (by decide +kernel) rfl
theorem wd_1029 : Cond.selects RX6 yX6_strike yX6_strike ∈ goodTbl := gw 1029 (by decide +kernel) rfl
theorem wd_1030 : Cond.code yX6_strike cX6_strike 3 (some .int) ∈ goodTbl := gw 1030 (by decide +kernel) rfl
theorem wd_1031 : Cond.methodLink RX6 209 yX6_isItem ∈ goodTbl := gw 1031 (by decide +kernel) rfl
theorem wd_1033 : Cond.instanceMethod yX6_isItem ∈ goodTbl := gw 1033 (by decide +kernel) rfl
theorem wd_1034 : Cond.code yX6_isItem cX6_isItem 3 (some .boolean) ∈ goodTbl := gw 1034 (by decide +kernel) rfl
theorem wd_1035 : Cond.methodLink RX6 60 yX6_isStruck ∈ goodTbl := gw 1035 (by decide +kernel) rfl
theorem wd_1037 : Cond.instanceMethod yX6_isStruck ∈ goodTbl := gw 1037 (by decide +kernel) rfl
theorem wd_1038 : Cond.code yX6_isStruck cX6_isStruck 3 (some .boolean) ∈ goodTbl := gw 1038 (by decide +kernel) rfl
theorem wd_1039 : Cond.methodLink RX6 51 yX6_packed ∈ goodTbl := gw 1039 (by decide +kernel) rfl
theorem wd_1041 : Cond.instanceMethod yX6_packed ∈ goodTbl := gw 1041 (by decide +kernel) rfl
theorem wd_1042 : Cond.code yX6_packed cX6_packed 3 (some .int) ∈ goodTbl := gw 1042 (by decide +kernel) rfl
theorem wd_1043 : Cond.constant RX6 212 (8388608 : Int32) ∈ goodTbl := gw 1043 (by decide +kernel) rfl
theorem wd_1044 : Cond.methodLink RX6 64 yX6_sum ∈ goodTbl := gw 1044 (by decide +kernel) rfl
theorem wd_1046 : Cond.instanceMethod yX6_sum ∈ goodTbl := gw 1046 (by decide +kernel) rfl
theorem wd_1047 : Cond.code yX6_sum cX6_sum 3 (some .int) ∈ goodTbl := gw 1047 (by decide +kernel) rfl
theorem wd_1048 : Cond.methodLink RX6 54 yX6_howMany ∈ goodTbl := gw 1048 (by decide +kernel) rfl
theorem wd_1050 : Cond.instanceMethod yX6_howMany ∈ goodTbl := gw 1050 (by decide +kernel) rfl
theorem wd_1051 : Cond.code yX6_howMany cX6_howMany 3 (some .int) ∈ goodTbl := gw 1051 (by decide +kernel) rfl
theorem wd_1052 : Cond.methodLink RX6 57 yX6_price ∈ goodTbl := gw 1052 (by decide +kernel) rfl
theorem wd_1054 : Cond.instanceMethod yX6_price ∈ goodTbl := gw 1054 (by decide +kernel) rfl
theorem wd_1055 : Cond.code yX6_price cX6_price 3 (some .int) ∈ goodTbl := gw 1055 (by decide +kernel) rfl
theorem wd_1056 : Cond.methodLink RL 30 yX6_close ∈ goodTbl := gw 1056 (by decide +kernel) rfl
theorem wd_1057 : Cond.instanceMethod yX6_close ∈ goodTbl := gw 1057 (by decide +kernel) rfl
theorem wd_1058 : Cond.selects RX6 yX6_close yX6_close ∈ goodTbl := gw 1058 (by decide +kernel) rfl
theorem wd_1059 : Cond.code yX6_close cX6_close 5 (some .int) ∈ goodTbl := gw 1059 (by decide +kernel) rfl
theorem wd_1060 : Cond.methodLink RX6 158 yX6_manyHow ∈ goodTbl := gw 1060 (by decide +kernel) rfl
theorem wd_1062 : Cond.instanceMethod yX6_manyHow ∈ goodTbl := gw 1062 (by decide +kernel) rfl
theorem wd_1063 : Cond.code yX6_manyHow cX6_manyHow 4 (some .int) ∈ goodTbl := gw 1063 (by decide +kernel) rfl
theorem wd_1064 : Cond.methodLink RX6 149 yX6_isHow ∈ goodTbl := gw 1064 (by decide +kernel) rfl
theorem wd_1066 : Cond.instanceMethod yX6_isHow ∈ goodTbl := gw 1066 (by decide +kernel) rfl
theorem wd_1067 : Cond.code yX6_isHow cX6_isHow 3 (some .boolean) ∈ goodTbl := gw 1067 (by decide +kernel) rfl
theorem wd_1068 : Cond.methodLink RX6 213 yX6_freeRecord ∈ goodTbl := gw 1068 (by decide +kernel) rfl
theorem wd_1070 : Cond.instanceMethod yX6_freeRecord ∈ goodTbl := gw 1070 (by decide +kernel) rfl
theorem wd_1071 : Cond.code yX6_freeRecord cX6_freeRecord 2 (some .int) ∈ goodTbl := gw 1071 (by decide +kernel) rfl
theorem wd_1072 : Cond.methodLink RX6 161 yX6_empties ∈ goodTbl := gw 1072 (by decide +kernel) rfl
theorem wd_1074 : Cond.instanceMethod yX6_empties ∈ goodTbl := gw 1074 (by decide +kernel) rfl
theorem wd_1075 : Cond.code yX6_empties cX6_empties 3 none ∈ goodTbl := gw 1075 (by decide +kernel) rfl
theorem wd_1076 : Cond.methodLink RL 34 yX6_hurry ∈ goodTbl := gw 1076 (by decide +kernel) rfl
theorem wd_1077 : Cond.instanceMethod yX6_hurry ∈ goodTbl := gw 1077 (by decide +kernel) rfl
theorem wd_1078 : Cond.selects RX6 yX6_hurry yX6_hurry ∈ goodTbl := gw 1078 (by decide +kernel) rfl
theorem wd_1079 : Cond.code yX6_hurry cX6_hurry 5 (some .int) ∈ goodTbl := gw 1079 (by decide +kernel) rfl
theorem wd_1080 : Cond.methodLink RX6 216 yX6_recordOf ∈ goodTbl := gw 1080 (by decide +kernel) rfl
theorem wd_1082 : Cond.instanceMethod yX6_recordOf ∈ goodTbl := gw 1082 (by decide +kernel) rfl
theorem wd_1083 : Cond.code yX6_recordOf cX6_recordOf 3 (some .int) ∈ goodTbl := gw 1083 (by decide +kernel) rfl
theorem wd_1084 : Cond.methodLink RL 39 yX6_newRoll ∈ goodTbl := gw 1084 (by decide +kernel) rfl
theorem wd_1085 : Cond.instanceMethod yX6_newRoll ∈ goodTbl := gw 1085 (by decide +kernel) rfl
theorem wd_1086 : Cond.selects RX6 yX6_newRoll yX6_newRoll ∈ goodTbl := gw 1086 (by decide +kernel) rfl
theorem wd_1087 : Cond.code yX6_newRoll cX6_newRoll 2 (some .int) ∈ goodTbl := gw 1087 (by decide +kernel) rfl
theorem wd_1088 : Cond.methodLink RL 44 yX6_tear ∈ goodTbl := gw 1088 (by decide +kernel) rfl
theorem wd_1089 : Cond.instanceMethod yX6_tear ∈ goodTbl := gw 1089 (by decide +kernel) rfl
theorem wd_1090 : Cond.selects RX6 yX6_tear yX6_tear ∈ goodTbl := gw 1090 (by decide +kernel) rfl
theorem wd_1091 : Cond.code yX6_tear cX6_tear 4 (some .int) ∈ goodTbl := gw 1091 (by decide +kernel) rfl
theorem wd_1092 : Cond.methodLink RX6 167 yX6_printedNow ∈ goodTbl := gw 1092 (by decide +kernel) rfl
theorem wd_1094 : Cond.instanceMethod yX6_printedNow ∈ goodTbl := gw 1094 (by decide +kernel) rfl
theorem wd_1095 : Cond.code yX6_printedNow cX6_printedNow 2 (some .int) ∈ goodTbl := gw 1095 (by decide +kernel) rfl
theorem wd_1096 : Cond.methodLink RX6 143 yX6_widthOf ∈ goodTbl := gw 1096 (by decide +kernel) rfl
theorem wd_1098 : Cond.instanceMethod yX6_widthOf ∈ goodTbl := gw 1098 (by decide +kernel) rfl
theorem wd_1099 : Cond.code yX6_widthOf cX6_widthOf 2 (some .int) ∈ goodTbl := gw 1099 (by decide +kernel) rfl
theorem wd_1100 : Cond.methodLink RX6 146 yX6_laysAll ∈ goodTbl := gw 1100 (by decide +kernel) rfl
theorem wd_1102 : Cond.instanceMethod yX6_laysAll ∈ goodTbl := gw 1102 (by decide +kernel) rfl
theorem wd_1103 : Cond.code yX6_laysAll cX6_laysAll 6 (some .int) ∈ goodTbl := gw 1103 (by decide +kernel) rfl
theorem wd_1104 : Cond.methodLink RX6 87 yX6_lays ∈ goodTbl := gw 1104 (by decide +kernel) rfl
theorem wd_1106 : Cond.instanceMethod yX6_lays ∈ goodTbl := gw 1106 (by decide +kernel) rfl
theorem wd_1107 : Cond.code yX6_lays cX6_lays 2 none ∈ goodTbl := gw 1107 (by decide +kernel) rfl
theorem wd_1108 : Cond.methodLink RX6 83 yX6_puts ∈ goodTbl := gw 1108 (by decide +kernel) rfl
theorem wd_1110 : Cond.instanceMethod yX6_puts ∈ goodTbl := gw 1110 (by decide +kernel) rfl
theorem wd_1111 : Cond.code yX6_puts cX6_puts 3 none ∈ goodTbl := gw 1111 (by decide +kernel) rfl
theorem wd_1112 : Cond.methodLink RX6 122 yX6_numberOf ∈ goodTbl := gw 1112 (by decide +kernel) rfl
theorem wd_1114 : Cond.instanceMethod yX6_numberOf ∈ goodTbl := gw 1114 (by decide +kernel) rfl
theorem wd_1115 : Cond.code yX6_numberOf cX6_numberOf 2 (some .int) ∈ goodTbl := gw 1115 (by decide +kernel) rfl
theorem wd_1116 : Cond.methodLink RX6 116 yX6_number ∈ goodTbl := gw 1116 (by decide +kernel) rfl
theorem wd_1118 : Cond.instanceMethod yX6_number ∈ goodTbl := gw 1118 (by decide +kernel) rfl
theorem wd_1119 : Cond.code yX6_number cX6_number 3 none ∈ goodTbl := gw 1119 (by decide +kernel) rfl
theorem wd_1120 : Cond.methodLink RX6 94 yX6_nextLine ∈ goodTbl := gw 1120 (by decide +kernel) rfl
theorem wd_1122 : Cond.instanceMethod yX6_nextLine ∈ goodTbl := gw 1122 (by decide +kernel) rfl
theorem wd_1123 : Cond.code yX6_nextLine cX6_nextLine 1 none ∈ goodTbl := gw 1123 (by decide +kernel) rfl
theorem wd_1124 : Cond.methodLink RX6 125 yX6_event ∈ goodTbl := gw 1124 (by decide +kernel) rfl
theorem wd_1126 : Cond.instanceMethod yX6_event ∈ goodTbl := gw 1126 (by decide +kernel) rfl
theorem wd_1127 : Cond.code yX6_event cX6_event 3 (some .int) ∈ goodTbl := gw 1127 (by decide +kernel) rfl
theorem wd_1128 : Cond.methodLink RX6 128 yX6_layItem ∈ goodTbl := gw 1128 (by decide +kernel) rfl
theorem wd_1130 : Cond.instanceMethod yX6_layItem ∈ goodTbl := gw 1130 (by decide +kernel) rfl
theorem wd_1131 : Cond.code yX6_layItem cX6_layItem 8 none ∈ goodTbl := gw 1131 (by decide +kernel) rfl
theorem wd_1132 : Cond.methodLink RX6 97 yX6_addsToWord ∈ goodTbl := gw 1132 (by decide +kernel) rfl
theorem wd_1134 : Cond.instanceMethod yX6_addsToWord ∈ goodTbl := gw 1134 (by decide +kernel) rfl
theorem wd_1135 : Cond.code yX6_addsToWord cX6_addsToWord 2 none ∈ goodTbl := gw 1135 (by decide +kernel) rfl
theorem wd_1136 : Cond.methodLink RX6 100 yX6_layWord ∈ goodTbl := gw 1136 (by decide +kernel) rfl
theorem wd_1138 : Cond.instanceMethod yX6_layWord ∈ goodTbl := gw 1138 (by decide +kernel) rfl
theorem wd_1139 : Cond.code yX6_layWord cX6_layWord 3 none ∈ goodTbl := gw 1139 (by decide +kernel) rfl
theorem wd_1140 : Cond.methodLink RX6 103 yX6_nameLength ∈ goodTbl := gw 1140 (by decide +kernel) rfl
theorem wd_1142 : Cond.instanceMethod yX6_nameLength ∈ goodTbl := gw 1142 (by decide +kernel) rfl
theorem wd_1143 : Cond.code yX6_nameLength cX6_nameLength 3 (some .int) ∈ goodTbl := gw 1143 (by decide +kernel) rfl
theorem wd_1144 : Cond.methodLink RX6 106 yX6_nameSign ∈ goodTbl := gw 1144 (by decide +kernel) rfl
theorem wd_1146 : Cond.instanceMethod yX6_nameSign ∈ goodTbl := gw 1146 (by decide +kernel) rfl
theorem wd_1147 : Cond.code yX6_nameSign cX6_nameSign 4 (some .int) ∈ goodTbl := gw 1147 (by decide +kernel) rfl
theorem wd_1148 : Cond.methodLink RX6 110 yX6_money ∈ goodTbl := gw 1148 (by decide +kernel) rfl
theorem wd_1150 : Cond.instanceMethod yX6_money ∈ goodTbl := gw 1150 (by decide +kernel) rfl
theorem wd_1151 : Cond.code yX6_money cX6_money 6 none ∈ goodTbl := gw 1151 (by decide +kernel) rfl
theorem wd_1152 : Cond.methodLink RX6 131 yX6_layVoid ∈ goodTbl := gw 1152 (by decide +kernel) rfl
theorem wd_1154 : Cond.instanceMethod yX6_layVoid ∈ goodTbl := gw 1154 (by decide +kernel) rfl
theorem wd_1155 : Cond.code yX6_layVoid cX6_layVoid 4 none ∈ goodTbl := gw 1155 (by decide +kernel) rfl
theorem wd_1156 : Cond.methodLink RX6 134 yX6_total ∈ goodTbl := gw 1156 (by decide +kernel) rfl
theorem wd_1158 : Cond.instanceMethod yX6_total ∈ goodTbl := gw 1158 (by decide +kernel) rfl
theorem wd_1159 : Cond.code yX6_total cX6_total 4 (some .int) ∈ goodTbl := gw 1159 (by decide +kernel) rfl
theorem wd_1160 : Cond.methodLink RX6 137 yX6_hasTax ∈ goodTbl := gw 1160 (by decide +kernel) rfl
theorem wd_1162 : Cond.instanceMethod yX6_hasTax ∈ goodTbl := gw 1162 (by decide +kernel) rfl
theorem wd_1163 : Cond.code yX6_hasTax cX6_hasTax 5 (some .boolean) ∈ goodTbl := gw 1163 (by decide +kernel) rfl
theorem wd_1164 : Cond.methodLink RX6 67 yX6_tax ∈ goodTbl := gw 1164 (by decide +kernel) rfl
theorem wd_1166 : Cond.instanceMethod yX6_tax ∈ goodTbl := gw 1166 (by decide +kernel) rfl
theorem wd_1167 : Cond.code yX6_tax cX6_tax 3 (some .int) ∈ goodTbl := gw 1167 (by decide +kernel) rfl
theorem wd_1168 : Cond.methodLink RX6 140 yX6_layTax ∈ goodTbl := gw 1168 (by decide +kernel) rfl
theorem wd_1170 : Cond.instanceMethod yX6_layTax ∈ goodTbl := gw 1170 (by decide +kernel) rfl
theorem wd_1171 : Cond.code yX6_layTax cX6_layTax 4 none ∈ goodTbl := gw 1171 (by decide +kernel) rfl
theorem wd_1172 : Cond.methodLink RX6 70 yX6_rateOf ∈ goodTbl := gw 1172 (by decide +kernel) rfl
theorem wd_1173 : Cond.static yX6_rateOf ∈ goodTbl := gw 1173 (by decide +kernel) rfl
theorem wd_1174 : Cond.code yX6_rateOf cX6_rateOf 1 (some .int) ∈ goodTbl := gw 1174 (by decide +kernel) rfl
theorem wd_1175 : Cond.methodLink RX6 119 yX6_taxOf ∈ goodTbl := gw 1175 (by decide +kernel) rfl
theorem wd_1177 : Cond.instanceMethod yX6_taxOf ∈ goodTbl := gw 1177 (by decide +kernel) rfl
theorem wd_1178 : Cond.code yX6_taxOf cX6_taxOf 6 (some .int) ∈ goodTbl := gw 1178 (by decide +kernel) rfl
theorem wd_1179 : Cond.methodLink RL 48 yX6_pass ∈ goodTbl := gw 1179 (by decide +kernel) rfl
theorem wd_1180 : Cond.instanceMethod yX6_pass ∈ goodTbl := gw 1180 (by decide +kernel) rfl
theorem wd_1181 : Cond.selects RX6 yX6_pass yX6_pass ∈ goodTbl := gw 1181 (by decide +kernel) rfl
theorem wd_1182 : Cond.code yX6_pass cX6_pass 4 (some .int) ∈ goodTbl := gw 1182 (by decide +kernel) rfl
theorem wd_1183 : Cond.methodLink RX6 219 yX6_ticks ∈ goodTbl := gw 1183 (by decide +kernel) rfl
theorem wd_1185 : Cond.instanceMethod yX6_ticks ∈ goodTbl := gw 1185 (by decide +kernel) rfl
theorem wd_1186 : Cond.code yX6_ticks cX6_ticks 2 (some .int) ∈ goodTbl := gw 1186 (by decide +kernel) rfl
theorem wd_1187 : Cond.methodLink RX6 180 yX6_printsLine ∈ goodTbl := gw 1187 (by decide +kernel) rfl
theorem wd_1189 : Cond.instanceMethod yX6_printsLine ∈ goodTbl := gw 1189 (by decide +kernel) rfl
theorem wd_1190 : Cond.code yX6_printsLine cX6_printsLine 2 (some .boolean) ∈ goodTbl := gw 1190 (by decide +kernel) rfl
theorem wd_1191 : Cond.methodLink RX6 171 yX6_recordAt ∈ goodTbl := gw 1191 (by decide +kernel) rfl
theorem wd_1193 : Cond.instanceMethod yX6_recordAt ∈ goodTbl := gw 1193 (by decide +kernel) rfl
theorem wd_1194 : Cond.code yX6_recordAt cX6_recordAt 3 (some .int) ∈ goodTbl := gw 1194 (by decide +kernel) rfl
theorem wd_1195 : Cond.methodLink RX6 155 yX6_rank ∈ goodTbl := gw 1195 (by decide +kernel) rfl
theorem wd_1197 : Cond.instanceMethod yX6_rank ∈ goodTbl := gw 1197 (by decide +kernel) rfl
theorem wd_1198 : Cond.code yX6_rank cX6_rank 4 (some .int) ∈ goodTbl := gw 1198 (by decide +kernel) rfl
theorem wd_1199 : Cond.methodLink RX6 152 yX6_isAhead ∈ goodTbl := gw 1199 (by decide +kernel) rfl
theorem wd_1201 : Cond.instanceMethod yX6_isAhead ∈ goodTbl := gw 1201 (by decide +kernel) rfl
theorem wd_1202 : Cond.code yX6_isAhead cX6_isAhead 4 (some .boolean) ∈ goodTbl := gw 1202 (by decide +kernel) rfl
theorem wd_1203 : Cond.methodLink RX6 174 yX6_linesOf ∈ goodTbl := gw 1203 (by decide +kernel) rfl
theorem wd_1205 : Cond.instanceMethod yX6_linesOf ∈ goodTbl := gw 1205 (by decide +kernel) rfl
theorem wd_1206 : Cond.code yX6_linesOf cX6_linesOf 2 (some .int) ∈ goodTbl := gw 1206 (by decide +kernel) rfl
theorem wd_1207 : Cond.methodLink RX6 177 yX6_ends ∈ goodTbl := gw 1207 (by decide +kernel) rfl
theorem wd_1209 : Cond.instanceMethod yX6_ends ∈ goodTbl := gw 1209 (by decide +kernel) rfl
theorem wd_1210 : Cond.code yX6_ends cX6_ends 2 none ∈ goodTbl := gw 1210 (by decide +kernel) rfl
theorem wd_1211 : Cond.methodLink RX6 164 yX6_forgets ∈ goodTbl := gw 1211 (by decide +kernel) rfl
theorem wd_1213 : Cond.instanceMethod yX6_forgets ∈ goodTbl := gw 1213 (by decide +kernel) rfl
theorem wd_1214 : Cond.code yX6_forgets cX6_forgets 4 none ∈ goodTbl := gw 1214 (by decide +kernel) rfl
theorem wd_1215 : Cond.methodLink RL 53 yX6_item ∈ goodTbl := gw 1215 (by decide +kernel) rfl
theorem wd_1216 : Cond.instanceMethod yX6_item ∈ goodTbl := gw 1216 (by decide +kernel) rfl
theorem wd_1217 : Cond.selects RX6 yX6_item yX6_item ∈ goodTbl := gw 1217 (by decide +kernel) rfl
theorem wd_1218 : Cond.code yX6_item cX6_item 4 (some .int) ∈ goodTbl := gw 1218 (by decide +kernel) rfl
theorem wd_1219 : Cond.methodLink RX6 222 yX6_linesOfItem ∈ goodTbl := gw 1219 (by decide +kernel) rfl
theorem wd_1221 : Cond.instanceMethod yX6_linesOfItem ∈ goodTbl := gw 1221 (by decide +kernel) rfl
theorem wd_1222 : Cond.code yX6_linesOfItem cX6_linesOfItem 3 (some .int) ∈ goodTbl := gw 1222 (by decide +kernel) rfl
theorem wd_1223 : Cond.methodLink RL 57 yX6_ofTill ∈ goodTbl := gw 1223 (by decide +kernel) rfl
theorem wd_1224 : Cond.instanceMethod yX6_ofTill ∈ goodTbl := gw 1224 (by decide +kernel) rfl
theorem wd_1225 : Cond.selects RX6 yX6_ofTill yX6_ofTill ∈ goodTbl := gw 1225 (by decide +kernel) rfl
theorem wd_1226 : Cond.code yX6_ofTill cX6_ofTill 3 (some .int) ∈ goodTbl := gw 1226 (by decide +kernel) rfl
theorem wd_1227 : Cond.methodLink RX6 225 yX6_struckOf ∈ goodTbl := gw 1227 (by decide +kernel) rfl
theorem wd_1229 : Cond.instanceMethod yX6_struckOf ∈ goodTbl := gw 1229 (by decide +kernel) rfl
theorem wd_1230 : Cond.code yX6_struckOf cX6_struckOf 4 (some .int) ∈ goodTbl := gw 1230 (by decide +kernel) rfl
theorem wd_1231 : Cond.methodLink RL 61 yX6_ofReceipt ∈ goodTbl := gw 1231 (by decide +kernel) rfl
theorem wd_1232 : Cond.instanceMethod yX6_ofReceipt ∈ goodTbl := gw 1232 (by decide +kernel) rfl
theorem wd_1233 : Cond.selects RX6 yX6_ofReceipt yX6_ofReceipt ∈ goodTbl := gw 1233 (by decide +kernel) rfl
theorem wd_1234 : Cond.code yX6_ofReceipt cX6_ofReceipt 4 (some .int) ∈ goodTbl := gw 1234 (by decide +kernel) rfl
theorem wd_1235 : Cond.methodLink RL 65 yX6_sign ∈ goodTbl := gw 1235 (by decide +kernel) rfl
theorem wd_1236 : Cond.instanceMethod yX6_sign ∈ goodTbl := gw 1236 (by decide +kernel) rfl
theorem wd_1237 : Cond.selects RX6 yX6_sign yX6_sign ∈ goodTbl := gw 1237 (by decide +kernel) rfl
theorem wd_1238 : Cond.code yX6_sign cX6_sign 5 (some .int) ∈ goodTbl := gw 1238 (by decide +kernel) rfl
theorem wd_1239 : Cond.methodLink RX6 228 yX6_signAt ∈ goodTbl := gw 1239 (by decide +kernel) rfl
theorem wd_1241 : Cond.instanceMethod yX6_signAt ∈ goodTbl := gw 1241 (by decide +kernel) rfl
theorem wd_1242 : Cond.code yX6_signAt cX6_signAt 4 (some .int) ∈ goodTbl := gw 1242 (by decide +kernel) rfl
theorem wd_1243 : Cond.methodLink RL 69 yX6_waiting ∈ goodTbl := gw 1243 (by decide +kernel) rfl
theorem wd_1244 : Cond.instanceMethod yX6_waiting ∈ goodTbl := gw 1244 (by decide +kernel) rfl
theorem wd_1245 : Cond.selects RX6 yX6_waiting yX6_waiting ∈ goodTbl := gw 1245 (by decide +kernel) rfl
theorem wd_1246 : Cond.code yX6_waiting cX6_waiting 3 (some .int) ∈ goodTbl := gw 1246 (by decide +kernel) rfl
theorem wd_1247 : Cond.methodLink RL 73 yX6_printer ∈ goodTbl := gw 1247 (by decide +kernel) rfl
theorem wd_1248 : Cond.instanceMethod yX6_printer ∈ goodTbl := gw 1248 (by decide +kernel) rfl
theorem wd_1249 : Cond.selects RX6 yX6_printer yX6_printer ∈ goodTbl := gw 1249 (by decide +kernel) rfl
theorem wd_1250 : Cond.code yX6_printer cX6_printer 3 (some .int) ∈ goodTbl := gw 1250 (by decide +kernel) rfl
theorem wd_1251 : Cond.methodLink RL 77 yX6_count ∈ goodTbl := gw 1251 (by decide +kernel) rfl
theorem wd_1252 : Cond.instanceMethod yX6_count ∈ goodTbl := gw 1252 (by decide +kernel) rfl
theorem wd_1253 : Cond.selects RX6 yX6_count yX6_count ∈ goodTbl := gw 1253 (by decide +kernel) rfl
theorem wd_1254 : Cond.code yX6_count cX6_count 2 (some .int) ∈ goodTbl := gw 1254 (by decide +kernel) rfl
theorem wd_1255 : Cond.methodLink RL 81 yX6_between ∈ goodTbl := gw 1255 (by decide +kernel) rfl
theorem wd_1256 : Cond.instanceMethod yX6_between ∈ goodTbl := gw 1256 (by decide +kernel) rfl
theorem wd_1257 : Cond.selects RX6 yX6_between yX6_between ∈ goodTbl := gw 1257 (by decide +kernel) rfl
theorem wd_1258 : Cond.code yX6_between cX6_between 9 (some .int) ∈ goodTbl := gw 1258 (by decide +kernel) rfl
theorem wd_1259 : Cond.methodLink RL 85 yX6_doneIn ∈ goodTbl := gw 1259 (by decide +kernel) rfl
theorem wd_1260 : Cond.instanceMethod yX6_doneIn ∈ goodTbl := gw 1260 (by decide +kernel) rfl
theorem wd_1261 : Cond.selects RX6 yX6_doneIn yX6_doneIn ∈ goodTbl := gw 1261 (by decide +kernel) rfl
theorem wd_1262 : Cond.code yX6_doneIn cX6_doneIn 4 (some .int) ∈ goodTbl := gw 1262 (by decide +kernel) rfl
theorem wd_1263 : Cond.methodLink RX6 234 yX6_linesUpTo ∈ goodTbl := gw 1263 (by decide +kernel) rfl
theorem wd_1265 : Cond.instanceMethod yX6_linesUpTo ∈ goodTbl := gw 1265 (by decide +kernel) rfl
theorem wd_1266 : Cond.code yX6_linesUpTo cX6_linesUpTo 5 (some .int) ∈ goodTbl := gw 1266 (by decide +kernel) rfl
theorem wd_1267 : Cond.methodLink RX6 231 yX6_leftOf ∈ goodTbl := gw 1267 (by decide +kernel) rfl
theorem wd_1269 : Cond.instanceMethod yX6_leftOf ∈ goodTbl := gw 1269 (by decide +kernel) rfl
theorem wd_1270 : Cond.code yX6_leftOf cX6_leftOf 2 (some .int) ∈ goodTbl := gw 1270 (by decide +kernel) rfl
theorem wd_1271 : Cond.methodLink RX6 237 yX6_ticksFor ∈ goodTbl := gw 1271 (by decide +kernel) rfl
theorem wd_1273 : Cond.instanceMethod yX6_ticksFor ∈ goodTbl := gw 1273 (by decide +kernel) rfl
theorem wd_1274 : Cond.code yX6_ticksFor cX6_ticksFor 2 (some .int) ∈ goodTbl := gw 1274 (by decide +kernel) rfl
theorem wd_1275 : Cond.methodLink RL 89 yX6_linesLeft ∈ goodTbl := gw 1275 (by decide +kernel) rfl
theorem wd_1276 : Cond.instanceMethod yX6_linesLeft ∈ goodTbl := gw 1276 (by decide +kernel) rfl
theorem wd_1277 : Cond.selects RX6 yX6_linesLeft yX6_linesLeft ∈ goodTbl := gw 1277 (by decide +kernel) rfl
theorem wd_1278 : Cond.code yX6_linesLeft cX6_linesLeft 1 (some .int) ∈ goodTbl := gw 1278 (by decide +kernel) rfl
theorem wd_1279 : Cond.methodLink RX6 240 yX6_allLeft ∈ goodTbl := gw 1279 (by decide +kernel) rfl
theorem wd_1281 : Cond.instanceMethod yX6_allLeft ∈ goodTbl := gw 1281 (by decide +kernel) rfl
theorem wd_1282 : Cond.code yX6_allLeft cX6_allLeft 3 (some .int) ∈ goodTbl := gw 1282 (by decide +kernel) rfl
theorem wd_1283 : Cond.methodLink RL 93 yX6_outIn ∈ goodTbl := gw 1283 (by decide +kernel) rfl
theorem wd_1284 : Cond.instanceMethod yX6_outIn ∈ goodTbl := gw 1284 (by decide +kernel) rfl
theorem wd_1285 : Cond.selects RX6 yX6_outIn yX6_outIn ∈ goodTbl := gw 1285 (by decide +kernel) rfl
theorem wd_1286 : Cond.code yX6_outIn cX6_outIn 1 (some .int) ∈ goodTbl := gw 1286 (by decide +kernel) rfl
theorem wd_1287 : Cond.methodLink RL 97 yX6_bestWidth ∈ goodTbl := gw 1287 (by decide +kernel) rfl
theorem wd_1288 : Cond.instanceMethod yX6_bestWidth ∈ goodTbl := gw 1288 (by decide +kernel) rfl
theorem wd_1289 : Cond.selects RX6 yX6_bestWidth yX6_bestWidth ∈ goodTbl := gw 1289 (by decide +kernel) rfl
theorem wd_1290 : Cond.code yX6_bestWidth cX6_bestWidth 7 (some .int) ∈ goodTbl := gw 1290 (by decide +kernel) rfl
theorem wd_1291 : Cond.methodLink RL 101 yX6_ifStruck ∈ goodTbl := gw 1291 (by decide +kernel) rfl
theorem wd_1292 : Cond.instanceMethod yX6_ifStruck ∈ goodTbl := gw 1292 (by decide +kernel) rfl
theorem wd_1293 : Cond.selects RX6 yX6_ifStruck yX6_ifStruck ∈ goodTbl := gw 1293 (by decide +kernel) rfl
theorem wd_1294 : Cond.code yX6_ifStruck cX6_ifStruck 3 (some .int) ∈ goodTbl := gw 1294 (by decide +kernel) rfl
theorem wd_1295 : Cond.methodLink RL 108 yX6_put ∈ goodTbl := gw 1295 (by decide +kernel) rfl
theorem wd_1296 : Cond.instanceMethod yX6_put ∈ goodTbl := gw 1296 (by decide +kernel) rfl
theorem wd_1297 : Cond.selects RX6 yX6_put yX6_put ∈ goodTbl := gw 1297 (by decide +kernel) rfl
theorem wd_1298 : Cond.code yX6_put cX6_put 8 (some .int) ∈ goodTbl := gw 1298 (by decide +kernel) rfl
theorem wd_1299 : Cond.constantLong RX6 243 (255 : Int64) ∈ goodTbl := gw 1299 (by decide +kernel) rfl
theorem wd_1300 : Cond.methodLink RL 112 yX6_wipe ∈ goodTbl := gw 1300 (by decide +kernel) rfl
theorem wd_1301 : Cond.instanceMethod yX6_wipe ∈ goodTbl := gw 1301 (by decide +kernel) rfl
theorem wd_1302 : Cond.selects RX6 yX6_wipe yX6_wipe ∈ goodTbl := gw 1302 (by decide +kernel) rfl
theorem wd_1303 : Cond.code yX6_wipe cX6_wipe 2 (some .int) ∈ goodTbl := gw 1303 (by decide +kernel) rfl
theorem wd_1304 : Cond.methodLink RL 116 yX6_fault ∈ goodTbl := gw 1304 (by decide +kernel) rfl
theorem wd_1305 : Cond.instanceMethod yX6_fault ∈ goodTbl := gw 1305 (by decide +kernel) rfl
theorem wd_1306 : Cond.selects RX6 yX6_fault yX6_fault ∈ goodTbl := gw 1306 (by decide +kernel) rfl
theorem wd_1307 : Cond.code yX6_fault cX6_fault 1 (some .int) ∈ goodTbl := gw 1307 (by decide +kernel) rfl
theorem wd_1308 : Cond.methodLink RL 120 yX6_undo ∈ goodTbl := gw 1308 (by decide +kernel) rfl
theorem wd_1309 : Cond.instanceMethod yX6_undo ∈ goodTbl := gw 1309 (by decide +kernel) rfl
theorem wd_1310 : Cond.selects RX6 yX6_undo yX6_undo ∈ goodTbl := gw 1310 (by decide +kernel) rfl
theorem wd_1311 : Cond.code yX6_undo cX6_undo 2 (some .int) ∈ goodTbl := gw 1311 (by decide +kernel) rfl
theorem wd_1312 : Cond.methodLink RL 124 yX6_save ∈ goodTbl := gw 1312 (by decide +kernel) rfl
theorem wd_1313 : Cond.instanceMethod yX6_save ∈ goodTbl := gw 1313 (by decide +kernel) rfl
theorem wd_1314 : Cond.selects RX6 yX6_save yX6_save ∈ goodTbl := gw 1314 (by decide +kernel) rfl
theorem wd_1315 : Cond.code yX6_save cX6_save 3 (some .int) ∈ goodTbl := gw 1315 (by decide +kernel) rfl
theorem wd_1316 : Cond.methodLink RL 128 yX6_restore ∈ goodTbl := gw 1316 (by decide +kernel) rfl
theorem wd_1317 : Cond.instanceMethod yX6_restore ∈ goodTbl := gw 1317 (by decide +kernel) rfl
theorem wd_1318 : Cond.selects RX6 yX6_restore yX6_restore ∈ goodTbl := gw 1318 (by decide +kernel) rfl
theorem wd_1319 : Cond.code yX6_restore cX6_restore 3 (some .int) ∈ goodTbl := gw 1319 (by decide +kernel) rfl
theorem wd_1320 : Cond.constantLong RL 102 (4294967295 : Int64) ∈ goodTbl := gw 1320 (by decide +kernel) rfl
theorem wd_1321 : Cond.sameMethod RJ5 RJ5 "length" "()I" ∈ goodTbl := gw 1321 (by decide +kernel) rfl
theorem wd_1322 : Cond.sameMethod RJ5 RJ5 "charAt" "(I)C" ∈ goodTbl := gw 1322 (by decide +kernel) rfl
theorem wd_1323 : Cond.selects RJ4 yJ5_length_8abf5 yJ4_length_8abf5 ∈ goodTbl := gw 1323 (by decide +kernel) rfl
theorem wd_1324 : Cond.sameMethod RJ5 RJ5 "setLength" "(I)V" ∈ goodTbl := gw 1324 (by decide +kernel) rfl
theorem wd_1325 : Cond.sameMethod RJ5 RJ5 "ensureCapacityInternal" "(I)V" ∈ goodTbl := gw 1325 (by decide +kernel) rfl
theorem wd_1326 : Cond.sameMethod RJ5 RJ5 "newCapacity" "(I)I" ∈ goodTbl := gw 1326 (by decide +kernel) rfl
theorem wd_1327 : Cond.sameMethod RJ5 RJ5 "append" "(C)Ljava/lang/AbstractStringBuilder;" ∈ goodTbl := gw 1327 (by decide +kernel) rfl
theorem wd_oi : Cond.instanceMethod Lib.objectInit ∈ goodTbl := gw 96 (by decide +kernel) rfl
theorem wd_oc : Cond.code Lib.objectInit ⟨#[0xb1]⟩ 1 none ∈ goodTbl := gw 97 (by decide +kernel) rfl
theorem wd_cpy : Cond.native arraycopyName ∈ goodTbl ∧ Cond.static arraycopyName ∈ goodTbl ∧ Cond.initialized "java/lang/System" ∈ goodTbl := ⟨gw 444 (by decide +kernel) rfl, gw 443 (by decide +kernel) rfl, gw 86 (by decide +kernel) rfl⟩
theorem wd_max : Cond.static Lib.Math.max.name ∈ goodTbl ∧ Cond.initialized "java/lang/Math" ∈ goodTbl ∧ Cond.code Lib.Math.max.name Lib.Math.max.code 2 (some .int) ∈ goodTbl := ⟨gw 535 (by decide +kernel) rfl, gw 82 (by decide +kernel) rfl, gw 536 (by decide +kernel) rfl⟩
theorem wd_min : Cond.static Lib.Math.min.name ∈ goodTbl ∧ Cond.initialized "java/lang/Math" ∈ goodTbl ∧ Cond.code Lib.Math.min.name Lib.Math.min.code 2 (some .int) ∈ goodTbl := ⟨gw 382 (by decide +kernel) rfl, gw 82 (by decide +kernel) rfl, gw 383 (by decide +kernel) rfl⟩
theorem wd_abs : Cond.static Lib.Math.abs.name ∈ goodTbl ∧ Cond.initialized "java/lang/Math" ∈ goodTbl ∧ Cond.code Lib.Math.abs.name Lib.Math.abs.code 1 (some .int) ∈ goodTbl := ⟨gw 663 (by decide +kernel) rfl, gw 82 (by decide +kernel) rfl, gw 664 (by decide +kernel) rfl⟩
theorem wd_cln : Cond.sameMethod "[B" "java/lang/Object" "clone" "()Ljava/lang/Object;" ∈ goodTbl ∧ Cond.native ⟨"java/lang/Object", "clone", "()Ljava/lang/Object;"⟩ ∈ goodTbl ∧ Cond.instanceMethod ⟨"java/lang/Object", "clone", "()Ljava/lang/Object;"⟩ ∈ goodTbl ∧ Cond.selects "[B" ⟨"[B", "clone", "()Ljava/lang/Object;"⟩ ⟨"java/lang/Object", "clone", "()Ljava/lang/Object;"⟩ ∈ goodTbl := ⟨gw 446 (by decide +kernel) rfl, gw 447 (by decide +kernel) rfl, gw 448 (by decide +kernel) rfl, gw 449 (by decide +kernel) rfl⟩
theorem e_z0 {X : Cx} : ∀ s, Env X s → va_Z "ReceiptRolls" "LEAST_SETTINGS" "[I" (tV (.inr (.inr (X.2.2.2 0)))) (AX X) s s.heap := fun _ h => h.2.2.2.2.1.1
theorem e_z1 {X : Cx} : ∀ s, Env X s → va_Z "ReceiptRolls" "MOST_SETTINGS" "[I" (tV (.inr (.inr (X.2.2.2 1)))) (AX X) s s.heap := fun _ h => h.2.2.2.2.1.2.1
theorem e_z2 {X : Cx} : ∀ s, Env X s → va_Z "ReceiptRolls" "RATES" "[I" (tV (.inr (.inr (X.2.2.2 2)))) (AX X) s s.heap := fun _ h => h.2.2.2.2.1.2.2.1
theorem e_z3 {X : Cx} : ∀ s, Env X s → va_Z "jdk/internal/util/Preconditions" "SIOOBE_FORMATTER" "Ljava/util/function/BiFunction;" (tV (.inr (.inr (X.2.2.2 3)))) (AX X) s s.heap := fun _ h => h.2.2.2.2.1.2.2.2.1
theorem e_z4 {X : Cx} : ∀ s, Env X s → va_Z "java/lang/String" "COMPACT_STRINGS" "Z" (tV (.inl (1 : Int32))) (AX X) s s.heap := fun _ h => h.2.2.2.2.1.2.2.2.2
theorem e_s4 {X : Cx} : ∀ s, Env X s → ∃ a, X.2.2.2 4 = some a ∧ vk_R "ReceiptRolls$Sheet" 19 "#" a s := fun _ h => h.2.2.2.2.2.1.1
theorem e_s5 {X : Cx} : ∀ s, Env X s → ∃ a, X.2.2.2 5 = some a ∧ vk_R "ReceiptRolls$Sheet" 50 "void " a s := fun _ h => h.2.2.2.2.2.1.2.1
theorem e_s6 {X : Cx} : ∀ s, Env X s → ∃ a, X.2.2.2 6 = some a ∧ vk_R "ReceiptRolls$Sheet" 62 "sum" a s := fun _ h => h.2.2.2.2.2.1.2.2.1
theorem e_s7 {X : Cx} : ∀ s, Env X s → ∃ a, X.2.2.2 7 = some a ∧ vk_R "ReceiptRolls$Sheet" 76 "tax " a s := fun _ h => h.2.2.2.2.2.1.2.2.2
theorem e_mX4 {X : Cx} : ∀ s, Env X s → va_Nw (.methodLinkNest "ReceiptRolls$State" 31 yX2_init "ReceiptRolls") s := fun _ h => h.2.2.1.1
theorem e_mX5 {X : Cx} : ∀ s, Env X s → va_Nw (.methodLinkNest "ReceiptRolls" 36 yX3_init "ReceiptRolls") s := fun _ h => h.2.2.1.2
theorem e_nX3 {X : Cx} : ∀ s, Env X s → va_Nw (.fieldLinkNest "ReceiptRolls$Sheet" 69 "ReceiptRolls" "RATES" "[I" "ReceiptRolls") s := fun _ h => h.2.2.2.1.1
theorem e_nX2 {X : Cx} : ∀ s, Env X s → va_Nw (.fieldLinkNest "ReceiptRolls$Receipt" 86 "ReceiptRolls" "RATES" "[I" "ReceiptRolls") s := fun _ h => h.2.2.2.1.2
theorem lvLe_0 : lvLe [] [] := fun _ _ h => h
theorem lvLe_n {a : Option AV} {L L' : List (Option AV)} (h : lvLe L L') : lvLe (a :: L) (none :: L') := by
  intro i v hv
  cases i with
  | zero => cases hv
  | succ i => exact h i v hv
theorem lvLe_s {a : Option AV} {L L' : List (Option AV)} (h : lvLe L L') : lvLe (a :: L) (a :: L') := by
  intro i v hv
  cases i with
  | zero => exact hv
  | succ i => exact h i v hv
theorem ex_ensureCapacityInternal : Cond.selects RJ4 yJ5_ensureCapacityInternal_d00df yJ5_ensureCapacityInternal_d00df ∈ goodTbl := List.mem_append_left _ List.mem_cons_self
theorem ex_newCapacity : Cond.selects RJ4 yJ5_newCapacity_0f7a4 yJ5_newCapacity_0f7a4 ∈ goodTbl := List.mem_append_left _ (List.mem_cons_of_mem _ List.mem_cons_self)
def FU : Nat := 20000
theorem q_ldcw {X : Cx} {M : MI} {h0 h : Hp} {o : Rs} {L : List (Option AV)} {st : List AV} {pc len tgt idx : Nat} {v w : Int32} (hx : tbB M.2.1 (pc, .ldc_w idx, len, v, tgt) = true) (hw : Cond.constant M.1.cls idx w ∈ goodTbl) (g : Gd X M h0 o h (pc + 3) L (.inl w :: st)) : Gd X M h0 o h pc L st := by
  have hd := tb_len hx rfl
  exact q_w g (fun hat _ _ hl k => lv_ldcw hat.1 hat.2.1 hat.2.2.2.1 (hat.2.2.2.2.2.1 _ hw) hd (k _ hl))
end
section
/-- java/lang/AbstractStringBuilder.init -/
abbrev mJ5_init_d00df : MI := (yJ5_init_d00df, cJ5_init_d00df, 2, none, 1)
def tbJ5_init_d00df : List TE := [(0, .aload_n 0, 1, 0, 0), (1, .invokespecial 3, 3, 0, 0), (4, .getstatic 18, 3, 0, 0), (7, .ifCond .eq 18, 3, 0, 25), (10, .aload_n 0, 1, 0, 0), (11, .iload_n 1, 1, 0, 0), (12, .newarray .byte, 2, 0, 0), (14, .putfield 15, 3, 0, 0), (17, .aload_n 0, 1, 0, 0), (18, .iconst 0, 1, 0, 0), (19, .putfield 22, 3, 0, 0), (22, .goto 16, 3, 0, 38), (25, .aload_n 0, 1, 0, 0), (26, .iload_n 1, 1, 0, 0), (27, .invokestatic 26, 3, 0, 0), (30, .putfield 15, 3, 0, 0), (33, .aload_n 0, 1, 0, 0), (34, .iconst 1, 1, 1, 0), (35, .putfield 22, 3, 0, 0), (38, .return_, 1, 0, 0)]
theorem tkJ5_init_d00df : ∀ x ∈ tbJ5_init_d00df, tbB cJ5_init_d00df x = true := tb_all (by decide +kernel)
def fJ5_init_d00df (c : Nat → Option Nat) (h : Hp) (a0 : Option Nat) (a1 : Int32) : Rs := dn a0 (if (1 : Int32) = 0 then none else (nwA h 1 a1 (fun h1 r2 => wr h1 a0 1 0 (.inr (.inr r2)) (fun h3 => wr h3 a0 1 1 (.inl (0 : Int32)) (fun h4 => some (h4, none))))))
set_option maxHeartbeats 4000000 in
set_option maxRecDepth 100000 in
theorem soJ5_init_d00df (X : Cx) (h : Hp) (a0 : Option Nat) (a1 : Int32) : SO X mJ5_init_d00df [.inr (.inr a0), .inl a1] h (fJ5_init_d00df X.2.2.2 h a0 a1) := by
  refine so_of (by decide +kernel) (Nat.le_of_ble_eq_true rfl) ?_
  show Gd X mJ5_init_d00df h (fJ5_init_d00df X.2.2.2 h a0 a1) h 0 [some (.inr (.inr a0)), some (.inl a1)] []
  unfold fJ5_init_d00df
  refine q_run tkJ5_init_d00df 0 1 (pc' := 1) (L' := [some (.inr (.inr a0)), some (.inl a1)]) (st' := [.inr (.inr a0)]) rfl ?_
  refine q_obj (tbm tkJ5_init_d00df (i := 1) rfl) (Nat.le_of_ble_eq_true rfl) (Nat.le_of_ble_eq_true rfl) ⟨wd_250, wd_oi, wd_oc⟩ ?_
  refine q_gs (w := .inl (1 : Int32)) (tbm tkJ5_init_d00df (i := 2) rfl) e_z4 wd_251 ?_
  refine q_if_eq (tbm tkJ5_init_d00df (i := 3) rfl) ?_ ?_
  · refine q_run tkJ5_init_d00df 12 2 (pc' := 27) (L' := [some (.inr (.inr a0)), some (.inl a1)]) (st' := [.inl a1, .inr (.inr a0)]) rfl ?_
    exact gd_none
  · refine q_run tkJ5_init_d00df 4 2 (pc' := 12) (L' := [some (.inr (.inr a0)), some (.inl a1)]) (st' := [.inl a1, .inr (.inr a0)]) rfl ?_
    refine q_newa (k := 1) (Nat.le_of_ble_eq_true rfl) (tbm tkJ5_init_d00df (i := 6) rfl) wd_274 (fun h1 r2 => ?_)
    refine q_wr RJ4 TJ4 4 (tbm tkJ5_init_d00df (i := 7) rfl) rfl (Nat.le_of_ble_eq_true rfl) (Or.inl rfl) wd_260 (fun h3 => ?_)
    refine q_run tkJ5_init_d00df 8 2 (pc' := 19) (L' := [some (.inr (.inr a0)), some (.inl a1)]) (st' := [.inl (0 : Int32), .inr (.inr a0)]) rfl ?_
    refine q_wr RJ4 TJ4 4 (tbm tkJ5_init_d00df (i := 10) rfl) rfl (Nat.le_of_ble_eq_true rfl) (Or.inl rfl) wd_261 (fun h4 => ?_)
    refine q_run tkJ5_init_d00df 11 1 (pc' := 38) (L' := [some (.inr (.inr a0)), some (.inl a1)]) (st' := []) rfl ?_
    exact q_vret (tbm tkJ5_init_d00df (i := 19) rfl) rfl
theorem ceJ5_init_d00df : Ce mJ5_init_d00df 1 := ⟨wd_76, wd_249, by decide +kernel, by decide +kernel, by decide +kernel⟩
/-- java/lang/StringBuilder.init -/
abbrev mJ4_init_da8c8 : MI := (yJ4_init_da8c8, cJ4_init_da8c8, 1, none, 2)
def tbJ4_init_da8c8 : List TE := [(0, .aload_n 0, 1, 0, 0), (1, .bipush 16, 2, 16, 0), (3, .invokespecial 1, 3, 0, 0), (6, .return_, 1, 0, 0)]
theorem tkJ4_init_da8c8 : ∀ x ∈ tbJ4_init_da8c8, tbB cJ4_init_da8c8 x = true := tb_all (by decide +kernel)
def fJ4_init_da8c8 (c : Nat → Option Nat) (h : Hp) (a0 : Option Nat) : Rs := dn a0 (cc (fJ5_init_d00df c h a0 (16 : Int32)) (kV fun h1 => some (h1, none)))
set_option maxHeartbeats 4000000 in
set_option maxRecDepth 100000 in
theorem soJ4_init_da8c8 (X : Cx) (h : Hp) (a0 : Option Nat) : SO X mJ4_init_da8c8 [.inr (.inr a0)] h (fJ4_init_da8c8 X.2.2.2 h a0) := by
  refine so_of (by decide +kernel) (Nat.le_of_ble_eq_true rfl) ?_
  show Gd X mJ4_init_da8c8 h (fJ4_init_da8c8 X.2.2.2 h a0) h 0 [some (.inr (.inr a0))] []
  unfold fJ4_init_da8c8
  refine q_run tkJ4_init_da8c8 0 2 (pc' := 3) (L' := [some (.inr (.inr a0))]) (st' := [.inl (16 : Int32), .inr (.inr a0)]) rfl ?_
  refine q_ci (r := a0) (n := 1) (as := [.inl (16 : Int32)]) (st := []) (soJ5_init_d00df X h a0 (16 : Int32)) (tbm tkJ4_init_da8c8 (i := 2) rfl) rfl ceJ5_init_d00df wd_248 rfl rfl wd_247 rfl (Nat.le_of_ble_eq_true rfl) (kV_gd (fun h1 => ?_))
  exact q_vret (tbm tkJ4_init_da8c8 (i := 3) rfl) rfl
theorem ceJ4_init_da8c8 : Ce mJ4_init_da8c8 0 := ⟨wd_77, wd_246, by decide +kernel, by decide +kernel, by decide +kernel⟩
/-- java/lang/AbstractStringBuilder.length -/
abbrev mJ5_length_8abf5 : MI := (yJ5_length_8abf5, cJ5_length_8abf5, 1, some .int, 0)
def tbJ5_length_8abf5 : List TE := [(0, .aload_n 0, 1, 0, 0), (1, .getfield 79, 3, 0, 0), (4, .ireturn, 1, 0, 0)]
theorem tkJ5_length_8abf5 : ∀ x ∈ tbJ5_length_8abf5, tbB cJ5_length_8abf5 x = true := tb_all (by decide +kernel)
def fJ5_length_8abf5 (c : Nat → Option Nat) (h : Hp) (a0 : Option Nat) : Rs := rdI h a0 1 3 (fun x1 => some (h, some (.inl x1)))
set_option maxHeartbeats 4000000 in
set_option maxRecDepth 100000 in
theorem soJ5_length_8abf5 (X : Cx) (h : Hp) (a0 : Option Nat) : SO X mJ5_length_8abf5 [.inr (.inr a0)] h (fJ5_length_8abf5 X.2.2.2 h a0) := by
  refine so_of (by decide +kernel) (Nat.le_of_ble_eq_true rfl) ?_
  show Gd X mJ5_length_8abf5 h (fJ5_length_8abf5 X.2.2.2 h a0) h 0 [some (.inr (.inr a0))] []
  unfold fJ5_length_8abf5
  refine q_run tkJ5_length_8abf5 0 1 (pc' := 1) (L' := [some (.inr (.inr a0))]) (st' := [.inr (.inr a0)]) rfl ?_
  refine q_rdI RJ4 TJ4 4 (tbm tkJ5_length_8abf5 (i := 1) rfl) rfl (Nat.le_of_ble_eq_true rfl) wd_264 (fun x1 => ?_)
  exact q_iret (tbm tkJ5_length_8abf5 (i := 2) rfl) rfl
theorem ceJ5_length_8abf5 : Ce mJ5_length_8abf5 0 := ⟨wd_76, wd_373, by decide +kernel, by decide +kernel, by decide +kernel⟩
/-- java/lang/StringBuilder.length -/
abbrev mJ4_length_8abf5 : MI := (yJ4_length_8abf5, cJ4_length_8abf5, 1, some .int, 1)
def tbJ4_length_8abf5 : List TE := [(0, .aload_n 0, 1, 0, 0), (1, .invokespecial 343, 3, 0, 0), (4, .ireturn, 1, 0, 0)]
theorem tkJ4_length_8abf5 : ∀ x ∈ tbJ4_length_8abf5, tbB cJ4_length_8abf5 x = true := tb_all (by decide +kernel)
def fJ4_length_8abf5 (c : Nat → Option Nat) (h : Hp) (a0 : Option Nat) : Rs := ck h a0 1 (cc (fJ5_length_8abf5 c h a0) (kI fun h1 x2 => some (h1, some (.inl x2))))
set_option maxHeartbeats 4000000 in
set_option maxRecDepth 100000 in
theorem soJ4_length_8abf5 (X : Cx) (h : Hp) (a0 : Option Nat) : SO X mJ4_length_8abf5 [.inr (.inr a0)] h (fJ4_length_8abf5 X.2.2.2 h a0) := by
  refine so_of (by decide +kernel) (Nat.le_of_ble_eq_true rfl) ?_
  show Gd X mJ4_length_8abf5 h (fJ4_length_8abf5 X.2.2.2 h a0) h 0 [some (.inr (.inr a0))] []
  unfold fJ4_length_8abf5
  refine q_run tkJ4_length_8abf5 0 1 (pc' := 1) (L' := [some (.inr (.inr a0))]) (st' := [.inr (.inr a0)]) rfl ?_
  refine q_csu (r := a0) (ci := 1) (n := 0) (as := []) (st := []) RJ4 TJ4 4 (soJ5_length_8abf5 X h a0) (tbm tkJ4_length_8abf5 (i := 1) rfl) rfl rfl ceJ5_length_8abf5 wd_372 wd_273 wd_1321 (by decide +kernel) wd_371 rfl (Nat.le_of_ble_eq_true rfl) (kI_gd (fun h1 x2 => ?_))
  exact q_iret (tbm tkJ4_length_8abf5 (i := 2) rfl) rfl
theorem ceJ4_length_8abf5 : Ce mJ4_length_8abf5 0 := ⟨wd_77, wd_370, by decide +kernel, by decide +kernel, by decide +kernel⟩
/-- jdk/internal/util/Preconditions.checkIndex -/
abbrev mJ3_checkIndex_8e157 : MI := (yJ3_checkIndex_8e157, cJ3_checkIndex_8e157, 3, some .int, 0)
def tbJ3_checkIndex_8e157 : List TE := [(0, .iload_n 0, 1, 0, 0), (1, .ifCond .lt 8, 3, 0, 9), (4, .iload_n 0, 1, 0, 0), (5, .iload_n 1, 1, 0, 0), (6, .if_icmp .lt 10, 3, 0, 16), (9, .aload_n 2, 1, 0, 0), (10, .iload_n 0, 1, 0, 0), (11, .iload_n 1, 1, 0, 0), (12, .invokestatic 95, 3, 0, 0), (15, .athrow, 1, 0, 0), (16, .iload_n 0, 1, 0, 0), (17, .ireturn, 1, 0, 0)]
theorem tkJ3_checkIndex_8e157 : ∀ x ∈ tbJ3_checkIndex_8e157, tbB cJ3_checkIndex_8e157 x = true := tb_all (by decide +kernel)
def fJ3_checkIndex_8e157_9 (c : Nat → Option Nat) (h : Hp) (l0 : Int32) (l1 : Int32) (l2 : Option Nat) : Rs := none
set_option maxHeartbeats 4000000 in
set_option maxRecDepth 100000 in
theorem sJ3_checkIndex_8e157_9 (X : Cx) {h0 : Hp} (h : Hp) (l0 : Int32) (l1 : Int32) (l2 : Option Nat) : Gd X mJ3_checkIndex_8e157 h0 (fJ3_checkIndex_8e157_9 X.2.2.2 h l0 l1 l2) h 9 [some (.inl l0), some (.inl l1), some (.inr (.inr l2))] [] := by
  unfold fJ3_checkIndex_8e157_9
  refine q_run tkJ3_checkIndex_8e157 5 3 (pc' := 12) (L' := [some (.inl l0), some (.inl l1), some (.inr (.inr l2))]) (st' := [.inl l1, .inl l0, .inr (.inr l2)]) rfl ?_
  exact gd_none
def fJ3_checkIndex_8e157 (c : Nat → Option Nat) (h : Hp) (a0 : Int32) (a1 : Int32) (a2 : Option Nat) : Rs := if a0 < 0 then (fJ3_checkIndex_8e157_9 c h a0 a1 a2) else (if a0 < a1 then (some (h, some (.inl a0))) else (fJ3_checkIndex_8e157_9 c h a0 a1 a2))
set_option maxHeartbeats 4000000 in
set_option maxRecDepth 100000 in
theorem soJ3_checkIndex_8e157 (X : Cx) (h : Hp) (a0 : Int32) (a1 : Int32) (a2 : Option Nat) : SO X mJ3_checkIndex_8e157 [.inl a0, .inl a1, .inr (.inr a2)] h (fJ3_checkIndex_8e157 X.2.2.2 h a0 a1 a2) := by
  refine so_of (by decide +kernel) (Nat.le_of_ble_eq_true rfl) ?_
  show Gd X mJ3_checkIndex_8e157 h (fJ3_checkIndex_8e157 X.2.2.2 h a0 a1 a2) h 0 [some (.inl a0), some (.inl a1), some (.inr (.inr a2))] []
  unfold fJ3_checkIndex_8e157
  refine q_run tkJ3_checkIndex_8e157 0 1 (pc' := 1) (L' := [some (.inl a0), some (.inl a1), some (.inr (.inr a2))]) (st' := [.inl a0]) rfl ?_
  refine q_if_lt (tbm tkJ3_checkIndex_8e157 (i := 1) rfl) ?_ ?_
  · exact sJ3_checkIndex_8e157_9 X h a0 a1 a2
  · refine q_run tkJ3_checkIndex_8e157 2 2 (pc' := 6) (L' := [some (.inl a0), some (.inl a1), some (.inr (.inr a2))]) (st' := [.inl a1, .inl a0]) rfl ?_
    refine q_icmp_lt (tbm tkJ3_checkIndex_8e157 (i := 4) rfl) ?_ ?_
    · refine q_run tkJ3_checkIndex_8e157 10 1 (pc' := 17) (L' := [some (.inl a0), some (.inl a1), some (.inr (.inr a2))]) (st' := [.inl a0]) rfl ?_
      exact q_iret (tbm tkJ3_checkIndex_8e157 (i := 11) rfl) rfl
    · exact sJ3_checkIndex_8e157_9 X h a0 a1 a2
theorem ceJ3_checkIndex_8e157 : Ce mJ3_checkIndex_8e157 3 := ⟨wd_83, wd_391, by decide +kernel, by decide +kernel, by decide +kernel⟩
/-- java/lang/String.checkIndex -/
abbrev mJ0_checkIndex_df160 : MI := (yJ0_checkIndex_df160, cJ0_checkIndex_df160, 2, none, 1)
def tbJ0_checkIndex_df160 : List TE := [(0, .iload_n 0, 1, 0, 0), (1, .iload_n 1, 1, 0, 0), (2, .getstatic 1053, 3, 0, 0), (5, .invokestatic 1059, 3, 0, 0), (8, .pop, 1, 0, 0), (9, .return_, 1, 0, 0)]
theorem tkJ0_checkIndex_df160 : ∀ x ∈ tbJ0_checkIndex_df160, tbB cJ0_checkIndex_df160 x = true := tb_all (by decide +kernel)
def fJ0_checkIndex_df160 (c : Nat → Option Nat) (h : Hp) (a0 : Int32) (a1 : Int32) : Rs := cc (fJ3_checkIndex_8e157 c h a0 a1 (c 3)) (kI fun h1 x2 => some (h1, none))
set_option maxHeartbeats 4000000 in
set_option maxRecDepth 100000 in
theorem soJ0_checkIndex_df160 (X : Cx) (h : Hp) (a0 : Int32) (a1 : Int32) : SO X mJ0_checkIndex_df160 [.inl a0, .inl a1] h (fJ0_checkIndex_df160 X.2.2.2 h a0 a1) := by
  refine so_of (by decide +kernel) (Nat.le_of_ble_eq_true rfl) ?_
  show Gd X mJ0_checkIndex_df160 h (fJ0_checkIndex_df160 X.2.2.2 h a0 a1) h 0 [some (.inl a0), some (.inl a1)] []
  unfold fJ0_checkIndex_df160
  refine q_run tkJ0_checkIndex_df160 0 2 (pc' := 2) (L' := [some (.inl a0), some (.inl a1)]) (st' := [.inl a1, .inl a0]) rfl ?_
  refine q_gs (w := .inr (.inr (X.2.2.2 3))) (tbm tkJ0_checkIndex_df160 (i := 2) rfl) e_z3 wd_387 ?_
  refine q_cs (n := 3) (as := [.inl a0, .inl a1, .inr (.inr (X.2.2.2 3))]) (st := []) (soJ3_checkIndex_8e157 X h a0 a1 (X.2.2.2 3)) (tbm tkJ0_checkIndex_df160 (i := 3) rfl) rfl ceJ3_checkIndex_8e157 wd_390 wd_389 rfl (Nat.le_of_ble_eq_true rfl) (kI_gd (fun h1 x2 => ?_))
  refine q_run tkJ0_checkIndex_df160 4 1 (pc' := 9) (L' := [some (.inl a0), some (.inl a1)]) (st' := []) rfl ?_
  exact q_vret (tbm tkJ0_checkIndex_df160 (i := 5) rfl) rfl
theorem ceJ0_checkIndex_df160 : Ce mJ0_checkIndex_df160 2 := ⟨wd_78, wd_386, by decide +kernel, by decide +kernel, by decide +kernel⟩
/-- java/lang/AbstractStringBuilder.charAt -/
abbrev mJ5_charAt_5068e : MI := (yJ5_charAt_5068e, cJ5_charAt_5068e, 5, some .char, 2)
def tbJ5_charAt_5068e : List TE := [(0, .aload_n 0, 1, 0, 0), (1, .getfield 22, 3, 0, 0), (4, .istore_n 2, 1, 0, 0), (5, .aload_n 0, 1, 0, 0), (6, .getfield 15, 3, 0, 0), (9, .astore_n 3, 1, 0, 0), (10, .aload_n 0, 1, 0, 0), (11, .getfield 79, 3, 0, 0), (14, .aload_n 3, 1, 0, 0), (15, .arraylength, 1, 0, 0), (16, .iload_n 2, 1, 0, 0), (17, .ishr, 1, 0, 0), (18, .invokestatic 138, 3, 0, 0), (21, .istore 4, 2, 0, 0), (23, .iload_n 1, 1, 0, 0), (24, .iload 4, 2, 0, 0), (26, .invokestatic 144, 3, 0, 0), (29, .iload_n 2, 1, 0, 0), (30, .ifCond .ne 12, 3, 0, 42), (33, .aload_n 3, 1, 0, 0), (34, .iload_n 1, 1, 0, 0), (35, .baload, 1, 0, 0), (36, .sipush 255, 3, 255, 0), (39, .iand, 1, 0, 0), (40, .i2c, 1, 0, 0), (41, .ireturn, 1, 0, 0), (42, .aload_n 3, 1, 0, 0), (43, .iload_n 1, 1, 0, 0), (44, .invokestatic 148, 3, 0, 0), (47, .ireturn, 1, 0, 0)]
theorem tkJ5_charAt_5068e : ∀ x ∈ tbJ5_charAt_5068e, tbB cJ5_charAt_5068e x = true := tb_all (by decide +kernel)
def fJ5_charAt_5068e (c : Nat → Option Nat) (h : Hp) (a0 : Option Nat) (a1 : Int32) : Rs := rdI h a0 1 1 (fun x1 => rdR h a0 1 0 (fun r2 => rdI h a0 1 3 (fun x3 => lenA h r2 (fun x4 => cc (fJ0_checkIndex_df160 c h a1 (mnI x3 (shrI x4 x1))) (kV fun h5 => if x1 = 0 then (aldI h5 r2 [1, 2, 11] a1 (fun x6 => rtI .char h5 (chI (x6 &&& (255 : Int32))))) else none)))))
set_option maxHeartbeats 4000000 in
set_option maxRecDepth 100000 in
theorem soJ5_charAt_5068e (X : Cx) (h : Hp) (a0 : Option Nat) (a1 : Int32) : SO X mJ5_charAt_5068e [.inr (.inr a0), .inl a1] h (fJ5_charAt_5068e X.2.2.2 h a0 a1) := by
  refine so_of (by decide +kernel) (Nat.le_of_ble_eq_true rfl) ?_
  show Gd X mJ5_charAt_5068e h (fJ5_charAt_5068e X.2.2.2 h a0 a1) h 0 [some (.inr (.inr a0)), some (.inl a1), none, none, none] []
  unfold fJ5_charAt_5068e
  refine q_run tkJ5_charAt_5068e 0 1 (pc' := 1) (L' := [some (.inr (.inr a0)), some (.inl a1), none, none, none]) (st' := [.inr (.inr a0)]) rfl ?_
  refine q_rdI RJ4 TJ4 4 (tbm tkJ5_charAt_5068e (i := 1) rfl) rfl (Nat.le_of_ble_eq_true rfl) wd_261 (fun x1 => ?_)
  refine q_run tkJ5_charAt_5068e 2 2 (pc' := 6) (L' := [some (.inr (.inr a0)), some (.inl a1), some (.inl x1), none, none]) (st' := [.inr (.inr a0)]) rfl ?_
  refine q_rdR RJ4 TJ4 4 (tbm tkJ5_charAt_5068e (i := 4) rfl) rfl (Nat.le_of_ble_eq_true rfl) wd_260 (fun r2 => ?_)
  refine q_run tkJ5_charAt_5068e 5 2 (pc' := 11) (L' := [some (.inr (.inr a0)), some (.inl a1), some (.inl x1), some (.inr (.inr r2)), none]) (st' := [.inr (.inr a0)]) rfl ?_
  refine q_rdI RJ4 TJ4 4 (tbm tkJ5_charAt_5068e (i := 7) rfl) rfl (Nat.le_of_ble_eq_true rfl) wd_264 (fun x3 => ?_)
  refine q_run tkJ5_charAt_5068e 8 1 (pc' := 15) (L' := [some (.inr (.inr a0)), some (.inl a1), some (.inl x1), some (.inr (.inr r2)), none]) (st' := [.inr (.inr r2), .inl x3]) rfl ?_
  refine q_alen (tbm tkJ5_charAt_5068e (i := 9) rfl) (fun x4 => ?_)
  refine q_run tkJ5_charAt_5068e 10 2 (pc' := 18) (L' := [some (.inr (.inr a0)), some (.inl a1), some (.inl x1), some (.inr (.inr r2)), none]) (st' := [.inl (shrI x4 x1), .inl x3]) rfl ?_
  refine q_mmin (tbm tkJ5_charAt_5068e (i := 12) rfl) (Nat.le_of_ble_eq_true rfl) (Nat.le_of_ble_eq_true rfl) ⟨wd_381, wd_min⟩ ?_
  refine q_run tkJ5_charAt_5068e 13 3 (pc' := 26) (L' := [some (.inr (.inr a0)), some (.inl a1), some (.inl x1), some (.inr (.inr r2)), some (.inl (mnI x3 (shrI x4 x1)))]) (st' := [.inl (mnI x3 (shrI x4 x1)), .inl a1]) rfl ?_
  refine q_cs (n := 2) (as := [.inl a1, .inl (mnI x3 (shrI x4 x1))]) (st := []) (soJ0_checkIndex_df160 X h a1 (mnI x3 (shrI x4 x1))) (tbm tkJ5_charAt_5068e (i := 16) rfl) rfl ceJ0_checkIndex_df160 wd_385 wd_384 rfl (Nat.le_of_ble_eq_true rfl) (kV_gd (fun h5 => ?_))
  refine q_run tkJ5_charAt_5068e 17 1 (pc' := 30) (L' := [some (.inr (.inr a0)), some (.inl a1), some (.inl x1), some (.inr (.inr r2)), some (.inl (mnI x3 (shrI x4 x1)))]) (st' := [.inl x1]) rfl ?_
  refine q_if_ne (tbm tkJ5_charAt_5068e (i := 18) rfl) ?_ ?_
  · refine q_run tkJ5_charAt_5068e 19 2 (pc' := 35) (L' := [some (.inr (.inr a0)), some (.inl a1), some (.inl x1), some (.inr (.inr r2)), some (.inl (mnI x3 (shrI x4 x1)))]) (st' := [.inl a1, .inr (.inr r2)]) rfl ?_
    refine q_baload (tbm tkJ5_charAt_5068e (i := 21) rfl) (fun x6 => ?_)
    refine q_run tkJ5_charAt_5068e 22 3 (pc' := 41) (L' := [some (.inr (.inr a0)), some (.inl a1), some (.inl x1), some (.inr (.inr r2)), some (.inl (mnI x3 (shrI x4 x1)))]) (st' := [.inl (chI (x6 &&& (255 : Int32)))]) rfl ?_
    exact q_zret (tbm tkJ5_charAt_5068e (i := 25) rfl) rfl
  · refine q_run tkJ5_charAt_5068e 26 2 (pc' := 44) (L' := [some (.inr (.inr a0)), some (.inl a1), some (.inl x1), some (.inr (.inr r2)), some (.inl (mnI x3 (shrI x4 x1)))]) (st' := [.inl a1, .inr (.inr r2)]) rfl ?_
    exact gd_none
theorem ceJ5_charAt_5068e : Ce mJ5_charAt_5068e 1 := ⟨wd_76, wd_380, by decide +kernel, by decide +kernel, by decide +kernel⟩
/-- java/lang/StringBuilder.charAt -/
abbrev mJ4_charAt_5068e : MI := (yJ4_charAt_5068e, cJ4_charAt_5068e, 2, some .char, 3)
def tbJ4_charAt_5068e : List TE := [(0, .aload_n 0, 1, 0, 0), (1, .iload_n 1, 1, 0, 0), (2, .invokespecial 329, 3, 0, 0), (5, .ireturn, 1, 0, 0)]
theorem tkJ4_charAt_5068e : ∀ x ∈ tbJ4_charAt_5068e, tbB cJ4_charAt_5068e x = true := tb_all (by decide +kernel)
def fJ4_charAt_5068e (c : Nat → Option Nat) (h : Hp) (a0 : Option Nat) (a1 : Int32) : Rs := ck h a0 1 (cc (fJ5_charAt_5068e c h a0 a1) (kI fun h1 x2 => rtI .char h1 x2))
set_option maxHeartbeats 4000000 in
set_option maxRecDepth 100000 in
theorem soJ4_charAt_5068e (X : Cx) (h : Hp) (a0 : Option Nat) (a1 : Int32) : SO X mJ4_charAt_5068e [.inr (.inr a0), .inl a1] h (fJ4_charAt_5068e X.2.2.2 h a0 a1) := by
  refine so_of (by decide +kernel) (Nat.le_of_ble_eq_true rfl) ?_
  show Gd X mJ4_charAt_5068e h (fJ4_charAt_5068e X.2.2.2 h a0 a1) h 0 [some (.inr (.inr a0)), some (.inl a1)] []
  unfold fJ4_charAt_5068e
  refine q_run tkJ4_charAt_5068e 0 2 (pc' := 2) (L' := [some (.inr (.inr a0)), some (.inl a1)]) (st' := [.inl a1, .inr (.inr a0)]) rfl ?_
  refine q_csu (r := a0) (ci := 1) (n := 1) (as := [.inl a1]) (st := []) RJ4 TJ4 4 (soJ5_charAt_5068e X h a0 a1) (tbm tkJ4_charAt_5068e (i := 2) rfl) rfl rfl ceJ5_charAt_5068e wd_379 wd_273 wd_1322 (by decide +kernel) wd_378 rfl (Nat.le_of_ble_eq_true rfl) (kI_gd (fun h1 x2 => ?_))
  exact q_zret (tbm tkJ4_charAt_5068e (i := 3) rfl) rfl
theorem ceJ4_charAt_5068e : Ce mJ4_charAt_5068e 1 := ⟨wd_77, wd_377, by decide +kernel, by decide +kernel, by decide +kernel⟩
/-- java/lang/AbstractStringBuilder.getValue -/
abbrev mJ5_getValue_6d5f1 : MI := (yJ5_getValue_6d5f1, cJ5_getValue_6d5f1, 1, some (.array .byte), 0)
def tbJ5_getValue_6d5f1 : List TE := [(0, .aload_n 0, 1, 0, 0), (1, .getfield 15, 3, 0, 0), (4, .areturn, 1, 0, 0)]
theorem tkJ5_getValue_6d5f1 : ∀ x ∈ tbJ5_getValue_6d5f1, tbB cJ5_getValue_6d5f1 x = true := tb_all (by decide +kernel)
def fJ5_getValue_6d5f1 (c : Nat → Option Nat) (h : Hp) (a0 : Option Nat) : Rs := rdR h a0 1 0 (fun r1 => some (h, some (.inr (.inr r1))))
set_option maxHeartbeats 4000000 in
set_option maxRecDepth 100000 in
theorem soJ5_getValue_6d5f1 (X : Cx) (h : Hp) (a0 : Option Nat) : SO X mJ5_getValue_6d5f1 [.inr (.inr a0)] h (fJ5_getValue_6d5f1 X.2.2.2 h a0) := by
  refine so_of (by decide +kernel) (Nat.le_of_ble_eq_true rfl) ?_
  show Gd X mJ5_getValue_6d5f1 h (fJ5_getValue_6d5f1 X.2.2.2 h a0) h 0 [some (.inr (.inr a0))] []
  unfold fJ5_getValue_6d5f1
  refine q_run tkJ5_getValue_6d5f1 0 1 (pc' := 1) (L' := [some (.inr (.inr a0))]) (st' := [.inr (.inr a0)]) rfl ?_
  refine q_rdR RJ4 TJ4 4 (tbm tkJ5_getValue_6d5f1 (i := 1) rfl) rfl (Nat.le_of_ble_eq_true rfl) wd_260 (fun r1 => ?_)
  exact q_aret (tbm tkJ5_getValue_6d5f1 (i := 2) rfl) rfl (Or.inr ⟨_, rfl⟩)
theorem ceJ5_getValue_6d5f1 : Ce mJ5_getValue_6d5f1 0 := ⟨wd_76, wd_425, by decide +kernel, by decide +kernel, by decide +kernel⟩
/-- java/lang/AbstractStringBuilder.isLatin1 -/
abbrev mJ5_isLatin1_aae02 : MI := (yJ5_isLatin1_aae02, cJ5_isLatin1_aae02, 1, some .boolean, 0)
def tbJ5_isLatin1_aae02 : List TE := [(0, .getstatic 18, 3, 0, 0), (3, .ifCond .eq 14, 3, 0, 17), (6, .aload_n 0, 1, 0, 0), (7, .getfield 22, 3, 0, 0), (10, .ifCond .ne 7, 3, 0, 17), (13, .iconst 1, 1, 1, 0), (14, .goto 4, 3, 0, 18), (17, .iconst 0, 1, 0, 0), (18, .ireturn, 1, 0, 0)]
theorem tkJ5_isLatin1_aae02 : ∀ x ∈ tbJ5_isLatin1_aae02, tbB cJ5_isLatin1_aae02 x = true := tb_all (by decide +kernel)
def fJ5_isLatin1_aae02_18 (c : Nat → Option Nat) (h : Hp) (s0 : Int32) : Rs := rtI .boolean h s0
set_option maxHeartbeats 4000000 in
set_option maxRecDepth 100000 in
theorem sJ5_isLatin1_aae02_18 (X : Cx) {h0 : Hp} (h : Hp) (s0 : Int32) : Gd X mJ5_isLatin1_aae02 h0 (fJ5_isLatin1_aae02_18 X.2.2.2 h s0) h 18 [none] [.inl s0] := by
  unfold fJ5_isLatin1_aae02_18
  exact q_zret (tbm tkJ5_isLatin1_aae02 (i := 8) rfl) rfl
def fJ5_isLatin1_aae02_17 (c : Nat → Option Nat) (h : Hp) : Rs := fJ5_isLatin1_aae02_18 c h (0 : Int32)
set_option maxHeartbeats 4000000 in
set_option maxRecDepth 100000 in
theorem sJ5_isLatin1_aae02_17 (X : Cx) {h0 : Hp} (h : Hp) : Gd X mJ5_isLatin1_aae02 h0 (fJ5_isLatin1_aae02_17 X.2.2.2 h) h 17 [none] [] := by
  unfold fJ5_isLatin1_aae02_17
  refine q_run tkJ5_isLatin1_aae02 7 1 (pc' := 18) (L' := [none]) (st' := [.inl (0 : Int32)]) rfl ?_
  exact sJ5_isLatin1_aae02_18 X h (0 : Int32)
def fJ5_isLatin1_aae02 (c : Nat → Option Nat) (h : Hp) (a0 : Option Nat) : Rs := if (1 : Int32) = 0 then (fJ5_isLatin1_aae02_17 c h) else (rdI h a0 1 1 (fun x1 => if x1 = 0 then (fJ5_isLatin1_aae02_18 c h (1 : Int32)) else (fJ5_isLatin1_aae02_17 c h)))
set_option maxHeartbeats 4000000 in
set_option maxRecDepth 100000 in
theorem soJ5_isLatin1_aae02 (X : Cx) (h : Hp) (a0 : Option Nat) : SO X mJ5_isLatin1_aae02 [.inr (.inr a0)] h (fJ5_isLatin1_aae02 X.2.2.2 h a0) := by
  refine so_of (by decide +kernel) (Nat.le_of_ble_eq_true rfl) ?_
  show Gd X mJ5_isLatin1_aae02 h (fJ5_isLatin1_aae02 X.2.2.2 h a0) h 0 [some (.inr (.inr a0))] []
  unfold fJ5_isLatin1_aae02
  refine q_gs (w := .inl (1 : Int32)) (tbm tkJ5_isLatin1_aae02 (i := 0) rfl) e_z4 wd_251 ?_
  refine q_if_eq (tbm tkJ5_isLatin1_aae02 (i := 1) rfl) ?_ ?_
  · refine q_le (L' := [none]) (lvLe_n lvLe_0) ?_
    exact sJ5_isLatin1_aae02_17 X h
  · refine q_run tkJ5_isLatin1_aae02 2 1 (pc' := 7) (L' := [some (.inr (.inr a0))]) (st' := [.inr (.inr a0)]) rfl ?_
    refine q_rdI RJ4 TJ4 4 (tbm tkJ5_isLatin1_aae02 (i := 3) rfl) rfl (Nat.le_of_ble_eq_true rfl) wd_261 (fun x1 => ?_)
    refine q_if_ne (tbm tkJ5_isLatin1_aae02 (i := 4) rfl) ?_ ?_
    · refine q_run tkJ5_isLatin1_aae02 5 2 (pc' := 18) (L' := [some (.inr (.inr a0))]) (st' := [.inl (1 : Int32)]) rfl ?_
      refine q_le (L' := [none]) (lvLe_n lvLe_0) ?_
      exact sJ5_isLatin1_aae02_18 X h (1 : Int32)
    · refine q_le (L' := [none]) (lvLe_n lvLe_0) ?_
      exact sJ5_isLatin1_aae02_17 X h
theorem ceJ5_isLatin1_aae02 : Ce mJ5_isLatin1_aae02 0 := ⟨wd_76, wd_431, by decide +kernel, by decide +kernel, by decide +kernel⟩
/-- java/util/Arrays.checkLength -/
abbrev mJ7_checkLength_df160 : MI := (yJ7_checkLength_df160, cJ7_checkLength_df160, 2, none, 0)
def tbJ7_checkLength_df160 : List TE := [(0, .iload_n 1, 1, 0, 0), (1, .iload_n 0, 1, 0, 0), (2, .if_icmp .ge 35, 3, 0, 37), (5, .new 43, 3, 0, 0), (8, .dup, 1, 0, 0), (9, .new 45, 3, 0, 0), (12, .dup, 1, 0, 0), (13, .invokespecial 47, 3, 0, 0), (16, .iload_n 0, 1, 0, 0), (17, .invokevirtual 54, 3, 0, 0), (20, .ldc_w 337, 3, 0, 0), (23, .invokevirtual 50, 3, 0, 0), (26, .iload_n 1, 1, 0, 0), (27, .invokevirtual 54, 3, 0, 0), (30, .invokevirtual 61, 3, 0, 0), (33, .invokespecial 65, 3, 0, 0), (36, .athrow, 1, 0, 0), (37, .return_, 1, 0, 0)]
theorem tkJ7_checkLength_df160 : ∀ x ∈ tbJ7_checkLength_df160, tbB cJ7_checkLength_df160 x = true := tb_all (by decide +kernel)
def fJ7_checkLength_df160 (c : Nat → Option Nat) (h : Hp) (a0 : Int32) (a1 : Int32) : Rs := if a1 < a0 then none else (some (h, none))
set_option maxHeartbeats 4000000 in
set_option maxRecDepth 100000 in
theorem soJ7_checkLength_df160 (X : Cx) (h : Hp) (a0 : Int32) (a1 : Int32) : SO X mJ7_checkLength_df160 [.inl a0, .inl a1] h (fJ7_checkLength_df160 X.2.2.2 h a0 a1) := by
  refine so_of (by decide +kernel) (Nat.le_of_ble_eq_true rfl) ?_
  show Gd X mJ7_checkLength_df160 h (fJ7_checkLength_df160 X.2.2.2 h a0 a1) h 0 [some (.inl a0), some (.inl a1)] []
  unfold fJ7_checkLength_df160
  refine q_run tkJ7_checkLength_df160 0 2 (pc' := 2) (L' := [some (.inl a0), some (.inl a1)]) (st' := [.inl a0, .inl a1]) rfl ?_
  refine q_icmp_ge (tbm tkJ7_checkLength_df160 (i := 2) rfl) ?_ ?_
  · exact gd_none
  · exact q_vret (tbm tkJ7_checkLength_df160 (i := 17) rfl) rfl
theorem ceJ7_checkLength_df160 : Ce mJ7_checkLength_df160 2 := ⟨wd_85, wd_440, by decide +kernel, by decide +kernel, by decide +kernel⟩
/-- java/util/Arrays.copyOfRangeByte -/
abbrev mJ7_copyOfRangeByte_39247 : MI := (yJ7_copyOfRangeByte_39247, cJ7_copyOfRangeByte_39247, 5, some (.array .byte), 1)
def tbJ7_copyOfRangeByte_39247 : List TE := [(0, .iload_n 1, 1, 0, 0), (1, .iload_n 2, 1, 0, 0), (2, .invokestatic 343, 3, 0, 0), (5, .iload_n 2, 1, 0, 0), (6, .iload_n 1, 1, 0, 0), (7, .isub, 1, 0, 0), (8, .istore_n 3, 1, 0, 0), (9, .iload_n 3, 1, 0, 0), (10, .newarray .byte, 2, 0, 0), (12, .astore 4, 2, 0, 0), (14, .aload_n 0, 1, 0, 0), (15, .iload_n 1, 1, 0, 0), (16, .aload 4, 2, 0, 0), (18, .iconst 0, 1, 0, 0), (19, .aload_n 0, 1, 0, 0), (20, .arraylength, 1, 0, 0), (21, .iload_n 1, 1, 0, 0), (22, .isub, 1, 0, 0), (23, .iload_n 3, 1, 0, 0), (24, .invokestatic 304, 3, 0, 0), (27, .invokestatic 150, 3, 0, 0), (30, .aload 4, 2, 0, 0), (32, .areturn, 1, 0, 0)]
theorem tkJ7_copyOfRangeByte_39247 : ∀ x ∈ tbJ7_copyOfRangeByte_39247, tbB cJ7_copyOfRangeByte_39247 x = true := tb_all (by decide +kernel)
def fJ7_copyOfRangeByte_39247 (c : Nat → Option Nat) (h : Hp) (a0 : Option Nat) (a1 : Int32) (a2 : Int32) : Rs := cc (fJ7_checkLength_df160 c h a1 a2) (kV fun h1 => nwA h1 1 (a2 - a1) (fun h2 r3 => lenA h2 a0 (fun x4 => cpyB h2 a0 a1 r3 (0 : Int32) (mnI (x4 - a1) (a2 - a1)) (fun h5 => some (h5, some (.inr (.inr r3)))))))
set_option maxHeartbeats 4000000 in
set_option maxRecDepth 100000 in
theorem soJ7_copyOfRangeByte_39247 (X : Cx) (h : Hp) (a0 : Option Nat) (a1 : Int32) (a2 : Int32) : SO X mJ7_copyOfRangeByte_39247 [.inr (.inr a0), .inl a1, .inl a2] h (fJ7_copyOfRangeByte_39247 X.2.2.2 h a0 a1 a2) := by
  refine so_of (by decide +kernel) (Nat.le_of_ble_eq_true rfl) ?_
  show Gd X mJ7_copyOfRangeByte_39247 h (fJ7_copyOfRangeByte_39247 X.2.2.2 h a0 a1 a2) h 0 [some (.inr (.inr a0)), some (.inl a1), some (.inl a2), none, none] []
  unfold fJ7_copyOfRangeByte_39247
  refine q_run tkJ7_copyOfRangeByte_39247 0 2 (pc' := 2) (L' := [some (.inr (.inr a0)), some (.inl a1), some (.inl a2), none, none]) (st' := [.inl a2, .inl a1]) rfl ?_
  refine q_cs (n := 2) (as := [.inl a1, .inl a2]) (st := []) (soJ7_checkLength_df160 X h a1 a2) (tbm tkJ7_copyOfRangeByte_39247 (i := 2) rfl) rfl ceJ7_checkLength_df160 wd_439 wd_438 rfl (Nat.le_of_ble_eq_true rfl) (kV_gd (fun h1 => ?_))
  refine q_run tkJ7_copyOfRangeByte_39247 3 5 (pc' := 10) (L' := [some (.inr (.inr a0)), some (.inl a1), some (.inl a2), some (.inl (a2 - a1)), none]) (st' := [.inl (a2 - a1)]) rfl ?_
  refine q_newa (k := 1) (Nat.le_of_ble_eq_true rfl) (tbm tkJ7_copyOfRangeByte_39247 (i := 8) rfl) wd_274 (fun h2 r3 => ?_)
  refine q_run tkJ7_copyOfRangeByte_39247 9 6 (pc' := 20) (L' := [some (.inr (.inr a0)), some (.inl a1), some (.inl a2), some (.inl (a2 - a1)), some (.inr (.inr r3))]) (st' := [.inr (.inr a0), .inl (0 : Int32), .inr (.inr r3), .inl a1, .inr (.inr a0)]) rfl ?_
  refine q_alen (tbm tkJ7_copyOfRangeByte_39247 (i := 15) rfl) (fun x4 => ?_)
  refine q_run tkJ7_copyOfRangeByte_39247 16 3 (pc' := 24) (L' := [some (.inr (.inr a0)), some (.inl a1), some (.inl a2), some (.inl (a2 - a1)), some (.inr (.inr r3))]) (st' := [.inl (a2 - a1), .inl (x4 - a1), .inl (0 : Int32), .inr (.inr r3), .inl a1, .inr (.inr a0)]) rfl ?_
  refine q_mmin (tbm tkJ7_copyOfRangeByte_39247 (i := 19) rfl) (Nat.le_of_ble_eq_true rfl) (Nat.le_of_ble_eq_true rfl) ⟨wd_441, wd_min⟩ ?_
  refine q_cpy (tbm tkJ7_copyOfRangeByte_39247 (i := 20) rfl) (Nat.le_of_ble_eq_true rfl) (Nat.le_of_ble_eq_true rfl) ⟨wd_442, wd_cpy⟩ (fun h5 => ?_)
  refine q_run tkJ7_copyOfRangeByte_39247 21 1 (pc' := 32) (L' := [some (.inr (.inr a0)), some (.inl a1), some (.inl a2), some (.inl (a2 - a1)), some (.inr (.inr r3))]) (st' := [.inr (.inr r3)]) rfl ?_
  exact q_aret (tbm tkJ7_copyOfRangeByte_39247 (i := 22) rfl) rfl (Or.inr ⟨_, rfl⟩)
theorem ceJ7_copyOfRangeByte_39247 : Ce mJ7_copyOfRangeByte_39247 3 := ⟨wd_85, wd_437, by decide +kernel, by decide +kernel, by decide +kernel⟩
/-- java/util/Arrays.copyOfRange -/
abbrev mJ7_copyOfRange_39247 : MI := (yJ7_copyOfRange_39247, cJ7_copyOfRange_39247, 3, some (.array .byte), 2)
def tbJ7_copyOfRange_39247 : List TE := [(0, .iload_n 1, 1, 0, 0), (1, .ifCond .ne 9, 3, 0, 10), (4, .iload_n 2, 1, 0, 0), (5, .aload_n 0, 1, 0, 0), (6, .arraylength, 1, 0, 0), (7, .if_icmp .eq 10, 3, 0, 17), (10, .aload_n 0, 1, 0, 0), (11, .iload_n 1, 1, 0, 0), (12, .iload_n 2, 1, 0, 0), (13, .invokestatic 339, 3, 0, 0), (16, .areturn, 1, 0, 0), (17, .aload_n 0, 1, 0, 0), (18, .invokevirtual 310, 3, 0, 0), (21, .checkcast 311, 3, 0, 0), (24, .areturn, 1, 0, 0)]
theorem tkJ7_copyOfRange_39247 : ∀ x ∈ tbJ7_copyOfRange_39247, tbB cJ7_copyOfRange_39247 x = true := tb_all (by decide +kernel)
def fJ7_copyOfRange_39247_10 (c : Nat → Option Nat) (h : Hp) (l0 : Option Nat) (l1 : Int32) (l2 : Int32) : Rs := cc (fJ7_copyOfRangeByte_39247 c h l0 l1 l2) (kR fun h1 r2 => some (h1, some (.inr (.inr r2))))
set_option maxHeartbeats 4000000 in
set_option maxRecDepth 100000 in
theorem sJ7_copyOfRange_39247_10 (X : Cx) {h0 : Hp} (h : Hp) (l0 : Option Nat) (l1 : Int32) (l2 : Int32) : Gd X mJ7_copyOfRange_39247 h0 (fJ7_copyOfRange_39247_10 X.2.2.2 h l0 l1 l2) h 10 [some (.inr (.inr l0)), some (.inl l1), some (.inl l2)] [] := by
  unfold fJ7_copyOfRange_39247_10
  refine q_run tkJ7_copyOfRange_39247 6 3 (pc' := 13) (L' := [some (.inr (.inr l0)), some (.inl l1), some (.inl l2)]) (st' := [.inl l2, .inl l1, .inr (.inr l0)]) rfl ?_
  refine q_cs (n := 3) (as := [.inr (.inr l0), .inl l1, .inl l2]) (st := []) (soJ7_copyOfRangeByte_39247 X h l0 l1 l2) (tbm tkJ7_copyOfRange_39247 (i := 9) rfl) rfl ceJ7_copyOfRangeByte_39247 wd_436 wd_435 rfl (Nat.le_of_ble_eq_true rfl) (kR_gd (fun h1 r2 => ?_))
  exact q_aret (tbm tkJ7_copyOfRange_39247 (i := 10) rfl) rfl (Or.inr ⟨_, rfl⟩)
def fJ7_copyOfRange_39247 (c : Nat → Option Nat) (h : Hp) (a0 : Option Nat) (a1 : Int32) (a2 : Int32) : Rs := if a1 = 0 then (lenA h a0 (fun x3 => if a2 = x3 then (clnB h a0 (fun h4 r5 => ckB h4 r5 (some (h4, some (.inr (.inr r5)))))) else (fJ7_copyOfRange_39247_10 c h a0 a1 a2))) else (fJ7_copyOfRange_39247_10 c h a0 a1 a2)
set_option maxHeartbeats 4000000 in
set_option maxRecDepth 100000 in
theorem soJ7_copyOfRange_39247 (X : Cx) (h : Hp) (a0 : Option Nat) (a1 : Int32) (a2 : Int32) : SO X mJ7_copyOfRange_39247 [.inr (.inr a0), .inl a1, .inl a2] h (fJ7_copyOfRange_39247 X.2.2.2 h a0 a1 a2) := by
  refine so_of (by decide +kernel) (Nat.le_of_ble_eq_true rfl) ?_
  show Gd X mJ7_copyOfRange_39247 h (fJ7_copyOfRange_39247 X.2.2.2 h a0 a1 a2) h 0 [some (.inr (.inr a0)), some (.inl a1), some (.inl a2)] []
  unfold fJ7_copyOfRange_39247
  refine q_run tkJ7_copyOfRange_39247 0 1 (pc' := 1) (L' := [some (.inr (.inr a0)), some (.inl a1), some (.inl a2)]) (st' := [.inl a1]) rfl ?_
  refine q_if_ne (tbm tkJ7_copyOfRange_39247 (i := 1) rfl) ?_ ?_
  · refine q_run tkJ7_copyOfRange_39247 2 2 (pc' := 6) (L' := [some (.inr (.inr a0)), some (.inl a1), some (.inl a2)]) (st' := [.inr (.inr a0), .inl a2]) rfl ?_
    refine q_alen (tbm tkJ7_copyOfRange_39247 (i := 4) rfl) (fun x3 => ?_)
    refine q_icmp_eq (tbm tkJ7_copyOfRange_39247 (i := 5) rfl) ?_ ?_
    · refine q_run tkJ7_copyOfRange_39247 11 1 (pc' := 18) (L' := [some (.inr (.inr a0)), some (.inl a1), some (.inl a2)]) (st' := [.inr (.inr a0)]) rfl ?_
      refine q_cln (tbm tkJ7_copyOfRange_39247 (i := 12) rfl) (Nat.le_of_ble_eq_true rfl) (Nat.le_of_ble_eq_true rfl) ⟨wd_445, wd_cln⟩ (fun h4 r5 => ?_)
      refine q_ckB (tbm tkJ7_copyOfRange_39247 (i := 13) rfl) wd_451 ?_
      exact q_aret (tbm tkJ7_copyOfRange_39247 (i := 14) rfl) rfl (Or.inr ⟨_, rfl⟩)
    · exact sJ7_copyOfRange_39247_10 X h a0 a1 a2
  · exact sJ7_copyOfRange_39247_10 X h a0 a1 a2
theorem ceJ7_copyOfRange_39247 : Ce mJ7_copyOfRange_39247 3 := ⟨wd_85, wd_434, by decide +kernel, by decide +kernel, by decide +kernel⟩
/-- java/lang/String.init -/
abbrev mJ0_init_db425 : MI := (yJ0_init_db425, cJ0_init_db425, 5, none, 3)
def tbJ0_init_db425 : List TE := [(0, .aload_n 0, 1, 0, 0), (1, .invokespecial 1, 3, 0, 0), (4, .aload_n 1, 1, 0, 0), (5, .invokevirtual 552, 3, 0, 0), (8, .astore_n 3, 1, 0, 0), (9, .aload_n 1, 1, 0, 0), (10, .invokevirtual 549, 3, 0, 0), (13, .istore 4, 2, 0, 0), (15, .aload_n 1, 1, 0, 0), (16, .invokevirtual 1047, 3, 0, 0), (19, .ifCond .eq 22, 3, 0, 41), (22, .aload_n 0, 1, 0, 0), (23, .iconst 0, 1, 0, 0), (24, .putfield 15, 3, 0, 0), (27, .aload_n 0, 1, 0, 0), (28, .aload_n 3, 1, 0, 0), (29, .iconst 0, 1, 0, 0), (30, .iload 4, 2, 0, 0), (32, .invokestatic 54, 3, 0, 0), (35, .putfield 9, 3, 0, 0), (38, .goto 59, 3, 0, 97), (41, .getstatic 38, 3, 0, 0), (44, .ifCond .eq 35, 3, 0, 79), (47, .aload_n 1, 1, 0, 0), (48, .getfield 1048, 3, 0, 0), (51, .ifCond .eq 28, 3, 0, 79), (54, .aload_n 0, 1, 0, 0), (55, .aload_n 3, 1, 0, 0), (56, .iconst 0, 1, 0, 0), (57, .iload 4, 2, 0, 0), (59, .invokestatic 1051, 3, 0, 0), (62, .putfield 9, 3, 0, 0), (65, .aload_n 0, 1, 0, 0), (66, .aload_n 0, 1, 0, 0), (67, .getfield 9, 3, 0, 0), (70, .iload 4, 2, 0, 0), (72, .invokestatic 47, 3, 0, 0), (75, .putfield 15, 3, 0, 0), (78, .return_, 1, 0, 0), (79, .aload_n 0, 1, 0, 0), (80, .iconst 1, 1, 1, 0), (81, .putfield 15, 3, 0, 0), (84, .aload_n 0, 1, 0, 0), (85, .aload_n 3, 1, 0, 0), (86, .iconst 0, 1, 0, 0), (87, .iload 4, 2, 0, 0), (89, .iconst 1, 1, 1, 0), (90, .ishl, 1, 0, 0), (91, .invokestatic 54, 3, 0, 0), (94, .putfield 9, 3, 0, 0), (97, .return_, 1, 0, 0)]
theorem tkJ0_init_db425 : ∀ x ∈ tbJ0_init_db425, tbB cJ0_init_db425 x = true := tb_all (by decide +kernel)
def fJ0_init_db425_97 (c : Nat → Option Nat) (h : Hp) : Rs := some (h, none)
set_option maxHeartbeats 4000000 in
set_option maxRecDepth 100000 in
theorem sJ0_init_db425_97 (X : Cx) {h0 : Hp} (h : Hp) : Gd X mJ0_init_db425 h0 (fJ0_init_db425_97 X.2.2.2 h) h 97 [none, none, none, none, none] [] := by
  unfold fJ0_init_db425_97
  exact q_vret (tbm tkJ0_init_db425 (i := 50) rfl) rfl
def fJ0_init_db425_79 (c : Nat → Option Nat) (h : Hp) (l0 : Option Nat) (l3 : Option Nat) (l4 : Int32) : Rs := wr h l0 0 1 (.inl (1 : Int32)) (fun h1 => cc (fJ7_copyOfRange_39247 c h1 l3 (0 : Int32) (shlI l4 (1 : Int32))) (kR fun h2 r3 => wr h2 l0 0 0 (.inr (.inr r3)) (fun h4 => fJ0_init_db425_97 c h4)))
set_option maxHeartbeats 4000000 in
set_option maxRecDepth 100000 in
theorem sJ0_init_db425_79 (X : Cx) {h0 : Hp} (h : Hp) (l0 : Option Nat) (l3 : Option Nat) (l4 : Int32) : Gd X mJ0_init_db425 h0 (fJ0_init_db425_79 X.2.2.2 h l0 l3 l4) h 79 [some (.inr (.inr l0)), none, none, some (.inr (.inr l3)), some (.inl l4)] [] := by
  unfold fJ0_init_db425_79
  refine q_run tkJ0_init_db425 39 2 (pc' := 81) (L' := [some (.inr (.inr l0)), none, none, some (.inr (.inr l3)), some (.inl l4)]) (st' := [.inl (1 : Int32), .inr (.inr l0)]) rfl ?_
  refine q_wr RJ0 TJ0 4 (tbm tkJ0_init_db425 (i := 41) rfl) rfl (Nat.le_of_ble_eq_true rfl) (Or.inr ⟨rfl, rfl⟩) wd_474 (fun h1 => ?_)
  refine q_run tkJ0_init_db425 42 6 (pc' := 91) (L' := [some (.inr (.inr l0)), none, none, some (.inr (.inr l3)), some (.inl l4)]) (st' := [.inl (shlI l4 (1 : Int32)), .inl (0 : Int32), .inr (.inr l3), .inr (.inr l0)]) rfl ?_
  refine q_cs (n := 3) (as := [.inr (.inr l3), .inl (0 : Int32), .inl (shlI l4 (1 : Int32))]) (st := [.inr (.inr l0)]) (soJ7_copyOfRange_39247 X h1 l3 (0 : Int32) (shlI l4 (1 : Int32))) (tbm tkJ0_init_db425 (i := 48) rfl) rfl ceJ7_copyOfRange_39247 wd_433 wd_432 rfl (Nat.le_of_ble_eq_true rfl) (kR_gd (fun h2 r3 => ?_))
  refine q_wr RJ0 TJ0 4 (tbm tkJ0_init_db425 (i := 49) rfl) rfl (Nat.le_of_ble_eq_true rfl) (Or.inr ⟨rfl, rfl⟩) wd_473 (fun h4 => ?_)
  refine q_le (L' := [none, none, none, none, none]) (lvLe_n (lvLe_n (lvLe_n (lvLe_n (lvLe_n lvLe_0))))) ?_
  exact sJ0_init_db425_97 X h4
def fJ0_init_db425 (c : Nat → Option Nat) (h : Hp) (a0 : Option Nat) (a1 : Option Nat) (a2 : Option Nat) : Rs := dn a0 (ck h a1 1 (cc (fJ5_getValue_6d5f1 c h a1) (kR fun h5 r6 => ck h5 a1 1 (cc (fJ4_length_8abf5 c h5 a1) (kI fun h7 x8 => ck h7 a1 1 (cc (fJ5_isLatin1_aae02 c h7 a1) (kI fun h9 x10 => if x10 = 0 then (if (1 : Int32) = 0 then (fJ0_init_db425_79 c h9 a0 r6 x8) else (rdI h9 a1 1 2 (fun x11 => if x11 = 0 then (fJ0_init_db425_79 c h9 a0 r6 x8) else none))) else (wr h9 a0 0 1 (.inl (0 : Int32)) (fun h12 => cc (fJ7_copyOfRange_39247 c h12 r6 (0 : Int32) x8) (kR fun h13 r14 => wr h13 a0 0 0 (.inr (.inr r14)) (fun h15 => fJ0_init_db425_97 c h15)))))))))))
set_option maxHeartbeats 4000000 in
set_option maxRecDepth 100000 in
theorem soJ0_init_db425 (X : Cx) (h : Hp) (a0 : Option Nat) (a1 : Option Nat) (a2 : Option Nat) : SO X mJ0_init_db425 [.inr (.inr a0), .inr (.inr a1), .inr (.inr a2)] h (fJ0_init_db425 X.2.2.2 h a0 a1 a2) := by
  refine so_of (by decide +kernel) (Nat.le_of_ble_eq_true rfl) ?_
  show Gd X mJ0_init_db425 h (fJ0_init_db425 X.2.2.2 h a0 a1 a2) h 0 [some (.inr (.inr a0)), some (.inr (.inr a1)), some (.inr (.inr a2)), none, none] []
  unfold fJ0_init_db425
  refine q_run tkJ0_init_db425 0 1 (pc' := 1) (L' := [some (.inr (.inr a0)), some (.inr (.inr a1)), some (.inr (.inr a2)), none, none]) (st' := [.inr (.inr a0)]) rfl ?_
  refine q_obj (tbm tkJ0_init_db425 (i := 1) rfl) (Nat.le_of_ble_eq_true rfl) (Nat.le_of_ble_eq_true rfl) ⟨wd_420, wd_oi, wd_oc⟩ ?_
  refine q_run tkJ0_init_db425 2 1 (pc' := 5) (L' := [some (.inr (.inr a0)), some (.inr (.inr a1)), some (.inr (.inr a2)), none, none]) (st' := [.inr (.inr a1)]) rfl ?_
  refine q_cu (r := a1) (ci := 1) (n := 0) (as := []) (st := []) RJ4 TJ4 4 (soJ5_getValue_6d5f1 X h a1) (tbm tkJ0_init_db425 (i := 3) rfl) rfl rfl ceJ5_getValue_6d5f1 wd_422 wd_424 wd_423 wd_421 rfl (Nat.le_of_ble_eq_true rfl) (kR_gd (fun h5 r6 => ?_))
  refine q_run tkJ0_init_db425 4 2 (pc' := 10) (L' := [some (.inr (.inr a0)), some (.inr (.inr a1)), some (.inr (.inr a2)), some (.inr (.inr r6)), none]) (st' := [.inr (.inr a1)]) rfl ?_
  refine q_co (r := a1) (ci := 1) (n := 0) (as := []) (st := []) yJ5_length_8abf5 TJ4 4 (soJ4_length_8abf5 X h5 a1) (tbm tkJ0_init_db425 (i := 6) rfl) rfl rfl ceJ4_length_8abf5 wd_368 wd_1323 wd_1321 wd_372 wd_373 ⟨by decide +kernel, by decide +kernel, by decide +kernel⟩ wd_426 rfl (Nat.le_of_ble_eq_true rfl) (kI_gd (fun h7 x8 => ?_))
  refine q_run tkJ0_init_db425 7 2 (pc' := 16) (L' := [some (.inr (.inr a0)), some (.inr (.inr a1)), some (.inr (.inr a2)), some (.inr (.inr r6)), some (.inl x8)]) (st' := [.inr (.inr a1)]) rfl ?_
  refine q_cu (r := a1) (ci := 1) (n := 0) (as := []) (st := []) RJ4 TJ4 4 (soJ5_isLatin1_aae02 X h7 a1) (tbm tkJ0_init_db425 (i := 9) rfl) rfl rfl ceJ5_isLatin1_aae02 wd_428 wd_430 wd_429 wd_427 rfl (Nat.le_of_ble_eq_true rfl) (kI_gd (fun h9 x10 => ?_))
  refine q_if_eq (tbm tkJ0_init_db425 (i := 10) rfl) ?_ ?_
  · refine q_gs (w := .inl (1 : Int32)) (tbm tkJ0_init_db425 (i := 21) rfl) e_z4 wd_452 ?_
    refine q_if_eq (tbm tkJ0_init_db425 (i := 22) rfl) ?_ ?_
    · refine q_le (L' := [some (.inr (.inr a0)), none, none, some (.inr (.inr r6)), some (.inl x8)]) (lvLe_s (lvLe_n (lvLe_n (lvLe_s (lvLe_s lvLe_0))))) ?_
      exact sJ0_init_db425_79 X h9 a0 r6 x8
    · refine q_run tkJ0_init_db425 23 1 (pc' := 48) (L' := [some (.inr (.inr a0)), some (.inr (.inr a1)), some (.inr (.inr a2)), some (.inr (.inr r6)), some (.inl x8)]) (st' := [.inr (.inr a1)]) rfl ?_
      refine q_rdI RJ4 TJ4 4 (tbm tkJ0_init_db425 (i := 24) rfl) rfl (Nat.le_of_ble_eq_true rfl) wd_263 (fun x11 => ?_)
      refine q_if_eq (tbm tkJ0_init_db425 (i := 25) rfl) ?_ ?_
      · refine q_le (L' := [some (.inr (.inr a0)), none, none, some (.inr (.inr r6)), some (.inl x8)]) (lvLe_s (lvLe_n (lvLe_n (lvLe_s (lvLe_s lvLe_0))))) ?_
        exact sJ0_init_db425_79 X h9 a0 r6 x8
      · refine q_run tkJ0_init_db425 26 4 (pc' := 59) (L' := [some (.inr (.inr a0)), some (.inr (.inr a1)), some (.inr (.inr a2)), some (.inr (.inr r6)), some (.inl x8)]) (st' := [.inl x8, .inl (0 : Int32), .inr (.inr r6), .inr (.inr a0)]) rfl ?_
        exact gd_none
  · refine q_run tkJ0_init_db425 11 2 (pc' := 24) (L' := [some (.inr (.inr a0)), some (.inr (.inr a1)), some (.inr (.inr a2)), some (.inr (.inr r6)), some (.inl x8)]) (st' := [.inl (0 : Int32), .inr (.inr a0)]) rfl ?_
    refine q_wr RJ0 TJ0 4 (tbm tkJ0_init_db425 (i := 13) rfl) rfl (Nat.le_of_ble_eq_true rfl) (Or.inr ⟨rfl, rfl⟩) wd_474 (fun h12 => ?_)
    refine q_run tkJ0_init_db425 14 4 (pc' := 32) (L' := [some (.inr (.inr a0)), some (.inr (.inr a1)), some (.inr (.inr a2)), some (.inr (.inr r6)), some (.inl x8)]) (st' := [.inl x8, .inl (0 : Int32), .inr (.inr r6), .inr (.inr a0)]) rfl ?_
    refine q_cs (n := 3) (as := [.inr (.inr r6), .inl (0 : Int32), .inl x8]) (st := [.inr (.inr a0)]) (soJ7_copyOfRange_39247 X h12 r6 (0 : Int32) x8) (tbm tkJ0_init_db425 (i := 18) rfl) rfl ceJ7_copyOfRange_39247 wd_433 wd_432 rfl (Nat.le_of_ble_eq_true rfl) (kR_gd (fun h13 r14 => ?_))
    refine q_wr RJ0 TJ0 4 (tbm tkJ0_init_db425 (i := 19) rfl) rfl (Nat.le_of_ble_eq_true rfl) (Or.inr ⟨rfl, rfl⟩) wd_473 (fun h15 => ?_)
    refine q_run tkJ0_init_db425 20 1 (pc' := 97) (L' := [some (.inr (.inr a0)), some (.inr (.inr a1)), some (.inr (.inr a2)), some (.inr (.inr r6)), some (.inl x8)]) (st' := []) rfl ?_
    refine q_le (L' := [none, none, none, none, none]) (lvLe_n (lvLe_n (lvLe_n (lvLe_n (lvLe_n lvLe_0))))) ?_
    exact sJ0_init_db425_97 X h15
theorem ceJ0_init_db425 : Ce mJ0_init_db425 2 := ⟨wd_78, wd_419, by decide +kernel, by decide +kernel, by decide +kernel⟩
/-- java/lang/String.init -/
abbrev mJ0_init_81219 : MI := (yJ0_init_81219, cJ0_init_81219, 2, none, 4)
def tbJ0_init_81219 : List TE := [(0, .aload_n 0, 1, 0, 0), (1, .aload_n 1, 1, 0, 0), (2, .aconst_null, 1, 0, 0), (3, .invokespecial 489, 3, 0, 0), (6, .return_, 1, 0, 0)]
theorem tkJ0_init_81219 : ∀ x ∈ tbJ0_init_81219, tbB cJ0_init_81219 x = true := tb_all (by decide +kernel)
def fJ0_init_81219 (c : Nat → Option Nat) (h : Hp) (a0 : Option Nat) (a1 : Option Nat) : Rs := dn a0 (cc (fJ0_init_db425 c h a0 a1 none) (kV fun h1 => some (h1, none)))
set_option maxHeartbeats 4000000 in
set_option maxRecDepth 100000 in
theorem soJ0_init_81219 (X : Cx) (h : Hp) (a0 : Option Nat) (a1 : Option Nat) : SO X mJ0_init_81219 [.inr (.inr a0), .inr (.inr a1)] h (fJ0_init_81219 X.2.2.2 h a0 a1) := by
  refine so_of (by decide +kernel) (Nat.le_of_ble_eq_true rfl) ?_
  show Gd X mJ0_init_81219 h (fJ0_init_81219 X.2.2.2 h a0 a1) h 0 [some (.inr (.inr a0)), some (.inr (.inr a1))] []
  unfold fJ0_init_81219
  refine q_run tkJ0_init_81219 0 3 (pc' := 3) (L' := [some (.inr (.inr a0)), some (.inr (.inr a1))]) (st' := [.inr (.inr none), .inr (.inr a1), .inr (.inr a0)]) rfl ?_
  refine q_ci (r := a0) (n := 2) (as := [.inr (.inr a1), .inr (.inr none)]) (st := []) (soJ0_init_db425 X h a0 a1 none) (tbm tkJ0_init_81219 (i := 3) rfl) rfl ceJ0_init_db425 wd_418 rfl rfl wd_417 rfl (Nat.le_of_ble_eq_true rfl) (kV_gd (fun h1 => ?_))
  exact q_vret (tbm tkJ0_init_81219 (i := 4) rfl) rfl
theorem ceJ0_init_81219 : Ce mJ0_init_81219 1 := ⟨wd_78, wd_416, by decide +kernel, by decide +kernel, by decide +kernel⟩
/-- java/lang/StringBuilder.toString -/
abbrev mJ4_toString_0e30d : MI := (yJ4_toString_0e30d, cJ4_toString_0e30d, 1, some (.object "java/lang/String"), 5)
def tbJ4_toString_0e30d : List TE := [(0, .new 18, 3, 0, 0), (3, .dup, 1, 0, 0), (4, .aload_n 0, 1, 0, 0), (5, .invokespecial 137, 3, 0, 0), (8, .areturn, 1, 0, 0)]
theorem tkJ4_toString_0e30d : ∀ x ∈ tbJ4_toString_0e30d, tbB cJ4_toString_0e30d x = true := tb_all (by decide +kernel)
def fJ4_toString_0e30d (c : Nat → Option Nat) (h : Hp) (a0 : Option Nat) : Rs := nwO h 0 (fun h1 r2 => dn r2 (cc (fJ0_init_81219 c h1 r2 a0) (kV fun h3 => some (h3, some (.inr (.inr r2))))))
set_option maxHeartbeats 4000000 in
set_option maxRecDepth 100000 in
theorem soJ4_toString_0e30d (X : Cx) (h : Hp) (a0 : Option Nat) : SO X mJ4_toString_0e30d [.inr (.inr a0)] h (fJ4_toString_0e30d X.2.2.2 h a0) := by
  refine so_of (by decide +kernel) (Nat.le_of_ble_eq_true rfl) ?_
  show Gd X mJ4_toString_0e30d h (fJ4_toString_0e30d X.2.2.2 h a0) h 0 [some (.inr (.inr a0))] []
  unfold fJ4_toString_0e30d
  refine q_new RJ0 TJ0 4 (tbm tkJ4_toString_0e30d (i := 0) rfl) (Nat.le_of_ble_eq_true rfl) rfl ⟨wd_412, wd_413, wd_78⟩ (fun h1 r2 => ?_)
  refine q_run tkJ4_toString_0e30d 1 2 (pc' := 5) (L' := [some (.inr (.inr a0))]) (st' := [.inr (.inr a0), .inr (.inr r2), .inr (.inr r2)]) rfl ?_
  refine q_ci (r := r2) (n := 1) (as := [.inr (.inr a0)]) (st := [.inr (.inr r2)]) (soJ0_init_81219 X h1 r2 a0) (tbm tkJ4_toString_0e30d (i := 3) rfl) rfl ceJ0_init_81219 wd_415 rfl rfl wd_414 rfl (Nat.le_of_ble_eq_true rfl) (kV_gd (fun h3 => ?_))
  exact q_aret (tbm tkJ4_toString_0e30d (i := 4) rfl) rfl (Or.inl ⟨_, rfl⟩)
theorem ceJ4_toString_0e30d : Ce mJ4_toString_0e30d 0 := ⟨wd_77, wd_411, by decide +kernel, by decide +kernel, by decide +kernel⟩
/-- jdk/internal/util/ArraysSupport.newLength -/
abbrev mJ8_newLength_cabcc : MI := (yJ8_newLength_cabcc, cJ8_newLength_cabcc, 4, some .int, 1)
def tbJ8_newLength_cabcc : List TE := [(0, .iload_n 0, 1, 0, 0), (1, .iload_n 1, 1, 0, 0), (2, .iload_n 2, 1, 0, 0), (3, .invokestatic 194, 3, 0, 0), (6, .iadd, 1, 0, 0), (7, .istore_n 3, 1, 0, 0), (8, .iconst 0, 1, 0, 0), (9, .iload_n 3, 1, 0, 0), (10, .if_icmp .ge 11, 3, 0, 21), (13, .iload_n 3, 1, 0, 0), (14, .ldc 200, 2, 0, 0), (16, .if_icmp .gt 5, 3, 0, 21), (19, .iload_n 3, 1, 0, 0), (20, .ireturn, 1, 0, 0), (21, .iload_n 0, 1, 0, 0), (22, .iload_n 1, 1, 0, 0), (23, .invokestatic 201, 3, 0, 0), (26, .ireturn, 1, 0, 0)]
theorem tkJ8_newLength_cabcc : ∀ x ∈ tbJ8_newLength_cabcc, tbB cJ8_newLength_cabcc x = true := tb_all (by decide +kernel)
def fJ8_newLength_cabcc_21 (c : Nat → Option Nat) (h : Hp) (l0 : Int32) (l1 : Int32) : Rs := none
set_option maxHeartbeats 4000000 in
set_option maxRecDepth 100000 in
theorem sJ8_newLength_cabcc_21 (X : Cx) {h0 : Hp} (h : Hp) (l0 : Int32) (l1 : Int32) : Gd X mJ8_newLength_cabcc h0 (fJ8_newLength_cabcc_21 X.2.2.2 h l0 l1) h 21 [some (.inl l0), some (.inl l1), none, none] [] := by
  unfold fJ8_newLength_cabcc_21
  refine q_run tkJ8_newLength_cabcc 14 2 (pc' := 23) (L' := [some (.inl l0), some (.inl l1), none, none]) (st' := [.inl l1, .inl l0]) rfl ?_
  exact gd_none
def fJ8_newLength_cabcc (c : Nat → Option Nat) (h : Hp) (a0 : Int32) (a1 : Int32) (a2 : Int32) : Rs := if (0 : Int32) < (a0 + (mxI a1 a2)) then (if (2147483639 : Int32) < (a0 + (mxI a1 a2)) then (fJ8_newLength_cabcc_21 c h a0 a1) else (some (h, some (.inl (a0 + (mxI a1 a2)))))) else (fJ8_newLength_cabcc_21 c h a0 a1)
set_option maxHeartbeats 4000000 in
set_option maxRecDepth 100000 in
theorem soJ8_newLength_cabcc (X : Cx) (h : Hp) (a0 : Int32) (a1 : Int32) (a2 : Int32) : SO X mJ8_newLength_cabcc [.inl a0, .inl a1, .inl a2] h (fJ8_newLength_cabcc X.2.2.2 h a0 a1 a2) := by
  refine so_of (by decide +kernel) (Nat.le_of_ble_eq_true rfl) ?_
  show Gd X mJ8_newLength_cabcc h (fJ8_newLength_cabcc X.2.2.2 h a0 a1 a2) h 0 [some (.inl a0), some (.inl a1), some (.inl a2), none] []
  unfold fJ8_newLength_cabcc
  refine q_run tkJ8_newLength_cabcc 0 3 (pc' := 3) (L' := [some (.inl a0), some (.inl a1), some (.inl a2), none]) (st' := [.inl a2, .inl a1, .inl a0]) rfl ?_
  refine q_mmax (tbm tkJ8_newLength_cabcc (i := 3) rfl) (Nat.le_of_ble_eq_true rfl) (Nat.le_of_ble_eq_true rfl) ⟨wd_534, wd_max⟩ ?_
  refine q_run tkJ8_newLength_cabcc 4 4 (pc' := 10) (L' := [some (.inl a0), some (.inl a1), some (.inl a2), some (.inl (a0 + (mxI a1 a2)))]) (st' := [.inl (a0 + (mxI a1 a2)), .inl (0 : Int32)]) rfl ?_
  refine q_icmp_ge (tbm tkJ8_newLength_cabcc (i := 8) rfl) ?_ ?_
  · refine q_run tkJ8_newLength_cabcc 9 1 (pc' := 14) (L' := [some (.inl a0), some (.inl a1), some (.inl a2), some (.inl (a0 + (mxI a1 a2)))]) (st' := [.inl (a0 + (mxI a1 a2))]) rfl ?_
    refine q_ldc (w := (2147483639 : Int32)) (tbm tkJ8_newLength_cabcc (i := 10) rfl) wd_537 ?_
    refine q_icmp_gt (tbm tkJ8_newLength_cabcc (i := 11) rfl) ?_ ?_
    · refine q_le (L' := [some (.inl a0), some (.inl a1), none, none]) (lvLe_s (lvLe_s (lvLe_n (lvLe_n lvLe_0)))) ?_
      exact sJ8_newLength_cabcc_21 X h a0 a1
    · refine q_run tkJ8_newLength_cabcc 12 1 (pc' := 20) (L' := [some (.inl a0), some (.inl a1), some (.inl a2), some (.inl (a0 + (mxI a1 a2)))]) (st' := [.inl (a0 + (mxI a1 a2))]) rfl ?_
      exact q_iret (tbm tkJ8_newLength_cabcc (i := 13) rfl) rfl
  · refine q_le (L' := [some (.inl a0), some (.inl a1), none, none]) (lvLe_s (lvLe_s (lvLe_n (lvLe_n lvLe_0)))) ?_
    exact sJ8_newLength_cabcc_21 X h a0 a1
theorem ceJ8_newLength_cabcc : Ce mJ8_newLength_cabcc 3 := ⟨wd_87, wd_533, by decide +kernel, by decide +kernel, by decide +kernel⟩
/-- java/lang/AbstractStringBuilder.newCapacity -/
abbrev mJ5_newCapacity_0f7a4 : MI := (yJ5_newCapacity_0f7a4, cJ5_newCapacity_0f7a4, 6, some .int, 2)
def tbJ5_newCapacity_0f7a4 : List TE := [(0, .aload_n 0, 1, 0, 0), (1, .getfield 15, 3, 0, 0), (4, .arraylength, 1, 0, 0), (5, .istore_n 2, 1, 0, 0), (6, .iload_n 1, 1, 0, 0), (7, .aload_n 0, 1, 0, 0), (8, .getfield 22, 3, 0, 0), (11, .ishl, 1, 0, 0), (12, .istore_n 3, 1, 0, 0), (13, .iload_n 3, 1, 0, 0), (14, .iload_n 2, 1, 0, 0), (15, .isub, 1, 0, 0), (16, .istore 4, 2, 0, 0), (18, .iload_n 2, 1, 0, 0), (19, .iload 4, 2, 0, 0), (21, .iload_n 2, 1, 0, 0), (22, .iconst 2, 1, 2, 0), (23, .aload_n 0, 1, 0, 0), (24, .getfield 22, 3, 0, 0), (27, .ishl, 1, 0, 0), (28, .iadd, 1, 0, 0), (29, .invokestatic 114, 3, 0, 0), (32, .istore 5, 2, 0, 0), (34, .iload 5, 2, 0, 0), (36, .ldc 39, 2, 0, 0), (38, .if_icmp .ne 13, 3, 0, 51), (41, .new 120, 3, 0, 0), (44, .dup, 1, 0, 0), (45, .ldc 122, 2, 0, 0), (47, .invokespecial 124, 3, 0, 0), (50, .athrow, 1, 0, 0), (51, .iload 5, 2, 0, 0), (53, .aload_n 0, 1, 0, 0), (54, .getfield 22, 3, 0, 0), (57, .ishr, 1, 0, 0), (58, .ireturn, 1, 0, 0)]
theorem tkJ5_newCapacity_0f7a4 : ∀ x ∈ tbJ5_newCapacity_0f7a4, tbB cJ5_newCapacity_0f7a4 x = true := tb_all (by decide +kernel)
def fJ5_newCapacity_0f7a4 (c : Nat → Option Nat) (h : Hp) (a0 : Option Nat) (a1 : Int32) : Rs := rdR h a0 1 0 (fun r1 => lenA h r1 (fun x2 => rdI h a0 1 1 (fun x3 => rdI h a0 1 1 (fun x4 => cc (fJ8_newLength_cabcc c h x2 ((shlI a1 x3) - x2) (x2 + (shlI (2 : Int32) x4))) (kI fun h5 x6 => if x6 = (2147483647 : Int32) then none else (rdI h5 a0 1 1 (fun x7 => some (h5, some (.inl (shrI x6 x7))))))))))
set_option maxHeartbeats 4000000 in
set_option maxRecDepth 100000 in
theorem soJ5_newCapacity_0f7a4 (X : Cx) (h : Hp) (a0 : Option Nat) (a1 : Int32) : SO X mJ5_newCapacity_0f7a4 [.inr (.inr a0), .inl a1] h (fJ5_newCapacity_0f7a4 X.2.2.2 h a0 a1) := by
  refine so_of (by decide +kernel) (Nat.le_of_ble_eq_true rfl) ?_
  show Gd X mJ5_newCapacity_0f7a4 h (fJ5_newCapacity_0f7a4 X.2.2.2 h a0 a1) h 0 [some (.inr (.inr a0)), some (.inl a1), none, none, none, none] []
  unfold fJ5_newCapacity_0f7a4
  refine q_run tkJ5_newCapacity_0f7a4 0 1 (pc' := 1) (L' := [some (.inr (.inr a0)), some (.inl a1), none, none, none, none]) (st' := [.inr (.inr a0)]) rfl ?_
  refine q_rdR RJ4 TJ4 4 (tbm tkJ5_newCapacity_0f7a4 (i := 1) rfl) rfl (Nat.le_of_ble_eq_true rfl) wd_260 (fun r1 => ?_)
  refine q_alen (tbm tkJ5_newCapacity_0f7a4 (i := 2) rfl) (fun x2 => ?_)
  refine q_run tkJ5_newCapacity_0f7a4 3 3 (pc' := 8) (L' := [some (.inr (.inr a0)), some (.inl a1), some (.inl x2), none, none, none]) (st' := [.inr (.inr a0), .inl a1]) rfl ?_
  refine q_rdI RJ4 TJ4 4 (tbm tkJ5_newCapacity_0f7a4 (i := 6) rfl) rfl (Nat.le_of_ble_eq_true rfl) wd_261 (fun x3 => ?_)
  refine q_run tkJ5_newCapacity_0f7a4 7 11 (pc' := 24) (L' := [some (.inr (.inr a0)), some (.inl a1), some (.inl x2), some (.inl (shlI a1 x3)), some (.inl ((shlI a1 x3) - x2)), none]) (st' := [.inr (.inr a0), .inl (2 : Int32), .inl x2, .inl ((shlI a1 x3) - x2), .inl x2]) rfl ?_
  refine q_rdI RJ4 TJ4 4 (tbm tkJ5_newCapacity_0f7a4 (i := 18) rfl) rfl (Nat.le_of_ble_eq_true rfl) wd_261 (fun x4 => ?_)
  refine q_run tkJ5_newCapacity_0f7a4 19 2 (pc' := 29) (L' := [some (.inr (.inr a0)), some (.inl a1), some (.inl x2), some (.inl (shlI a1 x3)), some (.inl ((shlI a1 x3) - x2)), none]) (st' := [.inl (x2 + (shlI (2 : Int32) x4)), .inl ((shlI a1 x3) - x2), .inl x2]) rfl ?_
  refine q_cs (n := 3) (as := [.inl x2, .inl ((shlI a1 x3) - x2), .inl (x2 + (shlI (2 : Int32) x4))]) (st := []) (soJ8_newLength_cabcc X h x2 ((shlI a1 x3) - x2) (x2 + (shlI (2 : Int32) x4))) (tbm tkJ5_newCapacity_0f7a4 (i := 21) rfl) rfl ceJ8_newLength_cabcc wd_532 wd_531 rfl (Nat.le_of_ble_eq_true rfl) (kI_gd (fun h5 x6 => ?_))
  refine q_run tkJ5_newCapacity_0f7a4 22 2 (pc' := 36) (L' := [some (.inr (.inr a0)), some (.inl a1), some (.inl x2), some (.inl (shlI a1 x3)), some (.inl ((shlI a1 x3) - x2)), some (.inl x6)]) (st' := [.inl x6]) rfl ?_
  refine q_ldc (w := (2147483647 : Int32)) (tbm tkJ5_newCapacity_0f7a4 (i := 24) rfl) wd_541 ?_
  refine q_icmp_ne (tbm tkJ5_newCapacity_0f7a4 (i := 25) rfl) ?_ ?_
  · exact gd_none
  · refine q_run tkJ5_newCapacity_0f7a4 31 2 (pc' := 54) (L' := [some (.inr (.inr a0)), some (.inl a1), some (.inl x2), some (.inl (shlI a1 x3)), some (.inl ((shlI a1 x3) - x2)), some (.inl x6)]) (st' := [.inr (.inr a0), .inl x6]) rfl ?_
    refine q_rdI RJ4 TJ4 4 (tbm tkJ5_newCapacity_0f7a4 (i := 33) rfl) rfl (Nat.le_of_ble_eq_true rfl) wd_261 (fun x7 => ?_)
    refine q_run tkJ5_newCapacity_0f7a4 34 1 (pc' := 58) (L' := [some (.inr (.inr a0)), some (.inl a1), some (.inl x2), some (.inl (shlI a1 x3)), some (.inl ((shlI a1 x3) - x2)), some (.inl x6)]) (st' := [.inl (shrI x6 x7)]) rfl ?_
    exact q_iret (tbm tkJ5_newCapacity_0f7a4 (i := 35) rfl) rfl
theorem ceJ5_newCapacity_0f7a4 : Ce mJ5_newCapacity_0f7a4 1 := ⟨wd_76, wd_530, by decide +kernel, by decide +kernel, by decide +kernel⟩
/-- java/util/Arrays.copyOf -/
abbrev mJ7_copyOf_9075b : MI := (yJ7_copyOf_9075b, cJ7_copyOf_9075b, 3, some (.array .byte), 1)
def tbJ7_copyOf_9075b : List TE := [(0, .iload_n 1, 1, 0, 0), (1, .aload_n 0, 1, 0, 0), (2, .arraylength, 1, 0, 0), (3, .if_icmp .ne 11, 3, 0, 14), (6, .aload_n 0, 1, 0, 0), (7, .invokevirtual 310, 3, 0, 0), (10, .checkcast 311, 3, 0, 0), (13, .areturn, 1, 0, 0), (14, .iload_n 1, 1, 0, 0), (15, .newarray .byte, 2, 0, 0), (17, .astore_n 2, 1, 0, 0), (18, .aload_n 0, 1, 0, 0), (19, .iconst 0, 1, 0, 0), (20, .aload_n 2, 1, 0, 0), (21, .iconst 0, 1, 0, 0), (22, .aload_n 0, 1, 0, 0), (23, .arraylength, 1, 0, 0), (24, .iload_n 1, 1, 0, 0), (25, .invokestatic 304, 3, 0, 0), (28, .invokestatic 150, 3, 0, 0), (31, .aload_n 2, 1, 0, 0), (32, .areturn, 1, 0, 0)]
theorem tkJ7_copyOf_9075b : ∀ x ∈ tbJ7_copyOf_9075b, tbB cJ7_copyOf_9075b x = true := tb_all (by decide +kernel)
def fJ7_copyOf_9075b (c : Nat → Option Nat) (h : Hp) (a0 : Option Nat) (a1 : Int32) : Rs := lenA h a0 (fun x1 => if a1 = x1 then (clnB h a0 (fun h2 r3 => ckB h2 r3 (some (h2, some (.inr (.inr r3)))))) else (nwA h 1 a1 (fun h4 r5 => lenA h4 a0 (fun x6 => cpyB h4 a0 (0 : Int32) r5 (0 : Int32) (mnI x6 a1) (fun h7 => some (h7, some (.inr (.inr r5))))))))
set_option maxHeartbeats 4000000 in
set_option maxRecDepth 100000 in
theorem soJ7_copyOf_9075b (X : Cx) (h : Hp) (a0 : Option Nat) (a1 : Int32) : SO X mJ7_copyOf_9075b [.inr (.inr a0), .inl a1] h (fJ7_copyOf_9075b X.2.2.2 h a0 a1) := by
  refine so_of (by decide +kernel) (Nat.le_of_ble_eq_true rfl) ?_
  show Gd X mJ7_copyOf_9075b h (fJ7_copyOf_9075b X.2.2.2 h a0 a1) h 0 [some (.inr (.inr a0)), some (.inl a1), none] []
  unfold fJ7_copyOf_9075b
  refine q_run tkJ7_copyOf_9075b 0 2 (pc' := 2) (L' := [some (.inr (.inr a0)), some (.inl a1), none]) (st' := [.inr (.inr a0), .inl a1]) rfl ?_
  refine q_alen (tbm tkJ7_copyOf_9075b (i := 2) rfl) (fun x1 => ?_)
  refine q_icmp_ne (tbm tkJ7_copyOf_9075b (i := 3) rfl) ?_ ?_
  · refine q_run tkJ7_copyOf_9075b 4 1 (pc' := 7) (L' := [some (.inr (.inr a0)), some (.inl a1), none]) (st' := [.inr (.inr a0)]) rfl ?_
    refine q_cln (tbm tkJ7_copyOf_9075b (i := 5) rfl) (Nat.le_of_ble_eq_true rfl) (Nat.le_of_ble_eq_true rfl) ⟨wd_445, wd_cln⟩ (fun h2 r3 => ?_)
    refine q_ckB (tbm tkJ7_copyOf_9075b (i := 6) rfl) wd_451 ?_
    exact q_aret (tbm tkJ7_copyOf_9075b (i := 7) rfl) rfl (Or.inr ⟨_, rfl⟩)
  · refine q_run tkJ7_copyOf_9075b 8 1 (pc' := 15) (L' := [some (.inr (.inr a0)), some (.inl a1), none]) (st' := [.inl a1]) rfl ?_
    refine q_newa (k := 1) (Nat.le_of_ble_eq_true rfl) (tbm tkJ7_copyOf_9075b (i := 9) rfl) wd_274 (fun h4 r5 => ?_)
    refine q_run tkJ7_copyOf_9075b 10 6 (pc' := 23) (L' := [some (.inr (.inr a0)), some (.inl a1), some (.inr (.inr r5))]) (st' := [.inr (.inr a0), .inl (0 : Int32), .inr (.inr r5), .inl (0 : Int32), .inr (.inr a0)]) rfl ?_
    refine q_alen (tbm tkJ7_copyOf_9075b (i := 16) rfl) (fun x6 => ?_)
    refine q_run tkJ7_copyOf_9075b 17 1 (pc' := 25) (L' := [some (.inr (.inr a0)), some (.inl a1), some (.inr (.inr r5))]) (st' := [.inl a1, .inl x6, .inl (0 : Int32), .inr (.inr r5), .inl (0 : Int32), .inr (.inr a0)]) rfl ?_
    refine q_mmin (tbm tkJ7_copyOf_9075b (i := 18) rfl) (Nat.le_of_ble_eq_true rfl) (Nat.le_of_ble_eq_true rfl) ⟨wd_441, wd_min⟩ ?_
    refine q_cpy (tbm tkJ7_copyOf_9075b (i := 19) rfl) (Nat.le_of_ble_eq_true rfl) (Nat.le_of_ble_eq_true rfl) ⟨wd_442, wd_cpy⟩ (fun h7 => ?_)
    refine q_run tkJ7_copyOf_9075b 20 1 (pc' := 32) (L' := [some (.inr (.inr a0)), some (.inl a1), some (.inr (.inr r5))]) (st' := [.inr (.inr r5)]) rfl ?_
    exact q_aret (tbm tkJ7_copyOf_9075b (i := 21) rfl) rfl (Or.inr ⟨_, rfl⟩)
theorem ceJ7_copyOf_9075b : Ce mJ7_copyOf_9075b 2 := ⟨wd_85, wd_544, by decide +kernel, by decide +kernel, by decide +kernel⟩
/-- java/lang/AbstractStringBuilder.ensureCapacityInternal -/
abbrev mJ5_ensureCapacityInternal_d00df : MI := (yJ5_ensureCapacityInternal_d00df, cJ5_ensureCapacityInternal_d00df, 3, none, 3)
def tbJ5_ensureCapacityInternal_d00df : List TE := [(0, .aload_n 0, 1, 0, 0), (1, .getfield 15, 3, 0, 0), (4, .arraylength, 1, 0, 0), (5, .aload_n 0, 1, 0, 0), (6, .getfield 22, 3, 0, 0), (9, .ishr, 1, 0, 0), (10, .istore_n 2, 1, 0, 0), (11, .iload_n 1, 1, 0, 0), (12, .iload_n 2, 1, 0, 0), (13, .isub, 1, 0, 0), (14, .ifCond .le 24, 3, 0, 38), (17, .aload_n 0, 1, 0, 0), (18, .aload_n 0, 1, 0, 0), (19, .getfield 15, 3, 0, 0), (22, .aload_n 0, 1, 0, 0), (23, .iload_n 1, 1, 0, 0), (24, .invokevirtual 104, 3, 0, 0), (27, .aload_n 0, 1, 0, 0), (28, .getfield 22, 3, 0, 0), (31, .ishl, 1, 0, 0), (32, .invokestatic 108, 3, 0, 0), (35, .putfield 15, 3, 0, 0), (38, .return_, 1, 0, 0)]
theorem tkJ5_ensureCapacityInternal_d00df : ∀ x ∈ tbJ5_ensureCapacityInternal_d00df, tbB cJ5_ensureCapacityInternal_d00df x = true := tb_all (by decide +kernel)
def fJ5_ensureCapacityInternal_d00df_38 (c : Nat → Option Nat) (h : Hp) : Rs := some (h, none)
set_option maxHeartbeats 4000000 in
set_option maxRecDepth 100000 in
theorem sJ5_ensureCapacityInternal_d00df_38 (X : Cx) {h0 : Hp} (h : Hp) : Gd X mJ5_ensureCapacityInternal_d00df h0 (fJ5_ensureCapacityInternal_d00df_38 X.2.2.2 h) h 38 [none, none, none] [] := by
  unfold fJ5_ensureCapacityInternal_d00df_38
  exact q_vret (tbm tkJ5_ensureCapacityInternal_d00df (i := 22) rfl) rfl
def fJ5_ensureCapacityInternal_d00df (c : Nat → Option Nat) (h : Hp) (a0 : Option Nat) (a1 : Int32) : Rs := rdR h a0 1 0 (fun r1 => lenA h r1 (fun x2 => rdI h a0 1 1 (fun x3 => if 0 < (a1 - (shrI x2 x3)) then (rdR h a0 1 0 (fun r4 => ck h a0 1 (cc (fJ5_newCapacity_0f7a4 c h a0 a1) (kI fun h5 x6 => rdI h5 a0 1 1 (fun x7 => cc (fJ7_copyOf_9075b c h5 r4 (shlI x6 x7)) (kR fun h8 r9 => wr h8 a0 1 0 (.inr (.inr r9)) (fun h10 => fJ5_ensureCapacityInternal_d00df_38 c h10))))))) else (fJ5_ensureCapacityInternal_d00df_38 c h))))
set_option maxHeartbeats 4000000 in
set_option maxRecDepth 100000 in
theorem soJ5_ensureCapacityInternal_d00df (X : Cx) (h : Hp) (a0 : Option Nat) (a1 : Int32) : SO X mJ5_ensureCapacityInternal_d00df [.inr (.inr a0), .inl a1] h (fJ5_ensureCapacityInternal_d00df X.2.2.2 h a0 a1) := by
  refine so_of (by decide +kernel) (Nat.le_of_ble_eq_true rfl) ?_
  show Gd X mJ5_ensureCapacityInternal_d00df h (fJ5_ensureCapacityInternal_d00df X.2.2.2 h a0 a1) h 0 [some (.inr (.inr a0)), some (.inl a1), none] []
  unfold fJ5_ensureCapacityInternal_d00df
  refine q_run tkJ5_ensureCapacityInternal_d00df 0 1 (pc' := 1) (L' := [some (.inr (.inr a0)), some (.inl a1), none]) (st' := [.inr (.inr a0)]) rfl ?_
  refine q_rdR RJ4 TJ4 4 (tbm tkJ5_ensureCapacityInternal_d00df (i := 1) rfl) rfl (Nat.le_of_ble_eq_true rfl) wd_260 (fun r1 => ?_)
  refine q_alen (tbm tkJ5_ensureCapacityInternal_d00df (i := 2) rfl) (fun x2 => ?_)
  refine q_run tkJ5_ensureCapacityInternal_d00df 3 1 (pc' := 6) (L' := [some (.inr (.inr a0)), some (.inl a1), none]) (st' := [.inr (.inr a0), .inl x2]) rfl ?_
  refine q_rdI RJ4 TJ4 4 (tbm tkJ5_ensureCapacityInternal_d00df (i := 4) rfl) rfl (Nat.le_of_ble_eq_true rfl) wd_261 (fun x3 => ?_)
  refine q_run tkJ5_ensureCapacityInternal_d00df 5 5 (pc' := 14) (L' := [some (.inr (.inr a0)), some (.inl a1), some (.inl (shrI x2 x3))]) (st' := [.inl (a1 - (shrI x2 x3))]) rfl ?_
  refine q_if_le (tbm tkJ5_ensureCapacityInternal_d00df (i := 10) rfl) ?_ ?_
  · refine q_run tkJ5_ensureCapacityInternal_d00df 11 2 (pc' := 19) (L' := [some (.inr (.inr a0)), some (.inl a1), some (.inl (shrI x2 x3))]) (st' := [.inr (.inr a0), .inr (.inr a0)]) rfl ?_
    refine q_rdR RJ4 TJ4 4 (tbm tkJ5_ensureCapacityInternal_d00df (i := 13) rfl) rfl (Nat.le_of_ble_eq_true rfl) wd_260 (fun r4 => ?_)
    refine q_run tkJ5_ensureCapacityInternal_d00df 14 2 (pc' := 24) (L' := [some (.inr (.inr a0)), some (.inl a1), some (.inl (shrI x2 x3))]) (st' := [.inl a1, .inr (.inr a0), .inr (.inr r4), .inr (.inr a0)]) rfl ?_
    refine q_cu (r := a0) (ci := 1) (n := 1) (as := [.inl a1]) (st := [.inr (.inr r4), .inr (.inr a0)]) RJ4 TJ4 4 (soJ5_newCapacity_0f7a4 X h a0 a1) (tbm tkJ5_ensureCapacityInternal_d00df (i := 16) rfl) rfl rfl ceJ5_newCapacity_0f7a4 wd_529 ex_newCapacity wd_1326 wd_527 rfl (Nat.le_of_ble_eq_true rfl) (kI_gd (fun h5 x6 => ?_))
    refine q_run tkJ5_ensureCapacityInternal_d00df 17 1 (pc' := 28) (L' := [some (.inr (.inr a0)), some (.inl a1), some (.inl (shrI x2 x3))]) (st' := [.inr (.inr a0), .inl x6, .inr (.inr r4), .inr (.inr a0)]) rfl ?_
    refine q_rdI RJ4 TJ4 4 (tbm tkJ5_ensureCapacityInternal_d00df (i := 18) rfl) rfl (Nat.le_of_ble_eq_true rfl) wd_261 (fun x7 => ?_)
    refine q_run tkJ5_ensureCapacityInternal_d00df 19 1 (pc' := 32) (L' := [some (.inr (.inr a0)), some (.inl a1), some (.inl (shrI x2 x3))]) (st' := [.inl (shlI x6 x7), .inr (.inr r4), .inr (.inr a0)]) rfl ?_
    refine q_cs (n := 2) (as := [.inr (.inr r4), .inl (shlI x6 x7)]) (st := [.inr (.inr a0)]) (soJ7_copyOf_9075b X h5 r4 (shlI x6 x7)) (tbm tkJ5_ensureCapacityInternal_d00df (i := 20) rfl) rfl ceJ7_copyOf_9075b wd_543 wd_542 rfl (Nat.le_of_ble_eq_true rfl) (kR_gd (fun h8 r9 => ?_))
    refine q_wr RJ4 TJ4 4 (tbm tkJ5_ensureCapacityInternal_d00df (i := 21) rfl) rfl (Nat.le_of_ble_eq_true rfl) (Or.inl rfl) wd_260 (fun h10 => ?_)
    refine q_le (L' := [none, none, none]) (lvLe_n (lvLe_n (lvLe_n lvLe_0))) ?_
    exact sJ5_ensureCapacityInternal_d00df_38 X h10
  · refine q_le (L' := [none, none, none]) (lvLe_n (lvLe_n (lvLe_n lvLe_0))) ?_
    exact sJ5_ensureCapacityInternal_d00df_38 X h
theorem ceJ5_ensureCapacityInternal_d00df : Ce mJ5_ensureCapacityInternal_d00df 1 := ⟨wd_76, wd_526, by decide +kernel, by decide +kernel, by decide +kernel⟩
/-- java/util/Arrays.rangeCheck -/
abbrev mJ7_rangeCheck_23922 : MI := (yJ7_rangeCheck_23922, cJ7_rangeCheck_23922, 3, none, 0)
def tbJ7_rangeCheck_23922 : List TE := [(0, .iload_n 1, 1, 0, 0), (1, .iload_n 2, 1, 0, 0), (2, .if_icmp .le 44, 3, 0, 46), (5, .new 43, 3, 0, 0), (8, .dup, 1, 0, 0), (9, .new 45, 3, 0, 0), (12, .dup, 1, 0, 0), (13, .invokespecial 47, 3, 0, 0), (16, .ldc 48, 2, 0, 0), (18, .invokevirtual 50, 3, 0, 0), (21, .iload_n 1, 1, 0, 0), (22, .invokevirtual 54, 3, 0, 0), (25, .ldc 57, 2, 0, 0), (27, .invokevirtual 50, 3, 0, 0), (30, .iload_n 2, 1, 0, 0), (31, .invokevirtual 54, 3, 0, 0), (34, .ldc 59, 2, 0, 0), (36, .invokevirtual 50, 3, 0, 0), (39, .invokevirtual 61, 3, 0, 0), (42, .invokespecial 65, 3, 0, 0), (45, .athrow, 1, 0, 0), (46, .iload_n 1, 1, 0, 0), (47, .ifCond .ge 12, 3, 0, 59), (50, .new 68, 3, 0, 0), (53, .dup, 1, 0, 0), (54, .iload_n 1, 1, 0, 0), (55, .invokespecial 70, 3, 0, 0), (58, .athrow, 1, 0, 0), (59, .iload_n 2, 1, 0, 0), (60, .iload_n 0, 1, 0, 0), (61, .if_icmp .le 12, 3, 0, 73), (64, .new 68, 3, 0, 0), (67, .dup, 1, 0, 0), (68, .iload_n 2, 1, 0, 0), (69, .invokespecial 70, 3, 0, 0), (72, .athrow, 1, 0, 0), (73, .return_, 1, 0, 0)]
theorem tkJ7_rangeCheck_23922 : ∀ x ∈ tbJ7_rangeCheck_23922, tbB cJ7_rangeCheck_23922 x = true := tb_all (by decide +kernel)
def fJ7_rangeCheck_23922 (c : Nat → Option Nat) (h : Hp) (a0 : Int32) (a1 : Int32) (a2 : Int32) : Rs := if a2 < a1 then none else (if a1 < 0 then none else (if a0 < a2 then none else (some (h, none))))
set_option maxHeartbeats 4000000 in
set_option maxRecDepth 100000 in
theorem soJ7_rangeCheck_23922 (X : Cx) (h : Hp) (a0 : Int32) (a1 : Int32) (a2 : Int32) : SO X mJ7_rangeCheck_23922 [.inl a0, .inl a1, .inl a2] h (fJ7_rangeCheck_23922 X.2.2.2 h a0 a1 a2) := by
  refine so_of (by decide +kernel) (Nat.le_of_ble_eq_true rfl) ?_
  show Gd X mJ7_rangeCheck_23922 h (fJ7_rangeCheck_23922 X.2.2.2 h a0 a1 a2) h 0 [some (.inl a0), some (.inl a1), some (.inl a2)] []
  unfold fJ7_rangeCheck_23922
  refine q_run tkJ7_rangeCheck_23922 0 2 (pc' := 2) (L' := [some (.inl a0), some (.inl a1), some (.inl a2)]) (st' := [.inl a2, .inl a1]) rfl ?_
  refine q_icmp_le (tbm tkJ7_rangeCheck_23922 (i := 2) rfl) ?_ ?_
  · exact gd_none
  · refine q_run tkJ7_rangeCheck_23922 21 1 (pc' := 47) (L' := [some (.inl a0), some (.inl a1), some (.inl a2)]) (st' := [.inl a1]) rfl ?_
    refine q_if_ge (tbm tkJ7_rangeCheck_23922 (i := 22) rfl) ?_ ?_
    · exact gd_none
    · refine q_run tkJ7_rangeCheck_23922 28 2 (pc' := 61) (L' := [some (.inl a0), some (.inl a1), some (.inl a2)]) (st' := [.inl a0, .inl a2]) rfl ?_
      refine q_icmp_le (tbm tkJ7_rangeCheck_23922 (i := 30) rfl) ?_ ?_
      · exact gd_none
      · exact q_vret (tbm tkJ7_rangeCheck_23922 (i := 36) rfl) rfl
theorem ceJ7_rangeCheck_23922 : Ce mJ7_rangeCheck_23922 3 := ⟨wd_85, wd_554, by decide +kernel, by decide +kernel, by decide +kernel⟩
/-- java/util/Arrays.fill -/
abbrev mJ7_fill_eb02e : MI := (yJ7_fill_eb02e, cJ7_fill_eb02e, 5, none, 1)
def tbJ7_fill_eb02e : List TE := [(0, .aload_n 0, 1, 0, 0), (1, .arraylength, 1, 0, 0), (2, .iload_n 1, 1, 0, 0), (3, .iload_n 2, 1, 0, 0), (4, .invokestatic 13, 3, 0, 0), (7, .iload_n 1, 1, 0, 0), (8, .istore 4, 2, 0, 0), (10, .iload 4, 2, 0, 0), (12, .iload_n 2, 1, 0, 0), (13, .if_icmp .ge 14, 3, 0, 27), (16, .aload_n 0, 1, 0, 0), (17, .iload 4, 2, 0, 0), (19, .iload_n 3, 1, 0, 0), (20, .bastore, 1, 0, 0), (21, .iinc 4 1, 3, 1, 0), (24, .goto (-14), 3, 0, 10), (27, .return_, 1, 0, 0)]
theorem tkJ7_fill_eb02e : ∀ x ∈ tbJ7_fill_eb02e, tbB cJ7_fill_eb02e x = true := tb_all (by decide +kernel)
def fJ7_fill_eb02e_10 (c : Nat → Option Nat) : Nat → Hp → Option Nat → Int32 → Int32 → Int32 → Rs
  | 0, _, _, _, _, _ => none
  | n + 1, h, l0, l2, l3, l4 => if l4 < l2 then (astI h l0 [1, 2] l4 l3 (fun h1 => fJ7_fill_eb02e_10 c n h1 l0 l2 l3 (l4 + (1 : Int32)))) else (some (h, none))
set_option maxHeartbeats 4000000 in
set_option maxRecDepth 100000 in
theorem sJ7_fill_eb02e_10 (X : Cx) {h0 : Hp} : ∀ (n : Nat) (h : Hp) (l0 : Option Nat) (l2 : Int32) (l3 : Int32) (l4 : Int32), Gd X mJ7_fill_eb02e h0 (fJ7_fill_eb02e_10 X.2.2.2 n h l0 l2 l3 l4) h 10 [some (.inr (.inr l0)), none, some (.inl l2), some (.inl l3), some (.inl l4)] [] := by
  intro n
  induction n with
  | zero => intros; exact gd_none
  | succ n ih =>
    intro h l0 l2 l3 l4
    unfold fJ7_fill_eb02e_10
    refine q_run tkJ7_fill_eb02e 7 2 (pc' := 13) (L' := [some (.inr (.inr l0)), none, some (.inl l2), some (.inl l3), some (.inl l4)]) (st' := [.inl l2, .inl l4]) rfl ?_
    refine q_icmp_ge (tbm tkJ7_fill_eb02e (i := 9) rfl) ?_ ?_
    · refine q_run tkJ7_fill_eb02e 10 3 (pc' := 20) (L' := [some (.inr (.inr l0)), none, some (.inl l2), some (.inl l3), some (.inl l4)]) (st' := [.inl l3, .inl l4, .inr (.inr l0)]) rfl ?_
      refine q_bastore (tbm tkJ7_fill_eb02e (i := 13) rfl) (fun h1 => ?_)
      refine q_run tkJ7_fill_eb02e 14 2 (pc' := 10) (L' := [some (.inr (.inr l0)), none, some (.inl l2), some (.inl l3), some (.inl (l4 + (1 : Int32)))]) (st' := []) rfl ?_
      exact ih h1 l0 l2 l3 (l4 + (1 : Int32))
    · exact q_vret (tbm tkJ7_fill_eb02e (i := 16) rfl) rfl
def fJ7_fill_eb02e (c : Nat → Option Nat) (h : Hp) (a0 : Option Nat) (a1 : Int32) (a2 : Int32) (a3 : Int32) : Rs := lenA h a0 (fun x2 => cc (fJ7_rangeCheck_23922 c h x2 a1 a2) (kV fun h3 => fJ7_fill_eb02e_10 c FU h3 a0 a2 a3 a1))
set_option maxHeartbeats 4000000 in
set_option maxRecDepth 100000 in
theorem soJ7_fill_eb02e (X : Cx) (h : Hp) (a0 : Option Nat) (a1 : Int32) (a2 : Int32) (a3 : Int32) : SO X mJ7_fill_eb02e [.inr (.inr a0), .inl a1, .inl a2, .inl a3] h (fJ7_fill_eb02e X.2.2.2 h a0 a1 a2 a3) := by
  refine so_of (by decide +kernel) (Nat.le_of_ble_eq_true rfl) ?_
  show Gd X mJ7_fill_eb02e h (fJ7_fill_eb02e X.2.2.2 h a0 a1 a2 a3) h 0 [some (.inr (.inr a0)), some (.inl a1), some (.inl a2), some (.inl a3), none] []
  unfold fJ7_fill_eb02e
  refine q_run tkJ7_fill_eb02e 0 1 (pc' := 1) (L' := [some (.inr (.inr a0)), some (.inl a1), some (.inl a2), some (.inl a3), none]) (st' := [.inr (.inr a0)]) rfl ?_
  refine q_alen (tbm tkJ7_fill_eb02e (i := 1) rfl) (fun x2 => ?_)
  refine q_run tkJ7_fill_eb02e 2 2 (pc' := 4) (L' := [some (.inr (.inr a0)), some (.inl a1), some (.inl a2), some (.inl a3), none]) (st' := [.inl a2, .inl a1, .inl x2]) rfl ?_
  refine q_cs (n := 3) (as := [.inl x2, .inl a1, .inl a2]) (st := []) (soJ7_rangeCheck_23922 X h x2 a1 a2) (tbm tkJ7_fill_eb02e (i := 4) rfl) rfl ceJ7_rangeCheck_23922 wd_553 wd_552 rfl (Nat.le_of_ble_eq_true rfl) (kV_gd (fun h3 => ?_))
  refine q_run tkJ7_fill_eb02e 5 2 (pc' := 10) (L' := [some (.inr (.inr a0)), some (.inl a1), some (.inl a2), some (.inl a3), some (.inl a1)]) (st' := []) rfl ?_
  refine q_le (L' := [some (.inr (.inr a0)), none, some (.inl a2), some (.inl a3), some (.inl a1)]) (lvLe_s (lvLe_n (lvLe_s (lvLe_s (lvLe_s lvLe_0))))) ?_
  exact sJ7_fill_eb02e_10 X FU h3 a0 a2 a3 a1
theorem ceJ7_fill_eb02e : Ce mJ7_fill_eb02e 4 := ⟨wd_85, wd_551, by decide +kernel, by decide +kernel, by decide +kernel⟩
/-- java/lang/StringLatin1.fillNull -/
abbrev mJ1_fillNull_b72d1 : MI := (yJ1_fillNull_b72d1, cJ1_fillNull_b72d1, 3, none, 2)
def tbJ1_fillNull_b72d1 : List TE := [(0, .aload_n 0, 1, 0, 0), (1, .iload_n 1, 1, 0, 0), (2, .iload_n 2, 1, 0, 0), (3, .iconst 0, 1, 0, 0), (4, .invokestatic 236, 3, 0, 0), (7, .return_, 1, 0, 0)]
theorem tkJ1_fillNull_b72d1 : ∀ x ∈ tbJ1_fillNull_b72d1, tbB cJ1_fillNull_b72d1 x = true := tb_all (by decide +kernel)
def fJ1_fillNull_b72d1 (c : Nat → Option Nat) (h : Hp) (a0 : Option Nat) (a1 : Int32) (a2 : Int32) : Rs := cc (fJ7_fill_eb02e c h a0 a1 a2 (0 : Int32)) (kV fun h1 => some (h1, none))
set_option maxHeartbeats 4000000 in
set_option maxRecDepth 100000 in
theorem soJ1_fillNull_b72d1 (X : Cx) (h : Hp) (a0 : Option Nat) (a1 : Int32) (a2 : Int32) : SO X mJ1_fillNull_b72d1 [.inr (.inr a0), .inl a1, .inl a2] h (fJ1_fillNull_b72d1 X.2.2.2 h a0 a1 a2) := by
  refine so_of (by decide +kernel) (Nat.le_of_ble_eq_true rfl) ?_
  show Gd X mJ1_fillNull_b72d1 h (fJ1_fillNull_b72d1 X.2.2.2 h a0 a1 a2) h 0 [some (.inr (.inr a0)), some (.inl a1), some (.inl a2)] []
  unfold fJ1_fillNull_b72d1
  refine q_run tkJ1_fillNull_b72d1 0 4 (pc' := 4) (L' := [some (.inr (.inr a0)), some (.inl a1), some (.inl a2)]) (st' := [.inl (0 : Int32), .inl a2, .inl a1, .inr (.inr a0)]) rfl ?_
  refine q_cs (n := 4) (as := [.inr (.inr a0), .inl a1, .inl a2, .inl (0 : Int32)]) (st := []) (soJ7_fill_eb02e X h a0 a1 a2 (0 : Int32)) (tbm tkJ1_fillNull_b72d1 (i := 4) rfl) rfl ceJ7_fill_eb02e wd_550 wd_549 rfl (Nat.le_of_ble_eq_true rfl) (kV_gd (fun h1 => ?_))
  exact q_vret (tbm tkJ1_fillNull_b72d1 (i := 5) rfl) rfl
theorem ceJ1_fillNull_b72d1 : Ce mJ1_fillNull_b72d1 3 := ⟨wd_88, wd_548, by decide +kernel, by decide +kernel, by decide +kernel⟩
/-- java/lang/AbstractStringBuilder.setLength -/
abbrev mJ5_setLength_d00df : MI := (yJ5_setLength_d00df, cJ5_setLength_d00df, 2, none, 4)
def tbJ5_setLength_d00df : List TE := [(0, .iload_n 1, 1, 0, 0), (1, .ifCond .ge 12, 3, 0, 13), (4, .new 129, 3, 0, 0), (7, .dup, 1, 0, 0), (8, .iload_n 1, 1, 0, 0), (9, .invokespecial 131, 3, 0, 0), (12, .athrow, 1, 0, 0), (13, .aload_n 0, 1, 0, 0), (14, .iload_n 1, 1, 0, 0), (15, .invokevirtual 100, 3, 0, 0), (18, .aload_n 0, 1, 0, 0), (19, .getfield 79, 3, 0, 0), (22, .iload_n 1, 1, 0, 0), (23, .if_icmp .ge 40, 3, 0, 63), (26, .aload_n 0, 1, 0, 0), (27, .invokevirtual 83, 3, 0, 0), (30, .ifCond .eq 18, 3, 0, 48), (33, .aload_n 0, 1, 0, 0), (34, .getfield 15, 3, 0, 0), (37, .aload_n 0, 1, 0, 0), (38, .getfield 79, 3, 0, 0), (41, .iload_n 1, 1, 0, 0), (42, .invokestatic 133, 3, 0, 0), (45, .goto 31, 3, 0, 76), (48, .aload_n 0, 1, 0, 0), (49, .getfield 15, 3, 0, 0), (52, .aload_n 0, 1, 0, 0), (53, .getfield 79, 3, 0, 0), (56, .iload_n 1, 1, 0, 0), (57, .invokestatic 137, 3, 0, 0), (60, .goto 16, 3, 0, 76), (63, .aload_n 0, 1, 0, 0), (64, .getfield 79, 3, 0, 0), (67, .iload_n 1, 1, 0, 0), (68, .if_icmp .le 8, 3, 0, 76), (71, .aload_n 0, 1, 0, 0), (72, .iconst 1, 1, 1, 0), (73, .putfield 73, 3, 0, 0), (76, .aload_n 0, 1, 0, 0), (77, .iload_n 1, 1, 0, 0), (78, .putfield 79, 3, 0, 0), (81, .return_, 1, 0, 0)]
theorem tkJ5_setLength_d00df : ∀ x ∈ tbJ5_setLength_d00df, tbB cJ5_setLength_d00df x = true := tb_all (by decide +kernel)
def fJ5_setLength_d00df_76 (c : Nat → Option Nat) (h : Hp) (l0 : Option Nat) (l1 : Int32) : Rs := wr h l0 1 3 (.inl l1) (fun h1 => some (h1, none))
set_option maxHeartbeats 4000000 in
set_option maxRecDepth 100000 in
theorem sJ5_setLength_d00df_76 (X : Cx) {h0 : Hp} (h : Hp) (l0 : Option Nat) (l1 : Int32) : Gd X mJ5_setLength_d00df h0 (fJ5_setLength_d00df_76 X.2.2.2 h l0 l1) h 76 [some (.inr (.inr l0)), some (.inl l1)] [] := by
  unfold fJ5_setLength_d00df_76
  refine q_run tkJ5_setLength_d00df 38 2 (pc' := 78) (L' := [some (.inr (.inr l0)), some (.inl l1)]) (st' := [.inl l1, .inr (.inr l0)]) rfl ?_
  refine q_wr RJ4 TJ4 4 (tbm tkJ5_setLength_d00df (i := 40) rfl) rfl (Nat.le_of_ble_eq_true rfl) (Or.inl rfl) wd_264 (fun h1 => ?_)
  exact q_vret (tbm tkJ5_setLength_d00df (i := 41) rfl) rfl
def fJ5_setLength_d00df (c : Nat → Option Nat) (h : Hp) (a0 : Option Nat) (a1 : Int32) : Rs := if a1 < 0 then none else (ck h a0 1 (cc (fJ5_ensureCapacityInternal_d00df c h a0 a1) (kV fun h2 => rdI h2 a0 1 3 (fun x3 => if x3 < a1 then (ck h2 a0 1 (cc (fJ5_isLatin1_aae02 c h2 a0) (kI fun h4 x5 => if x5 = 0 then (rdR h4 a0 1 0 (fun r6 => rdI h4 a0 1 3 (fun x7 => none))) else (rdR h4 a0 1 0 (fun r8 => rdI h4 a0 1 3 (fun x9 => cc (fJ1_fillNull_b72d1 c h4 r8 x9 a1) (kV fun h10 => fJ5_setLength_d00df_76 c h10 a0 a1))))))) else (rdI h2 a0 1 3 (fun x11 => if a1 < x11 then (wr h2 a0 1 2 (.inl (1 : Int32)) (fun h12 => fJ5_setLength_d00df_76 c h12 a0 a1)) else (fJ5_setLength_d00df_76 c h2 a0 a1)))))))
set_option maxHeartbeats 4000000 in
set_option maxRecDepth 100000 in
theorem soJ5_setLength_d00df (X : Cx) (h : Hp) (a0 : Option Nat) (a1 : Int32) : SO X mJ5_setLength_d00df [.inr (.inr a0), .inl a1] h (fJ5_setLength_d00df X.2.2.2 h a0 a1) := by
  refine so_of (by decide +kernel) (Nat.le_of_ble_eq_true rfl) ?_
  show Gd X mJ5_setLength_d00df h (fJ5_setLength_d00df X.2.2.2 h a0 a1) h 0 [some (.inr (.inr a0)), some (.inl a1)] []
  unfold fJ5_setLength_d00df
  refine q_run tkJ5_setLength_d00df 0 1 (pc' := 1) (L' := [some (.inr (.inr a0)), some (.inl a1)]) (st' := [.inl a1]) rfl ?_
  refine q_if_ge (tbm tkJ5_setLength_d00df (i := 1) rfl) ?_ ?_
  · exact gd_none
  · refine q_run tkJ5_setLength_d00df 7 2 (pc' := 15) (L' := [some (.inr (.inr a0)), some (.inl a1)]) (st' := [.inl a1, .inr (.inr a0)]) rfl ?_
    refine q_cu (r := a0) (ci := 1) (n := 1) (as := [.inl a1]) (st := []) RJ4 TJ4 4 (soJ5_ensureCapacityInternal_d00df X h a0 a1) (tbm tkJ5_setLength_d00df (i := 9) rfl) rfl rfl ceJ5_ensureCapacityInternal_d00df wd_525 ex_ensureCapacityInternal wd_1325 wd_523 rfl (Nat.le_of_ble_eq_true rfl) (kV_gd (fun h2 => ?_))
    refine q_run tkJ5_setLength_d00df 10 1 (pc' := 19) (L' := [some (.inr (.inr a0)), some (.inl a1)]) (st' := [.inr (.inr a0)]) rfl ?_
    refine q_rdI RJ4 TJ4 4 (tbm tkJ5_setLength_d00df (i := 11) rfl) rfl (Nat.le_of_ble_eq_true rfl) wd_264 (fun x3 => ?_)
    refine q_run tkJ5_setLength_d00df 12 1 (pc' := 23) (L' := [some (.inr (.inr a0)), some (.inl a1)]) (st' := [.inl a1, .inl x3]) rfl ?_
    refine q_icmp_ge (tbm tkJ5_setLength_d00df (i := 13) rfl) ?_ ?_
    · refine q_run tkJ5_setLength_d00df 14 1 (pc' := 27) (L' := [some (.inr (.inr a0)), some (.inl a1)]) (st' := [.inr (.inr a0)]) rfl ?_
      refine q_cu (r := a0) (ci := 1) (n := 0) (as := []) (st := []) RJ4 TJ4 4 (soJ5_isLatin1_aae02 X h2 a0) (tbm tkJ5_setLength_d00df (i := 15) rfl) rfl rfl ceJ5_isLatin1_aae02 wd_428 wd_430 wd_429 wd_545 rfl (Nat.le_of_ble_eq_true rfl) (kI_gd (fun h4 x5 => ?_))
      refine q_if_eq (tbm tkJ5_setLength_d00df (i := 16) rfl) ?_ ?_
      · refine q_run tkJ5_setLength_d00df 24 1 (pc' := 49) (L' := [some (.inr (.inr a0)), some (.inl a1)]) (st' := [.inr (.inr a0)]) rfl ?_
        refine q_rdR RJ4 TJ4 4 (tbm tkJ5_setLength_d00df (i := 25) rfl) rfl (Nat.le_of_ble_eq_true rfl) wd_260 (fun r6 => ?_)
        refine q_run tkJ5_setLength_d00df 26 1 (pc' := 53) (L' := [some (.inr (.inr a0)), some (.inl a1)]) (st' := [.inr (.inr a0), .inr (.inr r6)]) rfl ?_
        refine q_rdI RJ4 TJ4 4 (tbm tkJ5_setLength_d00df (i := 27) rfl) rfl (Nat.le_of_ble_eq_true rfl) wd_264 (fun x7 => ?_)
        refine q_run tkJ5_setLength_d00df 28 1 (pc' := 57) (L' := [some (.inr (.inr a0)), some (.inl a1)]) (st' := [.inl a1, .inl x7, .inr (.inr r6)]) rfl ?_
        exact gd_none
      · refine q_run tkJ5_setLength_d00df 17 1 (pc' := 34) (L' := [some (.inr (.inr a0)), some (.inl a1)]) (st' := [.inr (.inr a0)]) rfl ?_
        refine q_rdR RJ4 TJ4 4 (tbm tkJ5_setLength_d00df (i := 18) rfl) rfl (Nat.le_of_ble_eq_true rfl) wd_260 (fun r8 => ?_)
        refine q_run tkJ5_setLength_d00df 19 1 (pc' := 38) (L' := [some (.inr (.inr a0)), some (.inl a1)]) (st' := [.inr (.inr a0), .inr (.inr r8)]) rfl ?_
        refine q_rdI RJ4 TJ4 4 (tbm tkJ5_setLength_d00df (i := 20) rfl) rfl (Nat.le_of_ble_eq_true rfl) wd_264 (fun x9 => ?_)
        refine q_run tkJ5_setLength_d00df 21 1 (pc' := 42) (L' := [some (.inr (.inr a0)), some (.inl a1)]) (st' := [.inl a1, .inl x9, .inr (.inr r8)]) rfl ?_
        refine q_cs (n := 3) (as := [.inr (.inr r8), .inl x9, .inl a1]) (st := []) (soJ1_fillNull_b72d1 X h4 r8 x9 a1) (tbm tkJ5_setLength_d00df (i := 22) rfl) rfl ceJ1_fillNull_b72d1 wd_547 wd_546 rfl (Nat.le_of_ble_eq_true rfl) (kV_gd (fun h10 => ?_))
        refine q_run tkJ5_setLength_d00df 23 1 (pc' := 76) (L' := [some (.inr (.inr a0)), some (.inl a1)]) (st' := []) rfl ?_
        exact sJ5_setLength_d00df_76 X h10 a0 a1
    · refine q_run tkJ5_setLength_d00df 31 1 (pc' := 64) (L' := [some (.inr (.inr a0)), some (.inl a1)]) (st' := [.inr (.inr a0)]) rfl ?_
      refine q_rdI RJ4 TJ4 4 (tbm tkJ5_setLength_d00df (i := 32) rfl) rfl (Nat.le_of_ble_eq_true rfl) wd_264 (fun x11 => ?_)
      refine q_run tkJ5_setLength_d00df 33 1 (pc' := 68) (L' := [some (.inr (.inr a0)), some (.inl a1)]) (st' := [.inl a1, .inl x11]) rfl ?_
      refine q_icmp_le (tbm tkJ5_setLength_d00df (i := 34) rfl) ?_ ?_
      · refine q_run tkJ5_setLength_d00df 35 2 (pc' := 73) (L' := [some (.inr (.inr a0)), some (.inl a1)]) (st' := [.inl (1 : Int32), .inr (.inr a0)]) rfl ?_
        refine q_wr RJ4 TJ4 4 (tbm tkJ5_setLength_d00df (i := 37) rfl) rfl (Nat.le_of_ble_eq_true rfl) (Or.inl rfl) wd_262 (fun h12 => ?_)
        exact sJ5_setLength_d00df_76 X h12 a0 a1
      · exact sJ5_setLength_d00df_76 X h2 a0 a1
theorem ceJ5_setLength_d00df : Ce mJ5_setLength_d00df 1 := ⟨wd_76, wd_522, by decide +kernel, by decide +kernel, by decide +kernel⟩
/-- java/lang/StringBuilder.setLength -/
abbrev mJ4_setLength_d00df : MI := (yJ4_setLength_d00df, cJ4_setLength_d00df, 2, none, 5)
def tbJ4_setLength_d00df : List TE := [(0, .aload_n 0, 1, 0, 0), (1, .iload_n 1, 1, 0, 0), (2, .invokespecial 333, 3, 0, 0), (5, .return_, 1, 0, 0)]
theorem tkJ4_setLength_d00df : ∀ x ∈ tbJ4_setLength_d00df, tbB cJ4_setLength_d00df x = true := tb_all (by decide +kernel)
def fJ4_setLength_d00df (c : Nat → Option Nat) (h : Hp) (a0 : Option Nat) (a1 : Int32) : Rs := ck h a0 1 (cc (fJ5_setLength_d00df c h a0 a1) (kV fun h1 => some (h1, none)))
set_option maxHeartbeats 4000000 in
set_option maxRecDepth 100000 in
theorem soJ4_setLength_d00df (X : Cx) (h : Hp) (a0 : Option Nat) (a1 : Int32) : SO X mJ4_setLength_d00df [.inr (.inr a0), .inl a1] h (fJ4_setLength_d00df X.2.2.2 h a0 a1) := by
  refine so_of (by decide +kernel) (Nat.le_of_ble_eq_true rfl) ?_
  show Gd X mJ4_setLength_d00df h (fJ4_setLength_d00df X.2.2.2 h a0 a1) h 0 [some (.inr (.inr a0)), some (.inl a1)] []
  unfold fJ4_setLength_d00df
  refine q_run tkJ4_setLength_d00df 0 2 (pc' := 2) (L' := [some (.inr (.inr a0)), some (.inl a1)]) (st' := [.inl a1, .inr (.inr a0)]) rfl ?_
  refine q_csu (r := a0) (ci := 1) (n := 1) (as := [.inl a1]) (st := []) RJ4 TJ4 4 (soJ5_setLength_d00df X h a0 a1) (tbm tkJ4_setLength_d00df (i := 2) rfl) rfl rfl ceJ5_setLength_d00df wd_521 wd_273 wd_1324 (by decide +kernel) wd_520 rfl (Nat.le_of_ble_eq_true rfl) (kV_gd (fun h1 => ?_))
  exact q_vret (tbm tkJ4_setLength_d00df (i := 3) rfl) rfl
theorem ceJ4_setLength_d00df : Ce mJ4_setLength_d00df 1 := ⟨wd_77, wd_519, by decide +kernel, by decide +kernel, by decide +kernel⟩
/-- java/lang/String.coder -/
abbrev mJ0_coder_7d493 : MI := (yJ0_coder_7d493, cJ0_coder_7d493, 1, some .byte, 0)
def tbJ0_coder_7d493 : List TE := [(0, .getstatic 38, 3, 0, 0), (3, .ifCond .eq 10, 3, 0, 13), (6, .aload_n 0, 1, 0, 0), (7, .getfield 15, 3, 0, 0), (10, .goto 4, 3, 0, 14), (13, .iconst 1, 1, 1, 0), (14, .ireturn, 1, 0, 0)]
theorem tkJ0_coder_7d493 : ∀ x ∈ tbJ0_coder_7d493, tbB cJ0_coder_7d493 x = true := tb_all (by decide +kernel)
def fJ0_coder_7d493_14 (c : Nat → Option Nat) (h : Hp) (s0 : Int32) : Rs := rtI .byte h s0
set_option maxHeartbeats 4000000 in
set_option maxRecDepth 100000 in
theorem sJ0_coder_7d493_14 (X : Cx) {h0 : Hp} (h : Hp) (s0 : Int32) : Gd X mJ0_coder_7d493 h0 (fJ0_coder_7d493_14 X.2.2.2 h s0) h 14 [none] [.inl s0] := by
  unfold fJ0_coder_7d493_14
  exact q_zret (tbm tkJ0_coder_7d493 (i := 6) rfl) rfl
def fJ0_coder_7d493 (c : Nat → Option Nat) (h : Hp) (a0 : Option Nat) : Rs := if (1 : Int32) = 0 then (fJ0_coder_7d493_14 c h (1 : Int32)) else (rdI h a0 0 1 (fun x1 => fJ0_coder_7d493_14 c h x1))
set_option maxHeartbeats 4000000 in
set_option maxRecDepth 100000 in
theorem soJ0_coder_7d493 (X : Cx) (h : Hp) (a0 : Option Nat) : SO X mJ0_coder_7d493 [.inr (.inr a0)] h (fJ0_coder_7d493 X.2.2.2 h a0) := by
  refine so_of (by decide +kernel) (Nat.le_of_ble_eq_true rfl) ?_
  show Gd X mJ0_coder_7d493 h (fJ0_coder_7d493 X.2.2.2 h a0) h 0 [some (.inr (.inr a0))] []
  unfold fJ0_coder_7d493
  refine q_gs (w := .inl (1 : Int32)) (tbm tkJ0_coder_7d493 (i := 0) rfl) e_z4 wd_452 ?_
  refine q_if_eq (tbm tkJ0_coder_7d493 (i := 1) rfl) ?_ ?_
  · refine q_run tkJ0_coder_7d493 5 1 (pc' := 14) (L' := [some (.inr (.inr a0))]) (st' := [.inl (1 : Int32)]) rfl ?_
    refine q_le (L' := [none]) (lvLe_n lvLe_0) ?_
    exact sJ0_coder_7d493_14 X h (1 : Int32)
  · refine q_run tkJ0_coder_7d493 2 1 (pc' := 7) (L' := [some (.inr (.inr a0))]) (st' := [.inr (.inr a0)]) rfl ?_
    refine q_rdI RJ0 TJ0 4 (tbm tkJ0_coder_7d493 (i := 3) rfl) rfl (Nat.le_of_ble_eq_true rfl) wd_474 (fun x1 => ?_)
    refine q_run tkJ0_coder_7d493 4 1 (pc' := 14) (L' := [some (.inr (.inr a0))]) (st' := [.inl x1]) rfl ?_
    refine q_le (L' := [none]) (lvLe_n lvLe_0) ?_
    exact sJ0_coder_7d493_14 X h x1
theorem ceJ0_coder_7d493 : Ce mJ0_coder_7d493 0 := ⟨wd_78, wd_614, by decide +kernel, by decide +kernel, by decide +kernel⟩
/-- java/lang/String.length -/
abbrev mJ0_length_8abf5 : MI := (yJ0_length_8abf5, cJ0_length_8abf5, 1, some .int, 1)
def tbJ0_length_8abf5 : List TE := [(0, .aload_n 0, 1, 0, 0), (1, .getfield 9, 3, 0, 0), (4, .arraylength, 1, 0, 0), (5, .aload_n 0, 1, 0, 0), (6, .invokevirtual 335, 3, 0, 0), (9, .ishr, 1, 0, 0), (10, .ireturn, 1, 0, 0)]
theorem tkJ0_length_8abf5 : ∀ x ∈ tbJ0_length_8abf5, tbB cJ0_length_8abf5 x = true := tb_all (by decide +kernel)
def fJ0_length_8abf5 (c : Nat → Option Nat) (h : Hp) (a0 : Option Nat) : Rs := rdR h a0 0 0 (fun r1 => lenA h r1 (fun x2 => ck h a0 0 (cc (fJ0_coder_7d493 c h a0) (kI fun h3 x4 => some (h3, some (.inl (shrI x2 x4)))))))
set_option maxHeartbeats 4000000 in
set_option maxRecDepth 100000 in
theorem soJ0_length_8abf5 (X : Cx) (h : Hp) (a0 : Option Nat) : SO X mJ0_length_8abf5 [.inr (.inr a0)] h (fJ0_length_8abf5 X.2.2.2 h a0) := by
  refine so_of (by decide +kernel) (Nat.le_of_ble_eq_true rfl) ?_
  show Gd X mJ0_length_8abf5 h (fJ0_length_8abf5 X.2.2.2 h a0) h 0 [some (.inr (.inr a0))] []
  unfold fJ0_length_8abf5
  refine q_run tkJ0_length_8abf5 0 1 (pc' := 1) (L' := [some (.inr (.inr a0))]) (st' := [.inr (.inr a0)]) rfl ?_
  refine q_rdR RJ0 TJ0 4 (tbm tkJ0_length_8abf5 (i := 1) rfl) rfl (Nat.le_of_ble_eq_true rfl) wd_473 (fun r1 => ?_)
  refine q_alen (tbm tkJ0_length_8abf5 (i := 2) rfl) (fun x2 => ?_)
  refine q_run tkJ0_length_8abf5 3 1 (pc' := 6) (L' := [some (.inr (.inr a0))]) (st' := [.inr (.inr a0), .inl x2]) rfl ?_
  refine q_cv (r := a0) (ci := 0) (n := 0) (as := []) (st := [.inl x2]) TJ0 4 (soJ0_coder_7d493 X h a0) (tbm tkJ0_length_8abf5 (i := 4) rfl) rfl rfl ceJ0_coder_7d493 wd_612 wd_613 wd_611 rfl (Nat.le_of_ble_eq_true rfl) (kI_gd (fun h3 x4 => ?_))
  refine q_run tkJ0_length_8abf5 5 1 (pc' := 10) (L' := [some (.inr (.inr a0))]) (st' := [.inl (shrI x2 x4)]) rfl ?_
  exact q_iret (tbm tkJ0_length_8abf5 (i := 6) rfl) rfl
theorem ceJ0_length_8abf5 : Ce mJ0_length_8abf5 0 := ⟨wd_78, wd_610, by decide +kernel, by decide +kernel, by decide +kernel⟩
/-- java/lang/String.isLatin1 -/
abbrev mJ0_isLatin1_aae02 : MI := (yJ0_isLatin1_aae02, cJ0_isLatin1_aae02, 1, some .boolean, 0)
def tbJ0_isLatin1_aae02 : List TE := [(0, .getstatic 38, 3, 0, 0), (3, .ifCond .eq 14, 3, 0, 17), (6, .aload_n 0, 1, 0, 0), (7, .getfield 15, 3, 0, 0), (10, .ifCond .ne 7, 3, 0, 17), (13, .iconst 1, 1, 1, 0), (14, .goto 4, 3, 0, 18), (17, .iconst 0, 1, 0, 0), (18, .ireturn, 1, 0, 0)]
theorem tkJ0_isLatin1_aae02 : ∀ x ∈ tbJ0_isLatin1_aae02, tbB cJ0_isLatin1_aae02 x = true := tb_all (by decide +kernel)
def fJ0_isLatin1_aae02_18 (c : Nat → Option Nat) (h : Hp) (s0 : Int32) : Rs := rtI .boolean h s0
set_option maxHeartbeats 4000000 in
set_option maxRecDepth 100000 in
theorem sJ0_isLatin1_aae02_18 (X : Cx) {h0 : Hp} (h : Hp) (s0 : Int32) : Gd X mJ0_isLatin1_aae02 h0 (fJ0_isLatin1_aae02_18 X.2.2.2 h s0) h 18 [none] [.inl s0] := by
  unfold fJ0_isLatin1_aae02_18
  exact q_zret (tbm tkJ0_isLatin1_aae02 (i := 8) rfl) rfl
def fJ0_isLatin1_aae02_17 (c : Nat → Option Nat) (h : Hp) : Rs := fJ0_isLatin1_aae02_18 c h (0 : Int32)
set_option maxHeartbeats 4000000 in
set_option maxRecDepth 100000 in
theorem sJ0_isLatin1_aae02_17 (X : Cx) {h0 : Hp} (h : Hp) : Gd X mJ0_isLatin1_aae02 h0 (fJ0_isLatin1_aae02_17 X.2.2.2 h) h 17 [none] [] := by
  unfold fJ0_isLatin1_aae02_17
  refine q_run tkJ0_isLatin1_aae02 7 1 (pc' := 18) (L' := [none]) (st' := [.inl (0 : Int32)]) rfl ?_
  exact sJ0_isLatin1_aae02_18 X h (0 : Int32)
def fJ0_isLatin1_aae02 (c : Nat → Option Nat) (h : Hp) (a0 : Option Nat) : Rs := if (1 : Int32) = 0 then (fJ0_isLatin1_aae02_17 c h) else (rdI h a0 0 1 (fun x1 => if x1 = 0 then (fJ0_isLatin1_aae02_18 c h (1 : Int32)) else (fJ0_isLatin1_aae02_17 c h)))
set_option maxHeartbeats 4000000 in
set_option maxRecDepth 100000 in
theorem soJ0_isLatin1_aae02 (X : Cx) (h : Hp) (a0 : Option Nat) : SO X mJ0_isLatin1_aae02 [.inr (.inr a0)] h (fJ0_isLatin1_aae02 X.2.2.2 h a0) := by
  refine so_of (by decide +kernel) (Nat.le_of_ble_eq_true rfl) ?_
  show Gd X mJ0_isLatin1_aae02 h (fJ0_isLatin1_aae02 X.2.2.2 h a0) h 0 [some (.inr (.inr a0))] []
  unfold fJ0_isLatin1_aae02
  refine q_gs (w := .inl (1 : Int32)) (tbm tkJ0_isLatin1_aae02 (i := 0) rfl) e_z4 wd_452 ?_
  refine q_if_eq (tbm tkJ0_isLatin1_aae02 (i := 1) rfl) ?_ ?_
  · refine q_le (L' := [none]) (lvLe_n lvLe_0) ?_
    exact sJ0_isLatin1_aae02_17 X h
  · refine q_run tkJ0_isLatin1_aae02 2 1 (pc' := 7) (L' := [some (.inr (.inr a0))]) (st' := [.inr (.inr a0)]) rfl ?_
    refine q_rdI RJ0 TJ0 4 (tbm tkJ0_isLatin1_aae02 (i := 3) rfl) rfl (Nat.le_of_ble_eq_true rfl) wd_474 (fun x1 => ?_)
    refine q_if_ne (tbm tkJ0_isLatin1_aae02 (i := 4) rfl) ?_ ?_
    · refine q_run tkJ0_isLatin1_aae02 5 2 (pc' := 18) (L' := [some (.inr (.inr a0))]) (st' := [.inl (1 : Int32)]) rfl ?_
      refine q_le (L' := [none]) (lvLe_n lvLe_0) ?_
      exact sJ0_isLatin1_aae02_18 X h (1 : Int32)
    · refine q_le (L' := [none]) (lvLe_n lvLe_0) ?_
      exact sJ0_isLatin1_aae02_17 X h
theorem ceJ0_isLatin1_aae02 : Ce mJ0_isLatin1_aae02 0 := ⟨wd_78, wd_622, by decide +kernel, by decide +kernel, by decide +kernel⟩
/-- java/lang/StringLatin1.charAt -/
abbrev mJ1_charAt_3b067 : MI := (yJ1_charAt_3b067, cJ1_charAt_3b067, 2, some .char, 2)
def tbJ1_charAt_3b067 : List TE := [(0, .iload_n 1, 1, 0, 0), (1, .aload_n 0, 1, 0, 0), (2, .arraylength, 1, 0, 0), (3, .invokestatic 9, 3, 0, 0), (6, .aload_n 0, 1, 0, 0), (7, .iload_n 1, 1, 0, 0), (8, .baload, 1, 0, 0), (9, .sipush 255, 3, 255, 0), (12, .iand, 1, 0, 0), (13, .i2c, 1, 0, 0), (14, .ireturn, 1, 0, 0)]
theorem tkJ1_charAt_3b067 : ∀ x ∈ tbJ1_charAt_3b067, tbB cJ1_charAt_3b067 x = true := tb_all (by decide +kernel)
def fJ1_charAt_3b067 (c : Nat → Option Nat) (h : Hp) (a0 : Option Nat) (a1 : Int32) : Rs := lenA h a0 (fun x1 => cc (fJ0_checkIndex_df160 c h a1 x1) (kV fun h2 => aldI h2 a0 [1, 2, 11] a1 (fun x3 => rtI .char h2 (chI (x3 &&& (255 : Int32))))))
set_option maxHeartbeats 4000000 in
set_option maxRecDepth 100000 in
theorem soJ1_charAt_3b067 (X : Cx) (h : Hp) (a0 : Option Nat) (a1 : Int32) : SO X mJ1_charAt_3b067 [.inr (.inr a0), .inl a1] h (fJ1_charAt_3b067 X.2.2.2 h a0 a1) := by
  refine so_of (by decide +kernel) (Nat.le_of_ble_eq_true rfl) ?_
  show Gd X mJ1_charAt_3b067 h (fJ1_charAt_3b067 X.2.2.2 h a0 a1) h 0 [some (.inr (.inr a0)), some (.inl a1)] []
  unfold fJ1_charAt_3b067
  refine q_run tkJ1_charAt_3b067 0 2 (pc' := 2) (L' := [some (.inr (.inr a0)), some (.inl a1)]) (st' := [.inr (.inr a0), .inl a1]) rfl ?_
  refine q_alen (tbm tkJ1_charAt_3b067 (i := 2) rfl) (fun x1 => ?_)
  refine q_cs (n := 2) (as := [.inl a1, .inl x1]) (st := []) (soJ0_checkIndex_df160 X h a1 x1) (tbm tkJ1_charAt_3b067 (i := 3) rfl) rfl ceJ0_checkIndex_df160 wd_385 wd_626 rfl (Nat.le_of_ble_eq_true rfl) (kV_gd (fun h2 => ?_))
  refine q_run tkJ1_charAt_3b067 4 2 (pc' := 8) (L' := [some (.inr (.inr a0)), some (.inl a1)]) (st' := [.inl a1, .inr (.inr a0)]) rfl ?_
  refine q_baload (tbm tkJ1_charAt_3b067 (i := 6) rfl) (fun x3 => ?_)
  refine q_run tkJ1_charAt_3b067 7 3 (pc' := 14) (L' := [some (.inr (.inr a0)), some (.inl a1)]) (st' := [.inl (chI (x3 &&& (255 : Int32)))]) rfl ?_
  exact q_zret (tbm tkJ1_charAt_3b067 (i := 10) rfl) rfl
theorem ceJ1_charAt_3b067 : Ce mJ1_charAt_3b067 2 := ⟨wd_88, wd_625, by decide +kernel, by decide +kernel, by decide +kernel⟩
/-- java/lang/String.charAt -/
abbrev mJ0_charAt_5068e : MI := (yJ0_charAt_5068e, cJ0_charAt_5068e, 2, some .char, 3)
def tbJ0_charAt_5068e : List TE := [(0, .aload_n 0, 1, 0, 0), (1, .invokevirtual 492, 3, 0, 0), (4, .ifCond .eq 12, 3, 0, 16), (7, .aload_n 0, 1, 0, 0), (8, .getfield 9, 3, 0, 0), (11, .iload_n 1, 1, 0, 0), (12, .invokestatic 495, 3, 0, 0), (15, .ireturn, 1, 0, 0), (16, .aload_n 0, 1, 0, 0), (17, .getfield 9, 3, 0, 0), (20, .iload_n 1, 1, 0, 0), (21, .invokestatic 498, 3, 0, 0), (24, .ireturn, 1, 0, 0)]
theorem tkJ0_charAt_5068e : ∀ x ∈ tbJ0_charAt_5068e, tbB cJ0_charAt_5068e x = true := tb_all (by decide +kernel)
def fJ0_charAt_5068e (c : Nat → Option Nat) (h : Hp) (a0 : Option Nat) (a1 : Int32) : Rs := ck h a0 0 (cc (fJ0_isLatin1_aae02 c h a0) (kI fun h1 x2 => if x2 = 0 then (rdR h1 a0 0 0 (fun r3 => none)) else (rdR h1 a0 0 0 (fun r4 => cc (fJ1_charAt_3b067 c h1 r4 a1) (kI fun h5 x6 => rtI .char h5 x6)))))
set_option maxHeartbeats 4000000 in
set_option maxRecDepth 100000 in
theorem soJ0_charAt_5068e (X : Cx) (h : Hp) (a0 : Option Nat) (a1 : Int32) : SO X mJ0_charAt_5068e [.inr (.inr a0), .inl a1] h (fJ0_charAt_5068e X.2.2.2 h a0 a1) := by
  refine so_of (by decide +kernel) (Nat.le_of_ble_eq_true rfl) ?_
  show Gd X mJ0_charAt_5068e h (fJ0_charAt_5068e X.2.2.2 h a0 a1) h 0 [some (.inr (.inr a0)), some (.inl a1)] []
  unfold fJ0_charAt_5068e
  refine q_run tkJ0_charAt_5068e 0 1 (pc' := 1) (L' := [some (.inr (.inr a0)), some (.inl a1)]) (st' := [.inr (.inr a0)]) rfl ?_
  refine q_cv (r := a0) (ci := 0) (n := 0) (as := []) (st := []) TJ0 4 (soJ0_isLatin1_aae02 X h a0) (tbm tkJ0_charAt_5068e (i := 1) rfl) rfl rfl ceJ0_isLatin1_aae02 wd_620 wd_621 wd_619 rfl (Nat.le_of_ble_eq_true rfl) (kI_gd (fun h1 x2 => ?_))
  refine q_if_eq (tbm tkJ0_charAt_5068e (i := 2) rfl) ?_ ?_
  · refine q_run tkJ0_charAt_5068e 8 1 (pc' := 17) (L' := [some (.inr (.inr a0)), some (.inl a1)]) (st' := [.inr (.inr a0)]) rfl ?_
    refine q_rdR RJ0 TJ0 4 (tbm tkJ0_charAt_5068e (i := 9) rfl) rfl (Nat.le_of_ble_eq_true rfl) wd_473 (fun r3 => ?_)
    refine q_run tkJ0_charAt_5068e 10 1 (pc' := 21) (L' := [some (.inr (.inr a0)), some (.inl a1)]) (st' := [.inl a1, .inr (.inr r3)]) rfl ?_
    exact gd_none
  · refine q_run tkJ0_charAt_5068e 3 1 (pc' := 8) (L' := [some (.inr (.inr a0)), some (.inl a1)]) (st' := [.inr (.inr a0)]) rfl ?_
    refine q_rdR RJ0 TJ0 4 (tbm tkJ0_charAt_5068e (i := 4) rfl) rfl (Nat.le_of_ble_eq_true rfl) wd_473 (fun r4 => ?_)
    refine q_run tkJ0_charAt_5068e 5 1 (pc' := 12) (L' := [some (.inr (.inr a0)), some (.inl a1)]) (st' := [.inl a1, .inr (.inr r4)]) rfl ?_
    refine q_cs (n := 2) (as := [.inr (.inr r4), .inl a1]) (st := []) (soJ1_charAt_3b067 X h1 r4 a1) (tbm tkJ0_charAt_5068e (i := 6) rfl) rfl ceJ1_charAt_3b067 wd_624 wd_623 rfl (Nat.le_of_ble_eq_true rfl) (kI_gd (fun h5 x6 => ?_))
    exact q_zret (tbm tkJ0_charAt_5068e (i := 7) rfl) rfl
theorem ceJ0_charAt_5068e : Ce mJ0_charAt_5068e 1 := ⟨wd_78, wd_618, by decide +kernel, by decide +kernel, by decide +kernel⟩
/-- java/lang/Integer.bitCount -/
abbrev mJ6_bitCount_0f7a4 : MI := (yJ6_bitCount_0f7a4, cJ6_bitCount_0f7a4, 1, some .int, 0)
def tbJ6_bitCount_0f7a4 : List TE := [(0, .iload_n 0, 1, 0, 0), (1, .iload_n 0, 1, 0, 0), (2, .iconst 1, 1, 1, 0), (3, .iushr, 1, 0, 0), (4, .ldc_w 265, 3, 0, 0), (7, .iand, 1, 0, 0), (8, .isub, 1, 0, 0), (9, .istore_n 0, 1, 0, 0), (10, .iload_n 0, 1, 0, 0), (11, .ldc_w 266, 3, 0, 0), (14, .iand, 1, 0, 0), (15, .iload_n 0, 1, 0, 0), (16, .iconst 2, 1, 2, 0), (17, .iushr, 1, 0, 0), (18, .ldc_w 266, 3, 0, 0), (21, .iand, 1, 0, 0), (22, .iadd, 1, 0, 0), (23, .istore_n 0, 1, 0, 0), (24, .iload_n 0, 1, 0, 0), (25, .iload_n 0, 1, 0, 0), (26, .iconst 4, 1, 4, 0), (27, .iushr, 1, 0, 0), (28, .iadd, 1, 0, 0), (29, .ldc_w 267, 3, 0, 0), (32, .iand, 1, 0, 0), (33, .istore_n 0, 1, 0, 0), (34, .iload_n 0, 1, 0, 0), (35, .iload_n 0, 1, 0, 0), (36, .bipush 8, 2, 8, 0), (38, .iushr, 1, 0, 0), (39, .iadd, 1, 0, 0), (40, .istore_n 0, 1, 0, 0), (41, .iload_n 0, 1, 0, 0), (42, .iload_n 0, 1, 0, 0), (43, .bipush 16, 2, 16, 0), (45, .iushr, 1, 0, 0), (46, .iadd, 1, 0, 0), (47, .istore_n 0, 1, 0, 0), (48, .iload_n 0, 1, 0, 0), (49, .bipush 63, 2, 63, 0), (51, .iand, 1, 0, 0), (52, .ireturn, 1, 0, 0)]
theorem tkJ6_bitCount_0f7a4 : ∀ x ∈ tbJ6_bitCount_0f7a4, tbB cJ6_bitCount_0f7a4 x = true := tb_all (by decide +kernel)
def fJ6_bitCount_0f7a4 (c : Nat → Option Nat) (h : Hp) (a0 : Int32) : Rs := some (h, some (.inl ((((((((a0 - ((ushrI a0 (1 : Int32)) &&& (1431655765 : Int32))) &&& (858993459 : Int32)) + ((ushrI (a0 - ((ushrI a0 (1 : Int32)) &&& (1431655765 : Int32))) (2 : Int32)) &&& (858993459 : Int32))) + (ushrI (((a0 - ((ushrI a0 (1 : Int32)) &&& (1431655765 : Int32))) &&& (858993459 : Int32)) + ((ushrI (a0 - ((ushrI a0 (1 : Int32)) &&& (1431655765 : Int32))) (2 : Int32)) &&& (858993459 : Int32))) (4 : Int32))) &&& (252645135 : Int32)) + (ushrI (((((a0 - ((ushrI a0 (1 : Int32)) &&& (1431655765 : Int32))) &&& (858993459 : Int32)) + ((ushrI (a0 - ((ushrI a0 (1 : Int32)) &&& (1431655765 : Int32))) (2 : Int32)) &&& (858993459 : Int32))) + (ushrI (((a0 - ((ushrI a0 (1 : Int32)) &&& (1431655765 : Int32))) &&& (858993459 : Int32)) + ((ushrI (a0 - ((ushrI a0 (1 : Int32)) &&& (1431655765 : Int32))) (2 : Int32)) &&& (858993459 : Int32))) (4 : Int32))) &&& (252645135 : Int32)) (8 : Int32))) + (ushrI ((((((a0 - ((ushrI a0 (1 : Int32)) &&& (1431655765 : Int32))) &&& (858993459 : Int32)) + ((ushrI (a0 - ((ushrI a0 (1 : Int32)) &&& (1431655765 : Int32))) (2 : Int32)) &&& (858993459 : Int32))) + (ushrI (((a0 - ((ushrI a0 (1 : Int32)) &&& (1431655765 : Int32))) &&& (858993459 : Int32)) + ((ushrI (a0 - ((ushrI a0 (1 : Int32)) &&& (1431655765 : Int32))) (2 : Int32)) &&& (858993459 : Int32))) (4 : Int32))) &&& (252645135 : Int32)) + (ushrI (((((a0 - ((ushrI a0 (1 : Int32)) &&& (1431655765 : Int32))) &&& (858993459 : Int32)) + ((ushrI (a0 - ((ushrI a0 (1 : Int32)) &&& (1431655765 : Int32))) (2 : Int32)) &&& (858993459 : Int32))) + (ushrI (((a0 - ((ushrI a0 (1 : Int32)) &&& (1431655765 : Int32))) &&& (858993459 : Int32)) + ((ushrI (a0 - ((ushrI a0 (1 : Int32)) &&& (1431655765 : Int32))) (2 : Int32)) &&& (858993459 : Int32))) (4 : Int32))) &&& (252645135 : Int32)) (8 : Int32))) (16 : Int32))) &&& (63 : Int32))))
set_option maxHeartbeats 4000000 in
set_option maxRecDepth 100000 in
theorem soJ6_bitCount_0f7a4 (X : Cx) (h : Hp) (a0 : Int32) : SO X mJ6_bitCount_0f7a4 [.inl a0] h (fJ6_bitCount_0f7a4 X.2.2.2 h a0) := by
  refine so_of (by decide +kernel) (Nat.le_of_ble_eq_true rfl) ?_
  show Gd X mJ6_bitCount_0f7a4 h (fJ6_bitCount_0f7a4 X.2.2.2 h a0) h 0 [some (.inl a0)] []
  unfold fJ6_bitCount_0f7a4
  refine q_run tkJ6_bitCount_0f7a4 0 4 (pc' := 4) (L' := [some (.inl a0)]) (st' := [.inl (ushrI a0 (1 : Int32)), .inl a0]) rfl ?_
  refine q_ldcw (w := (1431655765 : Int32)) (tbm tkJ6_bitCount_0f7a4 (i := 4) rfl) wd_785 ?_
  refine q_run tkJ6_bitCount_0f7a4 5 4 (pc' := 11) (L' := [some (.inl (a0 - ((ushrI a0 (1 : Int32)) &&& (1431655765 : Int32))))]) (st' := [.inl (a0 - ((ushrI a0 (1 : Int32)) &&& (1431655765 : Int32)))]) rfl ?_
  refine q_ldcw (w := (858993459 : Int32)) (tbm tkJ6_bitCount_0f7a4 (i := 9) rfl) wd_786 ?_
  refine q_run tkJ6_bitCount_0f7a4 10 4 (pc' := 18) (L' := [some (.inl (a0 - ((ushrI a0 (1 : Int32)) &&& (1431655765 : Int32))))]) (st' := [.inl (ushrI (a0 - ((ushrI a0 (1 : Int32)) &&& (1431655765 : Int32))) (2 : Int32)), .inl ((a0 - ((ushrI a0 (1 : Int32)) &&& (1431655765 : Int32))) &&& (858993459 : Int32))]) rfl ?_
  refine q_ldcw (w := (858993459 : Int32)) (tbm tkJ6_bitCount_0f7a4 (i := 14) rfl) wd_786 ?_
  refine q_run tkJ6_bitCount_0f7a4 15 8 (pc' := 29) (L' := [some (.inl (((a0 - ((ushrI a0 (1 : Int32)) &&& (1431655765 : Int32))) &&& (858993459 : Int32)) + ((ushrI (a0 - ((ushrI a0 (1 : Int32)) &&& (1431655765 : Int32))) (2 : Int32)) &&& (858993459 : Int32))))]) (st' := [.inl ((((a0 - ((ushrI a0 (1 : Int32)) &&& (1431655765 : Int32))) &&& (858993459 : Int32)) + ((ushrI (a0 - ((ushrI a0 (1 : Int32)) &&& (1431655765 : Int32))) (2 : Int32)) &&& (858993459 : Int32))) + (ushrI (((a0 - ((ushrI a0 (1 : Int32)) &&& (1431655765 : Int32))) &&& (858993459 : Int32)) + ((ushrI (a0 - ((ushrI a0 (1 : Int32)) &&& (1431655765 : Int32))) (2 : Int32)) &&& (858993459 : Int32))) (4 : Int32)))]) rfl ?_
  refine q_ldcw (w := (252645135 : Int32)) (tbm tkJ6_bitCount_0f7a4 (i := 23) rfl) wd_787 ?_
  refine q_run tkJ6_bitCount_0f7a4 24 17 (pc' := 52) (L' := [some (.inl (((((((a0 - ((ushrI a0 (1 : Int32)) &&& (1431655765 : Int32))) &&& (858993459 : Int32)) + ((ushrI (a0 - ((ushrI a0 (1 : Int32)) &&& (1431655765 : Int32))) (2 : Int32)) &&& (858993459 : Int32))) + (ushrI (((a0 - ((ushrI a0 (1 : Int32)) &&& (1431655765 : Int32))) &&& (858993459 : Int32)) + ((ushrI (a0 - ((ushrI a0 (1 : Int32)) &&& (1431655765 : Int32))) (2 : Int32)) &&& (858993459 : Int32))) (4 : Int32))) &&& (252645135 : Int32)) + (ushrI (((((a0 - ((ushrI a0 (1 : Int32)) &&& (1431655765 : Int32))) &&& (858993459 : Int32)) + ((ushrI (a0 - ((ushrI a0 (1 : Int32)) &&& (1431655765 : Int32))) (2 : Int32)) &&& (858993459 : Int32))) + (ushrI (((a0 - ((ushrI a0 (1 : Int32)) &&& (1431655765 : Int32))) &&& (858993459 : Int32)) + ((ushrI (a0 - ((ushrI a0 (1 : Int32)) &&& (1431655765 : Int32))) (2 : Int32)) &&& (858993459 : Int32))) (4 : Int32))) &&& (252645135 : Int32)) (8 : Int32))) + (ushrI ((((((a0 - ((ushrI a0 (1 : Int32)) &&& (1431655765 : Int32))) &&& (858993459 : Int32)) + ((ushrI (a0 - ((ushrI a0 (1 : Int32)) &&& (1431655765 : Int32))) (2 : Int32)) &&& (858993459 : Int32))) + (ushrI (((a0 - ((ushrI a0 (1 : Int32)) &&& (1431655765 : Int32))) &&& (858993459 : Int32)) + ((ushrI (a0 - ((ushrI a0 (1 : Int32)) &&& (1431655765 : Int32))) (2 : Int32)) &&& (858993459 : Int32))) (4 : Int32))) &&& (252645135 : Int32)) + (ushrI (((((a0 - ((ushrI a0 (1 : Int32)) &&& (1431655765 : Int32))) &&& (858993459 : Int32)) + ((ushrI (a0 - ((ushrI a0 (1 : Int32)) &&& (1431655765 : Int32))) (2 : Int32)) &&& (858993459 : Int32))) + (ushrI (((a0 - ((ushrI a0 (1 : Int32)) &&& (1431655765 : Int32))) &&& (858993459 : Int32)) + ((ushrI (a0 - ((ushrI a0 (1 : Int32)) &&& (1431655765 : Int32))) (2 : Int32)) &&& (858993459 : Int32))) (4 : Int32))) &&& (252645135 : Int32)) (8 : Int32))) (16 : Int32))))]) (st' := [.inl ((((((((a0 - ((ushrI a0 (1 : Int32)) &&& (1431655765 : Int32))) &&& (858993459 : Int32)) + ((ushrI (a0 - ((ushrI a0 (1 : Int32)) &&& (1431655765 : Int32))) (2 : Int32)) &&& (858993459 : Int32))) + (ushrI (((a0 - ((ushrI a0 (1 : Int32)) &&& (1431655765 : Int32))) &&& (858993459 : Int32)) + ((ushrI (a0 - ((ushrI a0 (1 : Int32)) &&& (1431655765 : Int32))) (2 : Int32)) &&& (858993459 : Int32))) (4 : Int32))) &&& (252645135 : Int32)) + (ushrI (((((a0 - ((ushrI a0 (1 : Int32)) &&& (1431655765 : Int32))) &&& (858993459 : Int32)) + ((ushrI (a0 - ((ushrI a0 (1 : Int32)) &&& (1431655765 : Int32))) (2 : Int32)) &&& (858993459 : Int32))) + (ushrI (((a0 - ((ushrI a0 (1 : Int32)) &&& (1431655765 : Int32))) &&& (858993459 : Int32)) + ((ushrI (a0 - ((ushrI a0 (1 : Int32)) &&& (1431655765 : Int32))) (2 : Int32)) &&& (858993459 : Int32))) (4 : Int32))) &&& (252645135 : Int32)) (8 : Int32))) + (ushrI ((((((a0 - ((ushrI a0 (1 : Int32)) &&& (1431655765 : Int32))) &&& (858993459 : Int32)) + ((ushrI (a0 - ((ushrI a0 (1 : Int32)) &&& (1431655765 : Int32))) (2 : Int32)) &&& (858993459 : Int32))) + (ushrI (((a0 - ((ushrI a0 (1 : Int32)) &&& (1431655765 : Int32))) &&& (858993459 : Int32)) + ((ushrI (a0 - ((ushrI a0 (1 : Int32)) &&& (1431655765 : Int32))) (2 : Int32)) &&& (858993459 : Int32))) (4 : Int32))) &&& (252645135 : Int32)) + (ushrI (((((a0 - ((ushrI a0 (1 : Int32)) &&& (1431655765 : Int32))) &&& (858993459 : Int32)) + ((ushrI (a0 - ((ushrI a0 (1 : Int32)) &&& (1431655765 : Int32))) (2 : Int32)) &&& (858993459 : Int32))) + (ushrI (((a0 - ((ushrI a0 (1 : Int32)) &&& (1431655765 : Int32))) &&& (858993459 : Int32)) + ((ushrI (a0 - ((ushrI a0 (1 : Int32)) &&& (1431655765 : Int32))) (2 : Int32)) &&& (858993459 : Int32))) (4 : Int32))) &&& (252645135 : Int32)) (8 : Int32))) (16 : Int32))) &&& (63 : Int32))]) rfl ?_
  exact q_iret (tbm tkJ6_bitCount_0f7a4 (i := 41) rfl) rfl
theorem ceJ6_bitCount_0f7a4 : Ce mJ6_bitCount_0f7a4 1 := ⟨wd_89, wd_784, by decide +kernel, by decide +kernel, by decide +kernel⟩
/-- java/lang/StringLatin1.canEncode -/
abbrev mJ1_canEncode_fc78d : MI := (yJ1_canEncode_fc78d, cJ1_canEncode_fc78d, 1, some .boolean, 0)
def tbJ1_canEncode_fc78d : List TE := [(0, .iload_n 0, 1, 0, 0), (1, .sipush 255, 3, 255, 0), (4, .if_icmp .gt 7, 3, 0, 11), (7, .iconst 1, 1, 1, 0), (8, .goto 4, 3, 0, 12), (11, .iconst 0, 1, 0, 0), (12, .ireturn, 1, 0, 0)]
theorem tkJ1_canEncode_fc78d : ∀ x ∈ tbJ1_canEncode_fc78d, tbB cJ1_canEncode_fc78d x = true := tb_all (by decide +kernel)
def fJ1_canEncode_fc78d_12 (c : Nat → Option Nat) (h : Hp) (s0 : Int32) : Rs := rtI .boolean h s0
set_option maxHeartbeats 4000000 in
set_option maxRecDepth 100000 in
theorem sJ1_canEncode_fc78d_12 (X : Cx) {h0 : Hp} (h : Hp) (s0 : Int32) : Gd X mJ1_canEncode_fc78d h0 (fJ1_canEncode_fc78d_12 X.2.2.2 h s0) h 12 [none] [.inl s0] := by
  unfold fJ1_canEncode_fc78d_12
  exact q_zret (tbm tkJ1_canEncode_fc78d (i := 6) rfl) rfl
def fJ1_canEncode_fc78d (c : Nat → Option Nat) (h : Hp) (a0 : Int32) : Rs := if (255 : Int32) < a0 then (fJ1_canEncode_fc78d_12 c h (0 : Int32)) else (fJ1_canEncode_fc78d_12 c h (1 : Int32))
set_option maxHeartbeats 4000000 in
set_option maxRecDepth 100000 in
theorem soJ1_canEncode_fc78d (X : Cx) (h : Hp) (a0 : Int32) : SO X mJ1_canEncode_fc78d [.inl a0] h (fJ1_canEncode_fc78d X.2.2.2 h a0) := by
  refine so_of (by decide +kernel) (Nat.le_of_ble_eq_true rfl) ?_
  show Gd X mJ1_canEncode_fc78d h (fJ1_canEncode_fc78d X.2.2.2 h a0) h 0 [some (.inl a0)] []
  unfold fJ1_canEncode_fc78d
  refine q_run tkJ1_canEncode_fc78d 0 2 (pc' := 4) (L' := [some (.inl a0)]) (st' := [.inl (255 : Int32), .inl a0]) rfl ?_
  refine q_icmp_gt (tbm tkJ1_canEncode_fc78d (i := 2) rfl) ?_ ?_
  · refine q_run tkJ1_canEncode_fc78d 5 1 (pc' := 12) (L' := [some (.inl a0)]) (st' := [.inl (0 : Int32)]) rfl ?_
    refine q_le (L' := [none]) (lvLe_n lvLe_0) ?_
    exact sJ1_canEncode_fc78d_12 X h (0 : Int32)
  · refine q_run tkJ1_canEncode_fc78d 3 2 (pc' := 12) (L' := [some (.inl a0)]) (st' := [.inl (1 : Int32)]) rfl ?_
    refine q_le (L' := [none]) (lvLe_n lvLe_0) ?_
    exact sJ1_canEncode_fc78d_12 X h (1 : Int32)
theorem ceJ1_canEncode_fc78d : Ce mJ1_canEncode_fc78d 1 := ⟨wd_88, wd_884, by decide +kernel, by decide +kernel, by decide +kernel⟩
/-- java/lang/AbstractStringBuilder.append -/
abbrev mJ5_append_3fe6f : MI := (yJ5_append_3fe6f, cJ5_append_3fe6f, 2, some (.object "java/lang/AbstractStringBuilder"), 4)
def tbJ5_append_3fe6f : List TE := [(0, .aload_n 0, 1, 0, 0), (1, .aload_n 0, 1, 0, 0), (2, .getfield 79, 3, 0, 0), (5, .iconst 1, 1, 1, 0), (6, .iadd, 1, 0, 0), (7, .invokevirtual 100, 3, 0, 0), (10, .aload_n 0, 1, 0, 0), (11, .invokevirtual 83, 3, 0, 0), (14, .ifCond .eq 31, 3, 0, 45), (17, .iload_n 1, 1, 0, 0), (18, .invokestatic 191, 3, 0, 0), (21, .ifCond .eq 24, 3, 0, 45), (24, .aload_n 0, 1, 0, 0), (25, .getfield 15, 3, 0, 0), (28, .aload_n 0, 1, 0, 0), (29, .dup, 1, 0, 0), (30, .getfield 79, 3, 0, 0), (33, .dup_x1, 1, 0, 0), (34, .iconst 1, 1, 1, 0), (35, .iadd, 1, 0, 0), (36, .putfield 79, 3, 0, 0), (39, .iload_n 1, 1, 0, 0), (40, .i2b, 1, 0, 0), (41, .bastore, 1, 0, 0), (42, .goto 33, 3, 0, 75), (45, .aload_n 0, 1, 0, 0), (46, .invokevirtual 83, 3, 0, 0), (49, .ifCond .eq 7, 3, 0, 56), (52, .aload_n 0, 1, 0, 0), (53, .invokevirtual 195, 3, 0, 0), (56, .aload_n 0, 1, 0, 0), (57, .getfield 15, 3, 0, 0), (60, .aload_n 0, 1, 0, 0), (61, .dup, 1, 0, 0), (62, .getfield 79, 3, 0, 0), (65, .dup_x1, 1, 0, 0), (66, .iconst 1, 1, 1, 0), (67, .iadd, 1, 0, 0), (68, .putfield 79, 3, 0, 0), (71, .iload_n 1, 1, 0, 0), (72, .invokestatic 197, 3, 0, 0), (75, .aload_n 0, 1, 0, 0), (76, .areturn, 1, 0, 0)]
theorem tkJ5_append_3fe6f : ∀ x ∈ tbJ5_append_3fe6f, tbB cJ5_append_3fe6f x = true := tb_all (by decide +kernel)
def fJ5_append_3fe6f_45 (c : Nat → Option Nat) (h : Hp) (l0 : Option Nat) (l1 : Int32) : Rs := ck h l0 1 (cc (fJ5_isLatin1_aae02 c h l0) (kI fun h1 x2 => if x2 = 0 then (rdR h1 l0 1 0 (fun r3 => rdI h1 l0 1 3 (fun x4 => wr h1 l0 1 3 (.inl (x4 + (1 : Int32))) (fun h5 => none)))) else none))
set_option maxHeartbeats 4000000 in
set_option maxRecDepth 100000 in
theorem sJ5_append_3fe6f_45 (X : Cx) {h0 : Hp} (h : Hp) (l0 : Option Nat) (l1 : Int32) : Gd X mJ5_append_3fe6f h0 (fJ5_append_3fe6f_45 X.2.2.2 h l0 l1) h 45 [some (.inr (.inr l0)), some (.inl l1)] [] := by
  unfold fJ5_append_3fe6f_45
  refine q_run tkJ5_append_3fe6f 25 1 (pc' := 46) (L' := [some (.inr (.inr l0)), some (.inl l1)]) (st' := [.inr (.inr l0)]) rfl ?_
  refine q_cu (r := l0) (ci := 1) (n := 0) (as := []) (st := []) RJ4 TJ4 4 (soJ5_isLatin1_aae02 X h l0) (tbm tkJ5_append_3fe6f (i := 26) rfl) rfl rfl ceJ5_isLatin1_aae02 wd_428 wd_430 wd_429 wd_545 rfl (Nat.le_of_ble_eq_true rfl) (kI_gd (fun h1 x2 => ?_))
  refine q_if_eq (tbm tkJ5_append_3fe6f (i := 27) rfl) ?_ ?_
  · refine q_run tkJ5_append_3fe6f 30 1 (pc' := 57) (L' := [some (.inr (.inr l0)), some (.inl l1)]) (st' := [.inr (.inr l0)]) rfl ?_
    refine q_rdR RJ4 TJ4 4 (tbm tkJ5_append_3fe6f (i := 31) rfl) rfl (Nat.le_of_ble_eq_true rfl) wd_260 (fun r3 => ?_)
    refine q_run tkJ5_append_3fe6f 32 2 (pc' := 62) (L' := [some (.inr (.inr l0)), some (.inl l1)]) (st' := [.inr (.inr l0), .inr (.inr l0), .inr (.inr r3)]) rfl ?_
    refine q_rdI RJ4 TJ4 4 (tbm tkJ5_append_3fe6f (i := 34) rfl) rfl (Nat.le_of_ble_eq_true rfl) wd_264 (fun x4 => ?_)
    refine q_run tkJ5_append_3fe6f 35 3 (pc' := 68) (L' := [some (.inr (.inr l0)), some (.inl l1)]) (st' := [.inl (x4 + (1 : Int32)), .inr (.inr l0), .inl x4, .inr (.inr r3)]) rfl ?_
    refine q_wr RJ4 TJ4 4 (tbm tkJ5_append_3fe6f (i := 38) rfl) rfl (Nat.le_of_ble_eq_true rfl) (Or.inl rfl) wd_264 (fun h5 => ?_)
    refine q_run tkJ5_append_3fe6f 39 1 (pc' := 72) (L' := [some (.inr (.inr l0)), some (.inl l1)]) (st' := [.inl l1, .inl x4, .inr (.inr r3)]) rfl ?_
    exact gd_none
  · refine q_run tkJ5_append_3fe6f 28 1 (pc' := 53) (L' := [some (.inr (.inr l0)), some (.inl l1)]) (st' := [.inr (.inr l0)]) rfl ?_
    exact gd_none
def fJ5_append_3fe6f (c : Nat → Option Nat) (h : Hp) (a0 : Option Nat) (a1 : Int32) : Rs := rdI h a0 1 3 (fun x6 => ck h a0 1 (cc (fJ5_ensureCapacityInternal_d00df c h a0 (x6 + (1 : Int32))) (kV fun h7 => ck h7 a0 1 (cc (fJ5_isLatin1_aae02 c h7 a0) (kI fun h8 x9 => if x9 = 0 then (fJ5_append_3fe6f_45 c h8 a0 a1) else (cc (fJ1_canEncode_fc78d c h8 a1) (kI fun h10 x11 => if x11 = 0 then (fJ5_append_3fe6f_45 c h10 a0 a1) else (rdR h10 a0 1 0 (fun r12 => rdI h10 a0 1 3 (fun x13 => wr h10 a0 1 3 (.inl (x13 + (1 : Int32))) (fun h14 => astI h14 r12 [1, 2] x13 (byI a1) (fun h15 => some (h15, some (.inr (.inr a0)))))))))))))))
set_option maxHeartbeats 4000000 in
set_option maxRecDepth 100000 in
theorem soJ5_append_3fe6f (X : Cx) (h : Hp) (a0 : Option Nat) (a1 : Int32) : SO X mJ5_append_3fe6f [.inr (.inr a0), .inl a1] h (fJ5_append_3fe6f X.2.2.2 h a0 a1) := by
  refine so_of (by decide +kernel) (Nat.le_of_ble_eq_true rfl) ?_
  show Gd X mJ5_append_3fe6f h (fJ5_append_3fe6f X.2.2.2 h a0 a1) h 0 [some (.inr (.inr a0)), some (.inl a1)] []
  unfold fJ5_append_3fe6f
  refine q_run tkJ5_append_3fe6f 0 2 (pc' := 2) (L' := [some (.inr (.inr a0)), some (.inl a1)]) (st' := [.inr (.inr a0), .inr (.inr a0)]) rfl ?_
  refine q_rdI RJ4 TJ4 4 (tbm tkJ5_append_3fe6f (i := 2) rfl) rfl (Nat.le_of_ble_eq_true rfl) wd_264 (fun x6 => ?_)
  refine q_run tkJ5_append_3fe6f 3 2 (pc' := 7) (L' := [some (.inr (.inr a0)), some (.inl a1)]) (st' := [.inl (x6 + (1 : Int32)), .inr (.inr a0)]) rfl ?_
  refine q_cu (r := a0) (ci := 1) (n := 1) (as := [.inl (x6 + (1 : Int32))]) (st := []) RJ4 TJ4 4 (soJ5_ensureCapacityInternal_d00df X h a0 (x6 + (1 : Int32))) (tbm tkJ5_append_3fe6f (i := 5) rfl) rfl rfl ceJ5_ensureCapacityInternal_d00df wd_525 ex_ensureCapacityInternal wd_1325 wd_523 rfl (Nat.le_of_ble_eq_true rfl) (kV_gd (fun h7 => ?_))
  refine q_run tkJ5_append_3fe6f 6 1 (pc' := 11) (L' := [some (.inr (.inr a0)), some (.inl a1)]) (st' := [.inr (.inr a0)]) rfl ?_
  refine q_cu (r := a0) (ci := 1) (n := 0) (as := []) (st := []) RJ4 TJ4 4 (soJ5_isLatin1_aae02 X h7 a0) (tbm tkJ5_append_3fe6f (i := 7) rfl) rfl rfl ceJ5_isLatin1_aae02 wd_428 wd_430 wd_429 wd_545 rfl (Nat.le_of_ble_eq_true rfl) (kI_gd (fun h8 x9 => ?_))
  refine q_if_eq (tbm tkJ5_append_3fe6f (i := 8) rfl) ?_ ?_
  · exact sJ5_append_3fe6f_45 X h8 a0 a1
  · refine q_run tkJ5_append_3fe6f 9 1 (pc' := 18) (L' := [some (.inr (.inr a0)), some (.inl a1)]) (st' := [.inl a1]) rfl ?_
    refine q_cs (n := 1) (as := [.inl a1]) (st := []) (soJ1_canEncode_fc78d X h8 a1) (tbm tkJ5_append_3fe6f (i := 10) rfl) rfl ceJ1_canEncode_fc78d wd_883 wd_882 rfl (Nat.le_of_ble_eq_true rfl) (kI_gd (fun h10 x11 => ?_))
    refine q_if_eq (tbm tkJ5_append_3fe6f (i := 11) rfl) ?_ ?_
    · exact sJ5_append_3fe6f_45 X h10 a0 a1
    · refine q_run tkJ5_append_3fe6f 12 1 (pc' := 25) (L' := [some (.inr (.inr a0)), some (.inl a1)]) (st' := [.inr (.inr a0)]) rfl ?_
      refine q_rdR RJ4 TJ4 4 (tbm tkJ5_append_3fe6f (i := 13) rfl) rfl (Nat.le_of_ble_eq_true rfl) wd_260 (fun r12 => ?_)
      refine q_run tkJ5_append_3fe6f 14 2 (pc' := 30) (L' := [some (.inr (.inr a0)), some (.inl a1)]) (st' := [.inr (.inr a0), .inr (.inr a0), .inr (.inr r12)]) rfl ?_
      refine q_rdI RJ4 TJ4 4 (tbm tkJ5_append_3fe6f (i := 16) rfl) rfl (Nat.le_of_ble_eq_true rfl) wd_264 (fun x13 => ?_)
      refine q_run tkJ5_append_3fe6f 17 3 (pc' := 36) (L' := [some (.inr (.inr a0)), some (.inl a1)]) (st' := [.inl (x13 + (1 : Int32)), .inr (.inr a0), .inl x13, .inr (.inr r12)]) rfl ?_
      refine q_wr RJ4 TJ4 4 (tbm tkJ5_append_3fe6f (i := 20) rfl) rfl (Nat.le_of_ble_eq_true rfl) (Or.inl rfl) wd_264 (fun h14 => ?_)
      refine q_run tkJ5_append_3fe6f 21 2 (pc' := 41) (L' := [some (.inr (.inr a0)), some (.inl a1)]) (st' := [.inl (byI a1), .inl x13, .inr (.inr r12)]) rfl ?_
      refine q_bastore (tbm tkJ5_append_3fe6f (i := 23) rfl) (fun h15 => ?_)
      refine q_run tkJ5_append_3fe6f 24 1 (pc' := 75) (L' := [some (.inr (.inr a0)), some (.inl a1)]) (st' := []) rfl ?_
      refine q_run tkJ5_append_3fe6f 41 1 (pc' := 76) (L' := [some (.inr (.inr a0)), some (.inl a1)]) (st' := [.inr (.inr a0)]) rfl ?_
      exact q_aret (tbm tkJ5_append_3fe6f (i := 42) rfl) rfl (Or.inl ⟨_, rfl⟩)
theorem ceJ5_append_3fe6f : Ce mJ5_append_3fe6f 1 := ⟨wd_76, wd_881, by decide +kernel, by decide +kernel, by decide +kernel⟩
/-- java/lang/StringBuilder.append -/
abbrev mJ4_append_cf468 : MI := (yJ4_append_cf468, cJ4_append_cf468, 2, some (.object "java/lang/StringBuilder"), 5)
def tbJ4_append_cf468 : List TE := [(0, .aload_n 0, 1, 0, 0), (1, .iload_n 1, 1, 0, 0), (2, .invokespecial 50, 3, 0, 0), (5, .pop, 1, 0, 0), (6, .aload_n 0, 1, 0, 0), (7, .areturn, 1, 0, 0)]
theorem tkJ4_append_cf468 : ∀ x ∈ tbJ4_append_cf468, tbB cJ4_append_cf468 x = true := tb_all (by decide +kernel)
def fJ4_append_cf468 (c : Nat → Option Nat) (h : Hp) (a0 : Option Nat) (a1 : Int32) : Rs := ck h a0 1 (cc (fJ5_append_3fe6f c h a0 a1) (kR fun h1 r2 => some (h1, some (.inr (.inr a0)))))
set_option maxHeartbeats 4000000 in
set_option maxRecDepth 100000 in
theorem soJ4_append_cf468 (X : Cx) (h : Hp) (a0 : Option Nat) (a1 : Int32) : SO X mJ4_append_cf468 [.inr (.inr a0), .inl a1] h (fJ4_append_cf468 X.2.2.2 h a0 a1) := by
  refine so_of (by decide +kernel) (Nat.le_of_ble_eq_true rfl) ?_
  show Gd X mJ4_append_cf468 h (fJ4_append_cf468 X.2.2.2 h a0 a1) h 0 [some (.inr (.inr a0)), some (.inl a1)] []
  unfold fJ4_append_cf468
  refine q_run tkJ4_append_cf468 0 2 (pc' := 2) (L' := [some (.inr (.inr a0)), some (.inl a1)]) (st' := [.inl a1, .inr (.inr a0)]) rfl ?_
  refine q_csu (r := a0) (ci := 1) (n := 1) (as := [.inl a1]) (st := []) RJ4 TJ4 4 (soJ5_append_3fe6f X h a0 a1) (tbm tkJ4_append_cf468 (i := 2) rfl) rfl rfl ceJ5_append_3fe6f wd_880 wd_273 wd_1327 (by decide +kernel) wd_879 rfl (Nat.le_of_ble_eq_true rfl) (kR_gd (fun h1 r2 => ?_))
  refine q_run tkJ4_append_cf468 3 2 (pc' := 7) (L' := [some (.inr (.inr a0)), some (.inl a1)]) (st' := [.inr (.inr a0)]) rfl ?_
  exact q_aret (tbm tkJ4_append_cf468 (i := 5) rfl) rfl (Or.inl ⟨_, rfl⟩)
theorem ceJ4_append_cf468 : Ce mJ4_append_cf468 1 := ⟨wd_77, wd_878, by decide +kernel, by decide +kernel, by decide +kernel⟩
end
section
/-- ReceiptRolls$Receipt.init -/
abbrev mX2_init : MI := (yX2_init, cX2_init, 1, none, 1)
def tbX2_init : List TE := [(0, .aload_n 0, 1, 0, 0), (1, .invokespecial 3, 3, 0, 0), (4, .aload_n 0, 1, 0, 0), (5, .bipush 12, 2, 12, 0), (7, .anewarray 9, 3, 0, 0), (10, .putfield 11, 3, 0, 0), (13, .aload_n 0, 1, 0, 0), (14, .bipush 24, 2, 24, 0), (16, .newarray .int, 2, 0, 0), (18, .putfield 17, 3, 0, 0), (21, .return_, 1, 0, 0)]
theorem tkX2_init : ∀ x ∈ tbX2_init, tbB cX2_init x = true := tb_all (by decide +kernel)
def fX2_init (c : Nat → Option Nat) (h : Hp) (a0 : Option Nat) : Rs := dn a0 (nwR h 4 (12 : Int32) (fun h1 r2 => wr h1 a0 4 12 (.inr (.inr r2)) (fun h3 => nwA h3 0 (24 : Int32) (fun h4 r5 => wr h4 a0 4 13 (.inr (.inr r5)) (fun h6 => some (h6, none))))))
set_option maxHeartbeats 4000000 in
set_option maxRecDepth 100000 in
theorem soX2_init (X : Cx) (h : Hp) (a0 : Option Nat) : SO X mX2_init [.inr (.inr a0)] h (fX2_init X.2.2.2 h a0) := by
  refine so_of (by decide +kernel) (Nat.le_of_ble_eq_true rfl) ?_
  show Gd X mX2_init h (fX2_init X.2.2.2 h a0) h 0 [some (.inr (.inr a0))] []
  unfold fX2_init
  refine q_run tkX2_init 0 1 (pc' := 1) (L' := [some (.inr (.inr a0))]) (st' := [.inr (.inr a0)]) rfl ?_
  refine q_obj (tbm tkX2_init (i := 1) rfl) (Nat.le_of_ble_eq_true rfl) (Nat.le_of_ble_eq_true rfl) ⟨wd_110, wd_oi, wd_oc⟩ ?_
  refine q_run tkX2_init 2 2 (pc' := 7) (L' := [some (.inr (.inr a0))]) (st' := [.inl (12 : Int32), .inr (.inr a0)]) rfl ?_
  refine q_newr (k := 4) (Nat.le_of_ble_eq_true rfl) (Nat.le_of_ble_eq_true rfl) (tbm tkX2_init (i := 4) rfl) wd_111 (fun h1 r2 => ?_)
  refine q_wr RX2 TX2 14 (tbm tkX2_init (i := 5) rfl) rfl (Nat.le_of_ble_eq_true rfl) (Or.inr ⟨rfl, rfl⟩) wd_142 (fun h3 => ?_)
  refine q_run tkX2_init 6 2 (pc' := 16) (L' := [some (.inr (.inr a0))]) (st' := [.inl (24 : Int32), .inr (.inr a0)]) rfl ?_
  refine q_newa (k := 0) (Nat.le_of_ble_eq_true rfl) (tbm tkX2_init (i := 8) rfl) wd_174 (fun h4 r5 => ?_)
  refine q_wr RX2 TX2 14 (tbm tkX2_init (i := 9) rfl) rfl (Nat.le_of_ble_eq_true rfl) (Or.inr ⟨rfl, rfl⟩) wd_143 (fun h6 => ?_)
  exact q_vret (tbm tkX2_init (i := 10) rfl) rfl
theorem ceX2_init : Ce mX2_init 0 := ⟨wd_74, wd_109, by decide +kernel, by decide +kernel, by decide +kernel⟩
/-- ReceiptRolls$State.init -/
abbrev mX4_init : MI := (yX4_init, cX4_init, 2, none, 2)
def tbX4_init : List TE := [(0, .aload_n 0, 1, 0, 0), (1, .invokespecial 3, 3, 0, 0), (4, .aload_n 0, 1, 0, 0), (5, .bipush 40, 2, 40, 0), (7, .putfield 9, 3, 0, 0), (10, .aload_n 0, 1, 0, 0), (11, .iconst 1, 1, 1, 0), (12, .putfield 15, 3, 0, 0), (15, .aload_n 0, 1, 0, 0), (16, .iconst 3, 1, 3, 0), (17, .newarray .int, 2, 0, 0), (19, .dup, 1, 0, 0), (20, .iconst 0, 1, 0, 0), (21, .bipush 24, 2, 24, 0), (23, .iastore, 1, 0, 0), (24, .dup, 1, 0, 0), (25, .iconst 1, 1, 1, 0), (26, .bipush 40, 2, 40, 0), (28, .iastore, 1, 0, 0), (29, .dup, 1, 0, 0), (30, .iconst 2, 1, 2, 0), (31, .iconst 2, 1, 2, 0), (32, .iastore, 1, 0, 0), (33, .putfield 18, 3, 0, 0), (36, .aload_n 0, 1, 0, 0), (37, .iconst 3, 1, 3, 0), (38, .anewarray 22, 3, 0, 0), (41, .putfield 24, 3, 0, 0), (44, .aload_n 0, 1, 0, 0), (45, .bipush 18, 2, 18, 0), (47, .anewarray 22, 3, 0, 0), (50, .putfield 28, 3, 0, 0), (53, .iconst 0, 1, 0, 0), (54, .istore_n 1, 1, 0, 0), (55, .iload_n 1, 1, 0, 0), (56, .aload_n 0, 1, 0, 0), (57, .getfield 24, 3, 0, 0), (60, .arraylength, 1, 0, 0), (61, .if_icmp .ge 22, 3, 0, 83), (64, .aload_n 0, 1, 0, 0), (65, .getfield 24, 3, 0, 0), (68, .iload_n 1, 1, 0, 0), (69, .new 22, 3, 0, 0), (72, .dup, 1, 0, 0), (73, .invokespecial 31, 3, 0, 0), (76, .aastore, 1, 0, 0), (77, .iinc 1 1, 3, 1, 0), (80, .goto (-25), 3, 0, 55), (83, .iconst 0, 1, 0, 0), (84, .istore_n 1, 1, 0, 0), (85, .iload_n 1, 1, 0, 0), (86, .aload_n 0, 1, 0, 0), (87, .getfield 28, 3, 0, 0), (90, .arraylength, 1, 0, 0), (91, .if_icmp .ge 22, 3, 0, 113), (94, .aload_n 0, 1, 0, 0), (95, .getfield 28, 3, 0, 0), (98, .iload_n 1, 1, 0, 0), (99, .new 22, 3, 0, 0), (102, .dup, 1, 0, 0), (103, .invokespecial 31, 3, 0, 0), (106, .aastore, 1, 0, 0), (107, .iinc 1 1, 3, 1, 0), (110, .goto (-25), 3, 0, 85), (113, .return_, 1, 0, 0)]
theorem tkX4_init : ∀ x ∈ tbX4_init, tbB cX4_init x = true := tb_all (by decide +kernel)
def fX4_init_85 (c : Nat → Option Nat) : Nat → Hp → Option Nat → Int32 → Rs
  | 0, _, _, _ => none
  | n + 1, h, l0, l1 => rdR h l0 6 12 (fun r1 => lenA h r1 (fun x2 => if l1 < x2 then (rdR h l0 6 12 (fun r3 => nwO h 4 (fun h4 r5 => dn r5 (cc (fX2_init c h4 r5) (kV fun h6 => astR h6 r3 l1 r5 (fun h7 => fX4_init_85 c n h7 l0 (l1 + (1 : Int32)))))))) else (some (h, none))))
set_option maxHeartbeats 4000000 in
set_option maxRecDepth 100000 in
theorem sX4_init_85 (X : Cx) {h0 : Hp} : ∀ (n : Nat) (h : Hp) (l0 : Option Nat) (l1 : Int32), Gd X mX4_init h0 (fX4_init_85 X.2.2.2 n h l0 l1) h 85 [some (.inr (.inr l0)), some (.inl l1)] [] := by
  intro n
  induction n with
  | zero => intros; exact gd_none
  | succ n ih =>
    intro h l0 l1
    unfold fX4_init_85
    refine q_run tkX4_init 50 2 (pc' := 87) (L' := [some (.inr (.inr l0)), some (.inl l1)]) (st' := [.inr (.inr l0), .inl l1]) rfl ?_
    refine q_rdR RX4 TX4 13 (tbm tkX4_init (i := 52) rfl) rfl (Nat.le_of_ble_eq_true rfl) wd_197 (fun r1 => ?_)
    refine q_alen (tbm tkX4_init (i := 53) rfl) (fun x2 => ?_)
    refine q_icmp_ge (tbm tkX4_init (i := 54) rfl) ?_ ?_
    · refine q_run tkX4_init 55 1 (pc' := 95) (L' := [some (.inr (.inr l0)), some (.inl l1)]) (st' := [.inr (.inr l0)]) rfl ?_
      refine q_rdR RX4 TX4 13 (tbm tkX4_init (i := 56) rfl) rfl (Nat.le_of_ble_eq_true rfl) wd_197 (fun r3 => ?_)
      refine q_run tkX4_init 57 1 (pc' := 99) (L' := [some (.inr (.inr l0)), some (.inl l1)]) (st' := [.inl l1, .inr (.inr r3)]) rfl ?_
      refine q_new RX2 TX2 14 (tbm tkX4_init (i := 58) rfl) (Nat.le_of_ble_eq_true rfl) rfl ⟨wd_104, wd_106, wd_74⟩ (fun h4 r5 => ?_)
      refine q_run tkX4_init 59 1 (pc' := 103) (L' := [some (.inr (.inr l0)), some (.inl l1)]) (st' := [.inr (.inr r5), .inr (.inr r5), .inl l1, .inr (.inr r3)]) rfl ?_
      refine q_cin (r := r5) (n := 0) (as := []) (st := [.inr (.inr r5), .inl l1, .inr (.inr r3)]) "ReceiptRolls" (soX2_init X h4 r5) (tbm tkX4_init (i := 60) rfl) rfl ceX2_init wd_108 rfl rfl e_mX4 rfl (Nat.le_of_ble_eq_true rfl) (kV_gd (fun h6 => ?_))
      refine q_aastore (tbm tkX4_init (i := 61) rfl) (fun h7 => ?_)
      refine q_run tkX4_init 62 2 (pc' := 85) (L' := [some (.inr (.inr l0)), some (.inl (l1 + (1 : Int32)))]) (st' := []) rfl ?_
      exact ih h7 l0 (l1 + (1 : Int32))
    · exact q_vret (tbm tkX4_init (i := 64) rfl) rfl
def fX4_init_55 (c : Nat → Option Nat) : Nat → Hp → Option Nat → Int32 → Rs
  | 0, _, _, _ => none
  | n + 1, h, l0, l1 => rdR h l0 6 11 (fun r8 => lenA h r8 (fun x9 => if l1 < x9 then (rdR h l0 6 11 (fun r10 => nwO h 4 (fun h11 r12 => dn r12 (cc (fX2_init c h11 r12) (kV fun h13 => astR h13 r10 l1 r12 (fun h14 => fX4_init_55 c n h14 l0 (l1 + (1 : Int32)))))))) else (fX4_init_85 c FU h l0 (0 : Int32))))
set_option maxHeartbeats 4000000 in
set_option maxRecDepth 100000 in
theorem sX4_init_55 (X : Cx) {h0 : Hp} : ∀ (n : Nat) (h : Hp) (l0 : Option Nat) (l1 : Int32), Gd X mX4_init h0 (fX4_init_55 X.2.2.2 n h l0 l1) h 55 [some (.inr (.inr l0)), some (.inl l1)] [] := by
  intro n
  induction n with
  | zero => intros; exact gd_none
  | succ n ih =>
    intro h l0 l1
    unfold fX4_init_55
    refine q_run tkX4_init 34 2 (pc' := 57) (L' := [some (.inr (.inr l0)), some (.inl l1)]) (st' := [.inr (.inr l0), .inl l1]) rfl ?_
    refine q_rdR RX4 TX4 13 (tbm tkX4_init (i := 36) rfl) rfl (Nat.le_of_ble_eq_true rfl) wd_196 (fun r8 => ?_)
    refine q_alen (tbm tkX4_init (i := 37) rfl) (fun x9 => ?_)
    refine q_icmp_ge (tbm tkX4_init (i := 38) rfl) ?_ ?_
    · refine q_run tkX4_init 39 1 (pc' := 65) (L' := [some (.inr (.inr l0)), some (.inl l1)]) (st' := [.inr (.inr l0)]) rfl ?_
      refine q_rdR RX4 TX4 13 (tbm tkX4_init (i := 40) rfl) rfl (Nat.le_of_ble_eq_true rfl) wd_196 (fun r10 => ?_)
      refine q_run tkX4_init 41 1 (pc' := 69) (L' := [some (.inr (.inr l0)), some (.inl l1)]) (st' := [.inl l1, .inr (.inr r10)]) rfl ?_
      refine q_new RX2 TX2 14 (tbm tkX4_init (i := 42) rfl) (Nat.le_of_ble_eq_true rfl) rfl ⟨wd_104, wd_106, wd_74⟩ (fun h11 r12 => ?_)
      refine q_run tkX4_init 43 1 (pc' := 73) (L' := [some (.inr (.inr l0)), some (.inl l1)]) (st' := [.inr (.inr r12), .inr (.inr r12), .inl l1, .inr (.inr r10)]) rfl ?_
      refine q_cin (r := r12) (n := 0) (as := []) (st := [.inr (.inr r12), .inl l1, .inr (.inr r10)]) "ReceiptRolls" (soX2_init X h11 r12) (tbm tkX4_init (i := 44) rfl) rfl ceX2_init wd_108 rfl rfl e_mX4 rfl (Nat.le_of_ble_eq_true rfl) (kV_gd (fun h13 => ?_))
      refine q_aastore (tbm tkX4_init (i := 45) rfl) (fun h14 => ?_)
      refine q_run tkX4_init 46 2 (pc' := 55) (L' := [some (.inr (.inr l0)), some (.inl (l1 + (1 : Int32)))]) (st' := []) rfl ?_
      exact ih h14 l0 (l1 + (1 : Int32))
    · refine q_run tkX4_init 48 2 (pc' := 85) (L' := [some (.inr (.inr l0)), some (.inl (0 : Int32))]) (st' := []) rfl ?_
      exact sX4_init_85 X FU h l0 (0 : Int32)
def fX4_init (c : Nat → Option Nat) (h : Hp) (a0 : Option Nat) : Rs := dn a0 (wr h a0 6 0 (.inl (40 : Int32)) (fun h15 => wr h15 a0 6 3 (.inl (1 : Int32)) (fun h16 => nwA h16 0 (3 : Int32) (fun h17 r18 => astI h17 r18 [0] (0 : Int32) (24 : Int32) (fun h19 => astI h19 r18 [0] (1 : Int32) (40 : Int32) (fun h20 => astI h20 r18 [0] (2 : Int32) (2 : Int32) (fun h21 => wr h21 a0 6 10 (.inr (.inr r18)) (fun h22 => nwR h22 5 (3 : Int32) (fun h23 r24 => wr h23 a0 6 11 (.inr (.inr r24)) (fun h25 => nwR h25 5 (18 : Int32) (fun h26 r27 => wr h26 a0 6 12 (.inr (.inr r27)) (fun h28 => fX4_init_55 c FU h28 a0 (0 : Int32)))))))))))))
set_option maxHeartbeats 4000000 in
set_option maxRecDepth 100000 in
theorem soX4_init (X : Cx) (h : Hp) (a0 : Option Nat) : SO X mX4_init [.inr (.inr a0)] h (fX4_init X.2.2.2 h a0) := by
  refine so_of (by decide +kernel) (Nat.le_of_ble_eq_true rfl) ?_
  show Gd X mX4_init h (fX4_init X.2.2.2 h a0) h 0 [some (.inr (.inr a0)), none] []
  unfold fX4_init
  refine q_run tkX4_init 0 1 (pc' := 1) (L' := [some (.inr (.inr a0)), none]) (st' := [.inr (.inr a0)]) rfl ?_
  refine q_obj (tbm tkX4_init (i := 1) rfl) (Nat.le_of_ble_eq_true rfl) (Nat.le_of_ble_eq_true rfl) ⟨wd_103, wd_oi, wd_oc⟩ ?_
  refine q_run tkX4_init 2 2 (pc' := 7) (L' := [some (.inr (.inr a0)), none]) (st' := [.inl (40 : Int32), .inr (.inr a0)]) rfl ?_
  refine q_wr RX4 TX4 13 (tbm tkX4_init (i := 4) rfl) rfl (Nat.le_of_ble_eq_true rfl) (Or.inl rfl) wd_175 (fun h15 => ?_)
  refine q_run tkX4_init 5 2 (pc' := 12) (L' := [some (.inr (.inr a0)), none]) (st' := [.inl (1 : Int32), .inr (.inr a0)]) rfl ?_
  refine q_wr RX4 TX4 13 (tbm tkX4_init (i := 7) rfl) rfl (Nat.le_of_ble_eq_true rfl) (Or.inl rfl) wd_181 (fun h16 => ?_)
  refine q_run tkX4_init 8 2 (pc' := 17) (L' := [some (.inr (.inr a0)), none]) (st' := [.inl (3 : Int32), .inr (.inr a0)]) rfl ?_
  refine q_newa (k := 0) (Nat.le_of_ble_eq_true rfl) (tbm tkX4_init (i := 10) rfl) wd_174 (fun h17 r18 => ?_)
  refine q_run tkX4_init 11 3 (pc' := 23) (L' := [some (.inr (.inr a0)), none]) (st' := [.inl (24 : Int32), .inl (0 : Int32), .inr (.inr r18), .inr (.inr r18), .inr (.inr a0)]) rfl ?_
  refine q_iastore (tbm tkX4_init (i := 14) rfl) (fun h19 => ?_)
  refine q_run tkX4_init 15 3 (pc' := 28) (L' := [some (.inr (.inr a0)), none]) (st' := [.inl (40 : Int32), .inl (1 : Int32), .inr (.inr r18), .inr (.inr r18), .inr (.inr a0)]) rfl ?_
  refine q_iastore (tbm tkX4_init (i := 18) rfl) (fun h20 => ?_)
  refine q_run tkX4_init 19 3 (pc' := 32) (L' := [some (.inr (.inr a0)), none]) (st' := [.inl (2 : Int32), .inl (2 : Int32), .inr (.inr r18), .inr (.inr r18), .inr (.inr a0)]) rfl ?_
  refine q_iastore (tbm tkX4_init (i := 22) rfl) (fun h21 => ?_)
  refine q_wr RX4 TX4 13 (tbm tkX4_init (i := 23) rfl) rfl (Nat.le_of_ble_eq_true rfl) (Or.inr ⟨rfl, rfl⟩) wd_195 (fun h22 => ?_)
  refine q_run tkX4_init 24 2 (pc' := 38) (L' := [some (.inr (.inr a0)), none]) (st' := [.inl (3 : Int32), .inr (.inr a0)]) rfl ?_
  refine q_newr (k := 5) (Nat.le_of_ble_eq_true rfl) (Nat.le_of_ble_eq_true rfl) (tbm tkX4_init (i := 26) rfl) wd_104 (fun h23 r24 => ?_)
  refine q_wr RX4 TX4 13 (tbm tkX4_init (i := 27) rfl) rfl (Nat.le_of_ble_eq_true rfl) (Or.inr ⟨rfl, rfl⟩) wd_196 (fun h25 => ?_)
  refine q_run tkX4_init 28 2 (pc' := 47) (L' := [some (.inr (.inr a0)), none]) (st' := [.inl (18 : Int32), .inr (.inr a0)]) rfl ?_
  refine q_newr (k := 5) (Nat.le_of_ble_eq_true rfl) (Nat.le_of_ble_eq_true rfl) (tbm tkX4_init (i := 30) rfl) wd_104 (fun h26 r27 => ?_)
  refine q_wr RX4 TX4 13 (tbm tkX4_init (i := 31) rfl) rfl (Nat.le_of_ble_eq_true rfl) (Or.inr ⟨rfl, rfl⟩) wd_197 (fun h28 => ?_)
  refine q_run tkX4_init 32 2 (pc' := 55) (L' := [some (.inr (.inr a0)), some (.inl (0 : Int32))]) (st' := []) rfl ?_
  exact sX4_init_55 X FU h28 a0 (0 : Int32)
theorem ceX4_init : Ce mX4_init 0 := ⟨wd_73, wd_102, by decide +kernel, by decide +kernel, by decide +kernel⟩
/-- ReceiptRolls$History.init -/
abbrev mX0_init : MI := (yX0_init, cX0_init, 2, none, 3)
def tbX0_init : List TE := [(0, .aload_n 0, 1, 0, 0), (1, .invokespecial 3, 3, 0, 0), (4, .aload_n 0, 1, 0, 0), (5, .bipush 6, 2, 6, 0), (7, .anewarray 9, 3, 0, 0), (10, .putfield 11, 3, 0, 0), (13, .iconst 0, 1, 0, 0), (14, .istore_n 1, 1, 0, 0), (15, .iload_n 1, 1, 0, 0), (16, .aload_n 0, 1, 0, 0), (17, .getfield 11, 3, 0, 0), (20, .arraylength, 1, 0, 0), (21, .if_icmp .ge 22, 3, 0, 43), (24, .aload_n 0, 1, 0, 0), (25, .getfield 11, 3, 0, 0), (28, .iload_n 1, 1, 0, 0), (29, .new 9, 3, 0, 0), (32, .dup, 1, 0, 0), (33, .invokespecial 17, 3, 0, 0), (36, .aastore, 1, 0, 0), (37, .iinc 1 1, 3, 1, 0), (40, .goto (-25), 3, 0, 15), (43, .return_, 1, 0, 0)]
theorem tkX0_init : ∀ x ∈ tbX0_init, tbB cX0_init x = true := tb_all (by decide +kernel)
def fX0_init_15 (c : Nat → Option Nat) : Nat → Hp → Option Nat → Int32 → Rs
  | 0, _, _, _ => none
  | n + 1, h, l0, l1 => rdR h l0 2 1 (fun r1 => lenA h r1 (fun x2 => if l1 < x2 then (rdR h l0 2 1 (fun r3 => nwO h 6 (fun h4 r5 => dn r5 (cc (fX4_init c h4 r5) (kV fun h6 => astR h6 r3 l1 r5 (fun h7 => fX0_init_15 c n h7 l0 (l1 + (1 : Int32)))))))) else (some (h, none))))
set_option maxHeartbeats 4000000 in
set_option maxRecDepth 100000 in
theorem sX0_init_15 (X : Cx) {h0 : Hp} : ∀ (n : Nat) (h : Hp) (l0 : Option Nat) (l1 : Int32), Gd X mX0_init h0 (fX0_init_15 X.2.2.2 n h l0 l1) h 15 [some (.inr (.inr l0)), some (.inl l1)] [] := by
  intro n
  induction n with
  | zero => intros; exact gd_none
  | succ n ih =>
    intro h l0 l1
    unfold fX0_init_15
    refine q_run tkX0_init 8 2 (pc' := 17) (L' := [some (.inr (.inr l0)), some (.inl l1)]) (st' := [.inr (.inr l0), .inl l1]) rfl ?_
    refine q_rdR RX0 TX0 2 (tbm tkX0_init (i := 10) rfl) rfl (Nat.le_of_ble_eq_true rfl) wd_236 (fun r1 => ?_)
    refine q_alen (tbm tkX0_init (i := 11) rfl) (fun x2 => ?_)
    refine q_icmp_ge (tbm tkX0_init (i := 12) rfl) ?_ ?_
    · refine q_run tkX0_init 13 1 (pc' := 25) (L' := [some (.inr (.inr l0)), some (.inl l1)]) (st' := [.inr (.inr l0)]) rfl ?_
      refine q_rdR RX0 TX0 2 (tbm tkX0_init (i := 14) rfl) rfl (Nat.le_of_ble_eq_true rfl) wd_236 (fun r3 => ?_)
      refine q_run tkX0_init 15 1 (pc' := 29) (L' := [some (.inr (.inr l0)), some (.inl l1)]) (st' := [.inl l1, .inr (.inr r3)]) rfl ?_
      refine q_new RX4 TX4 13 (tbm tkX0_init (i := 16) rfl) (Nat.le_of_ble_eq_true rfl) rfl ⟨wd_231, wd_99, wd_73⟩ (fun h4 r5 => ?_)
      refine q_run tkX0_init 17 1 (pc' := 33) (L' := [some (.inr (.inr l0)), some (.inl l1)]) (st' := [.inr (.inr r5), .inr (.inr r5), .inl l1, .inr (.inr r3)]) rfl ?_
      refine q_ci (r := r5) (n := 0) (as := []) (st := [.inr (.inr r5), .inl l1, .inr (.inr r3)]) (soX4_init X h4 r5) (tbm tkX0_init (i := 18) rfl) rfl ceX4_init wd_101 rfl rfl wd_233 rfl (Nat.le_of_ble_eq_true rfl) (kV_gd (fun h6 => ?_))
      refine q_aastore (tbm tkX0_init (i := 19) rfl) (fun h7 => ?_)
      refine q_run tkX0_init 20 2 (pc' := 15) (L' := [some (.inr (.inr l0)), some (.inl (l1 + (1 : Int32)))]) (st' := []) rfl ?_
      exact ih h7 l0 (l1 + (1 : Int32))
    · exact q_vret (tbm tkX0_init (i := 22) rfl) rfl
def fX0_init (c : Nat → Option Nat) (h : Hp) (a0 : Option Nat) : Rs := dn a0 (nwR h 6 (6 : Int32) (fun h8 r9 => wr h8 a0 2 1 (.inr (.inr r9)) (fun h10 => fX0_init_15 c FU h10 a0 (0 : Int32))))
set_option maxHeartbeats 4000000 in
set_option maxRecDepth 100000 in
theorem soX0_init (X : Cx) (h : Hp) (a0 : Option Nat) : SO X mX0_init [.inr (.inr a0)] h (fX0_init X.2.2.2 h a0) := by
  refine so_of (by decide +kernel) (Nat.le_of_ble_eq_true rfl) ?_
  show Gd X mX0_init h (fX0_init X.2.2.2 h a0) h 0 [some (.inr (.inr a0)), none] []
  unfold fX0_init
  refine q_run tkX0_init 0 1 (pc' := 1) (L' := [some (.inr (.inr a0)), none]) (st' := [.inr (.inr a0)]) rfl ?_
  refine q_obj (tbm tkX0_init (i := 1) rfl) (Nat.le_of_ble_eq_true rfl) (Nat.le_of_ble_eq_true rfl) ⟨wd_230, wd_oi, wd_oc⟩ ?_
  refine q_run tkX0_init 2 2 (pc' := 7) (L' := [some (.inr (.inr a0)), none]) (st' := [.inl (6 : Int32), .inr (.inr a0)]) rfl ?_
  refine q_newr (k := 6) (Nat.le_of_ble_eq_true rfl) (Nat.le_of_ble_eq_true rfl) (tbm tkX0_init (i := 4) rfl) wd_231 (fun h8 r9 => ?_)
  refine q_wr RX0 TX0 2 (tbm tkX0_init (i := 5) rfl) rfl (Nat.le_of_ble_eq_true rfl) (Or.inr ⟨rfl, rfl⟩) wd_236 (fun h10 => ?_)
  refine q_run tkX0_init 6 2 (pc' := 15) (L' := [some (.inr (.inr a0)), some (.inl (0 : Int32))]) (st' := []) rfl ?_
  exact sX0_init_15 X FU h10 a0 (0 : Int32)
theorem ceX0_init : Ce mX0_init 0 := ⟨wd_75, wd_229, by decide +kernel, by decide +kernel, by decide +kernel⟩
/-- ReceiptRolls$Sheet.init -/
abbrev mX3_init : MI := (yX3_init, cX3_init, 1, none, 1)
def tbX3_init : List TE := [(0, .aload_n 0, 1, 0, 0), (1, .invokespecial 3, 3, 0, 0), (4, .aload_n 0, 1, 0, 0), (5, .bipush 40, 2, 40, 0), (7, .newarray .char, 2, 0, 0), (9, .putfield 9, 3, 0, 0), (12, .return_, 1, 0, 0)]
theorem tkX3_init : ∀ x ∈ tbX3_init, tbB cX3_init x = true := tb_all (by decide +kernel)
def fX3_init (c : Nat → Option Nat) (h : Hp) (a0 : Option Nat) : Rs := dn a0 (nwA h 3 (40 : Int32) (fun h1 r2 => wr h1 a0 5 5 (.inr (.inr r2)) (fun h3 => some (h3, none))))
set_option maxHeartbeats 4000000 in
set_option maxRecDepth 100000 in
theorem soX3_init (X : Cx) (h : Hp) (a0 : Option Nat) : SO X mX3_init [.inr (.inr a0)] h (fX3_init X.2.2.2 h a0) := by
  refine so_of (by decide +kernel) (Nat.le_of_ble_eq_true rfl) ?_
  show Gd X mX3_init h (fX3_init X.2.2.2 h a0) h 0 [some (.inr (.inr a0))] []
  unfold fX3_init
  refine q_run tkX3_init 0 1 (pc' := 1) (L' := [some (.inr (.inr a0))]) (st' := [.inr (.inr a0)]) rfl ?_
  refine q_obj (tbm tkX3_init (i := 1) rfl) (Nat.le_of_ble_eq_true rfl) (Nat.le_of_ble_eq_true rfl) ⟨wd_280, wd_oi, wd_oc⟩ ?_
  refine q_run tkX3_init 2 2 (pc' := 7) (L' := [some (.inr (.inr a0))]) (st' := [.inl (40 : Int32), .inr (.inr a0)]) rfl ?_
  refine q_newa (k := 3) (Nat.le_of_ble_eq_true rfl) (tbm tkX3_init (i := 4) rfl) wd_303 (fun h1 r2 => ?_)
  refine q_wr RX3 TX3 6 (tbm tkX3_init (i := 5) rfl) rfl (Nat.le_of_ble_eq_true rfl) (Or.inr ⟨rfl, rfl⟩) wd_289 (fun h3 => ?_)
  exact q_vret (tbm tkX3_init (i := 6) rfl) rfl
theorem ceX3_init : Ce mX3_init 0 := ⟨wd_80, wd_279, by decide +kernel, by decide +kernel, by decide +kernel⟩
/-- ReceiptRolls$History.dropOldest -/
abbrev mX0_dropOldest : MI := (yX0_dropOldest, cX0_dropOldest, 3, none, 0)
def tbX0_dropOldest : List TE := [(0, .aload_n 0, 1, 0, 0), (1, .getfield 11, 3, 0, 0), (4, .arraylength, 1, 0, 0), (5, .ifCond .ne 7, 3, 0, 12), (8, .aconst_null, 1, 0, 0), (9, .goto 9, 3, 0, 18), (12, .aload_n 0, 1, 0, 0), (13, .getfield 11, 3, 0, 0), (16, .iconst 0, 1, 0, 0), (17, .aaload, 1, 0, 0), (18, .astore_n 1, 1, 0, 0), (19, .iconst 1, 1, 1, 0), (20, .istore_n 2, 1, 0, 0), (21, .iload_n 2, 1, 0, 0), (22, .aload_n 0, 1, 0, 0), (23, .getfield 11, 3, 0, 0), (26, .arraylength, 1, 0, 0), (27, .if_icmp .ge 23, 3, 0, 50), (30, .aload_n 0, 1, 0, 0), (31, .getfield 11, 3, 0, 0), (34, .iload_n 2, 1, 0, 0), (35, .iconst 1, 1, 1, 0), (36, .isub, 1, 0, 0), (37, .aload_n 0, 1, 0, 0), (38, .getfield 11, 3, 0, 0), (41, .iload_n 2, 1, 0, 0), (42, .aaload, 1, 0, 0), (43, .aastore, 1, 0, 0), (44, .iinc 2 1, 3, 1, 0), (47, .goto (-26), 3, 0, 21), (50, .aload_n 1, 1, 0, 0), (51, .ifnull 27, 3, 0, 78), (54, .aload_n 0, 1, 0, 0), (55, .getfield 11, 3, 0, 0), (58, .aload_n 0, 1, 0, 0), (59, .getfield 11, 3, 0, 0), (62, .arraylength, 1, 0, 0), (63, .iconst 1, 1, 1, 0), (64, .isub, 1, 0, 0), (65, .aload_n 1, 1, 0, 0), (66, .aastore, 1, 0, 0), (67, .aload_n 0, 1, 0, 0), (68, .aload_n 0, 1, 0, 0), (69, .getfield 11, 3, 0, 0), (72, .arraylength, 1, 0, 0), (73, .iconst 1, 1, 1, 0), (74, .isub, 1, 0, 0), (75, .putfield 18, 3, 0, 0), (78, .return_, 1, 0, 0)]
theorem tkX0_dropOldest : ∀ x ∈ tbX0_dropOldest, tbB cX0_dropOldest x = true := tb_all (by decide +kernel)
def fX0_dropOldest_78 (c : Nat → Option Nat) (h : Hp) : Rs := some (h, none)
set_option maxHeartbeats 4000000 in
set_option maxRecDepth 100000 in
theorem sX0_dropOldest_78 (X : Cx) {h0 : Hp} (h : Hp) : Gd X mX0_dropOldest h0 (fX0_dropOldest_78 X.2.2.2 h) h 78 [none, none, none] [] := by
  unfold fX0_dropOldest_78
  exact q_vret (tbm tkX0_dropOldest (i := 48) rfl) rfl
def fX0_dropOldest_21 (c : Nat → Option Nat) : Nat → Hp → Option Nat → Option Nat → Int32 → Rs
  | 0, _, _, _, _ => none
  | n + 1, h, l0, l1, l2 => rdR h l0 2 1 (fun r1 => lenA h r1 (fun x2 => if l2 < x2 then (rdR h l0 2 1 (fun r3 => rdR h l0 2 1 (fun r4 => aldR h r4 l2 (fun r5 => astR h r3 (l2 - (1 : Int32)) r5 (fun h6 => fX0_dropOldest_21 c n h6 l0 l1 (l2 + (1 : Int32))))))) else (ifN l1 (fX0_dropOldest_78 c h) (rdR h l0 2 1 (fun r7 => rdR h l0 2 1 (fun r8 => lenA h r8 (fun x9 => astR h r7 (x9 - (1 : Int32)) l1 (fun h10 => rdR h10 l0 2 1 (fun r11 => lenA h10 r11 (fun x12 => wr h10 l0 2 0 (.inl (x12 - (1 : Int32))) (fun h13 => fX0_dropOldest_78 c h13)))))))))))
set_option maxHeartbeats 4000000 in
set_option maxRecDepth 100000 in
theorem sX0_dropOldest_21 (X : Cx) {h0 : Hp} : ∀ (n : Nat) (h : Hp) (l0 : Option Nat) (l1 : Option Nat) (l2 : Int32), Gd X mX0_dropOldest h0 (fX0_dropOldest_21 X.2.2.2 n h l0 l1 l2) h 21 [some (.inr (.inr l0)), some (.inr (.inr l1)), some (.inl l2)] [] := by
  intro n
  induction n with
  | zero => intros; exact gd_none
  | succ n ih =>
    intro h l0 l1 l2
    unfold fX0_dropOldest_21
    refine q_run tkX0_dropOldest 13 2 (pc' := 23) (L' := [some (.inr (.inr l0)), some (.inr (.inr l1)), some (.inl l2)]) (st' := [.inr (.inr l0), .inl l2]) rfl ?_
    refine q_rdR RX0 TX0 2 (tbm tkX0_dropOldest (i := 15) rfl) rfl (Nat.le_of_ble_eq_true rfl) wd_236 (fun r1 => ?_)
    refine q_alen (tbm tkX0_dropOldest (i := 16) rfl) (fun x2 => ?_)
    refine q_icmp_ge (tbm tkX0_dropOldest (i := 17) rfl) ?_ ?_
    · refine q_run tkX0_dropOldest 18 1 (pc' := 31) (L' := [some (.inr (.inr l0)), some (.inr (.inr l1)), some (.inl l2)]) (st' := [.inr (.inr l0)]) rfl ?_
      refine q_rdR RX0 TX0 2 (tbm tkX0_dropOldest (i := 19) rfl) rfl (Nat.le_of_ble_eq_true rfl) wd_236 (fun r3 => ?_)
      refine q_run tkX0_dropOldest 20 4 (pc' := 38) (L' := [some (.inr (.inr l0)), some (.inr (.inr l1)), some (.inl l2)]) (st' := [.inr (.inr l0), .inl (l2 - (1 : Int32)), .inr (.inr r3)]) rfl ?_
      refine q_rdR RX0 TX0 2 (tbm tkX0_dropOldest (i := 24) rfl) rfl (Nat.le_of_ble_eq_true rfl) wd_236 (fun r4 => ?_)
      refine q_run tkX0_dropOldest 25 1 (pc' := 42) (L' := [some (.inr (.inr l0)), some (.inr (.inr l1)), some (.inl l2)]) (st' := [.inl l2, .inr (.inr r4), .inl (l2 - (1 : Int32)), .inr (.inr r3)]) rfl ?_
      refine q_aaload (tbm tkX0_dropOldest (i := 26) rfl) (fun r5 => ?_)
      refine q_aastore (tbm tkX0_dropOldest (i := 27) rfl) (fun h6 => ?_)
      refine q_run tkX0_dropOldest 28 2 (pc' := 21) (L' := [some (.inr (.inr l0)), some (.inr (.inr l1)), some (.inl (l2 + (1 : Int32)))]) (st' := []) rfl ?_
      exact ih h6 l0 l1 (l2 + (1 : Int32))
    · refine q_run tkX0_dropOldest 30 1 (pc' := 51) (L' := [some (.inr (.inr l0)), some (.inr (.inr l1)), some (.inl l2)]) (st' := [.inr (.inr l1)]) rfl ?_
      refine q_ifnull (tbm tkX0_dropOldest (i := 31) rfl) ?_ ?_
      · refine q_le (L' := [none, none, none]) (lvLe_n (lvLe_n (lvLe_n lvLe_0))) ?_
        exact sX0_dropOldest_78 X h
      · refine q_run tkX0_dropOldest 32 1 (pc' := 55) (L' := [some (.inr (.inr l0)), some (.inr (.inr l1)), some (.inl l2)]) (st' := [.inr (.inr l0)]) rfl ?_
        refine q_rdR RX0 TX0 2 (tbm tkX0_dropOldest (i := 33) rfl) rfl (Nat.le_of_ble_eq_true rfl) wd_236 (fun r7 => ?_)
        refine q_run tkX0_dropOldest 34 1 (pc' := 59) (L' := [some (.inr (.inr l0)), some (.inr (.inr l1)), some (.inl l2)]) (st' := [.inr (.inr l0), .inr (.inr r7)]) rfl ?_
        refine q_rdR RX0 TX0 2 (tbm tkX0_dropOldest (i := 35) rfl) rfl (Nat.le_of_ble_eq_true rfl) wd_236 (fun r8 => ?_)
        refine q_alen (tbm tkX0_dropOldest (i := 36) rfl) (fun x9 => ?_)
        refine q_run tkX0_dropOldest 37 3 (pc' := 66) (L' := [some (.inr (.inr l0)), some (.inr (.inr l1)), some (.inl l2)]) (st' := [.inr (.inr l1), .inl (x9 - (1 : Int32)), .inr (.inr r7)]) rfl ?_
        refine q_aastore (tbm tkX0_dropOldest (i := 40) rfl) (fun h10 => ?_)
        refine q_run tkX0_dropOldest 41 2 (pc' := 69) (L' := [some (.inr (.inr l0)), some (.inr (.inr l1)), some (.inl l2)]) (st' := [.inr (.inr l0), .inr (.inr l0)]) rfl ?_
        refine q_rdR RX0 TX0 2 (tbm tkX0_dropOldest (i := 43) rfl) rfl (Nat.le_of_ble_eq_true rfl) wd_236 (fun r11 => ?_)
        refine q_alen (tbm tkX0_dropOldest (i := 44) rfl) (fun x12 => ?_)
        refine q_run tkX0_dropOldest 45 2 (pc' := 75) (L' := [some (.inr (.inr l0)), some (.inr (.inr l1)), some (.inl l2)]) (st' := [.inl (x12 - (1 : Int32)), .inr (.inr l0)]) rfl ?_
        refine q_wr RX0 TX0 2 (tbm tkX0_dropOldest (i := 47) rfl) rfl (Nat.le_of_ble_eq_true rfl) (Or.inl rfl) wd_234 (fun h13 => ?_)
        refine q_le (L' := [none, none, none]) (lvLe_n (lvLe_n (lvLe_n lvLe_0))) ?_
        exact sX0_dropOldest_78 X h13
def fX0_dropOldest_18 (c : Nat → Option Nat) (h : Hp) (l0 : Option Nat) (s0 : Option Nat) : Rs := fX0_dropOldest_21 c FU h l0 s0 (1 : Int32)
set_option maxHeartbeats 4000000 in
set_option maxRecDepth 100000 in
theorem sX0_dropOldest_18 (X : Cx) {h0 : Hp} (h : Hp) (l0 : Option Nat) (s0 : Option Nat) : Gd X mX0_dropOldest h0 (fX0_dropOldest_18 X.2.2.2 h l0 s0) h 18 [some (.inr (.inr l0)), none, none] [.inr (.inr s0)] := by
  unfold fX0_dropOldest_18
  refine q_run tkX0_dropOldest 10 3 (pc' := 21) (L' := [some (.inr (.inr l0)), some (.inr (.inr s0)), some (.inl (1 : Int32))]) (st' := []) rfl ?_
  exact sX0_dropOldest_21 X FU h l0 s0 (1 : Int32)
def fX0_dropOldest (c : Nat → Option Nat) (h : Hp) (a0 : Option Nat) : Rs := rdR h a0 2 1 (fun r14 => lenA h r14 (fun x15 => if x15 = 0 then (fX0_dropOldest_18 c h a0 none) else (rdR h a0 2 1 (fun r16 => aldR h r16 (0 : Int32) (fun r17 => fX0_dropOldest_18 c h a0 r17)))))
set_option maxHeartbeats 4000000 in
set_option maxRecDepth 100000 in
theorem soX0_dropOldest (X : Cx) (h : Hp) (a0 : Option Nat) : SO X mX0_dropOldest [.inr (.inr a0)] h (fX0_dropOldest X.2.2.2 h a0) := by
  refine so_of (by decide +kernel) (Nat.le_of_ble_eq_true rfl) ?_
  show Gd X mX0_dropOldest h (fX0_dropOldest X.2.2.2 h a0) h 0 [some (.inr (.inr a0)), none, none] []
  unfold fX0_dropOldest
  refine q_run tkX0_dropOldest 0 1 (pc' := 1) (L' := [some (.inr (.inr a0)), none, none]) (st' := [.inr (.inr a0)]) rfl ?_
  refine q_rdR RX0 TX0 2 (tbm tkX0_dropOldest (i := 1) rfl) rfl (Nat.le_of_ble_eq_true rfl) wd_236 (fun r14 => ?_)
  refine q_alen (tbm tkX0_dropOldest (i := 2) rfl) (fun x15 => ?_)
  refine q_if_ne (tbm tkX0_dropOldest (i := 3) rfl) ?_ ?_
  · refine q_run tkX0_dropOldest 4 2 (pc' := 18) (L' := [some (.inr (.inr a0)), none, none]) (st' := [.inr (.inr none)]) rfl ?_
    exact sX0_dropOldest_18 X h a0 none
  · refine q_run tkX0_dropOldest 6 1 (pc' := 13) (L' := [some (.inr (.inr a0)), none, none]) (st' := [.inr (.inr a0)]) rfl ?_
    refine q_rdR RX0 TX0 2 (tbm tkX0_dropOldest (i := 7) rfl) rfl (Nat.le_of_ble_eq_true rfl) wd_236 (fun r16 => ?_)
    refine q_run tkX0_dropOldest 8 1 (pc' := 17) (L' := [some (.inr (.inr a0)), none, none]) (st' := [.inl (0 : Int32), .inr (.inr r16)]) rfl ?_
    refine q_aaload (tbm tkX0_dropOldest (i := 9) rfl) (fun r17 => ?_)
    exact sX0_dropOldest_18 X h a0 r17
theorem ceX0_dropOldest : Ce mX0_dropOldest 0 := ⟨wd_75, wd_335, by decide +kernel, by decide +kernel, by decide +kernel⟩
/-- ReceiptRolls$Receipt.copyFrom -/
abbrev mX2_copyFrom : MI := (yX2_copyFrom, cX2_copyFrom, 3, none, 0)
def tbX2_copyFrom : List TE := [(0, .aload_n 0, 1, 0, 0), (1, .aload_n 1, 1, 0, 0), (2, .getfield 21, 3, 0, 0), (5, .putfield 21, 3, 0, 0), (8, .aload_n 0, 1, 0, 0), (9, .aload_n 1, 1, 0, 0), (10, .getfield 25, 3, 0, 0), (13, .putfield 25, 3, 0, 0), (16, .aload_n 0, 1, 0, 0), (17, .aload_n 1, 1, 0, 0), (18, .getfield 28, 3, 0, 0), (21, .putfield 28, 3, 0, 0), (24, .aload_n 0, 1, 0, 0), (25, .aload_n 1, 1, 0, 0), (26, .getfield 31, 3, 0, 0), (29, .putfield 31, 3, 0, 0), (32, .aload_n 0, 1, 0, 0), (33, .aload_n 1, 1, 0, 0), (34, .getfield 34, 3, 0, 0), (37, .putfield 34, 3, 0, 0), (40, .aload_n 0, 1, 0, 0), (41, .aload_n 1, 1, 0, 0), (42, .getfield 37, 3, 0, 0), (45, .putfield 37, 3, 0, 0), (48, .aload_n 0, 1, 0, 0), (49, .aload_n 1, 1, 0, 0), (50, .getfield 40, 3, 0, 0), (53, .putfield 40, 3, 0, 0), (56, .aload_n 0, 1, 0, 0), (57, .aload_n 1, 1, 0, 0), (58, .getfield 43, 3, 0, 0), (61, .putfield 43, 3, 0, 0), (64, .aload_n 0, 1, 0, 0), (65, .aload_n 1, 1, 0, 0), (66, .getfield 46, 3, 0, 0), (69, .putfield 46, 3, 0, 0), (72, .aload_n 0, 1, 0, 0), (73, .aload_n 1, 1, 0, 0), (74, .getfield 49, 3, 0, 0), (77, .putfield 49, 3, 0, 0), (80, .aload_n 0, 1, 0, 0), (81, .aload_n 1, 1, 0, 0), (82, .getfield 52, 3, 0, 0), (85, .putfield 52, 3, 0, 0), (88, .aload_n 0, 1, 0, 0), (89, .aload_n 1, 1, 0, 0), (90, .getfield 55, 3, 0, 0), (93, .putfield 55, 3, 0, 0), (96, .iconst 0, 1, 0, 0), (97, .istore_n 2, 1, 0, 0), (98, .iload_n 2, 1, 0, 0), (99, .aload_n 0, 1, 0, 0), (100, .getfield 11, 3, 0, 0), (103, .arraylength, 1, 0, 0), (104, .if_icmp .ge 30, 3, 0, 134), (107, .iload_n 2, 1, 0, 0), (108, .aload_n 1, 1, 0, 0), (109, .getfield 11, 3, 0, 0), (112, .arraylength, 1, 0, 0), (113, .if_icmp .ge 21, 3, 0, 134), (116, .aload_n 0, 1, 0, 0), (117, .getfield 11, 3, 0, 0), (120, .iload_n 2, 1, 0, 0), (121, .aload_n 1, 1, 0, 0), (122, .getfield 11, 3, 0, 0), (125, .iload_n 2, 1, 0, 0), (126, .aaload, 1, 0, 0), (127, .aastore, 1, 0, 0), (128, .iinc 2 1, 3, 1, 0), (131, .goto (-33), 3, 0, 98), (134, .iconst 0, 1, 0, 0), (135, .istore_n 2, 1, 0, 0), (136, .iload_n 2, 1, 0, 0), (137, .aload_n 0, 1, 0, 0), (138, .getfield 17, 3, 0, 0), (141, .arraylength, 1, 0, 0), (142, .if_icmp .ge 30, 3, 0, 172), (145, .iload_n 2, 1, 0, 0), (146, .aload_n 1, 1, 0, 0), (147, .getfield 17, 3, 0, 0), (150, .arraylength, 1, 0, 0), (151, .if_icmp .ge 21, 3, 0, 172), (154, .aload_n 0, 1, 0, 0), (155, .getfield 17, 3, 0, 0), (158, .iload_n 2, 1, 0, 0), (159, .aload_n 1, 1, 0, 0), (160, .getfield 17, 3, 0, 0), (163, .iload_n 2, 1, 0, 0), (164, .iaload, 1, 0, 0), (165, .iastore, 1, 0, 0), (166, .iinc 2 1, 3, 1, 0), (169, .goto (-33), 3, 0, 136), (172, .return_, 1, 0, 0)]
theorem tkX2_copyFrom : ∀ x ∈ tbX2_copyFrom, tbB cX2_copyFrom x = true := tb_all (by decide +kernel)
def fX2_copyFrom_172 (c : Nat → Option Nat) (h : Hp) : Rs := some (h, none)
set_option maxHeartbeats 4000000 in
set_option maxRecDepth 100000 in
theorem sX2_copyFrom_172 (X : Cx) {h0 : Hp} (h : Hp) : Gd X mX2_copyFrom h0 (fX2_copyFrom_172 X.2.2.2 h) h 172 [none, none, none] [] := by
  unfold fX2_copyFrom_172
  exact q_vret (tbm tkX2_copyFrom (i := 92) rfl) rfl
def fX2_copyFrom_136 (c : Nat → Option Nat) : Nat → Hp → Option Nat → Option Nat → Int32 → Rs
  | 0, _, _, _, _ => none
  | n + 1, h, l0, l1, l2 => rdR h l0 4 13 (fun r1 => lenA h r1 (fun x2 => if l2 < x2 then (rdR h l1 4 13 (fun r3 => lenA h r3 (fun x4 => if l2 < x4 then (rdR h l0 4 13 (fun r5 => rdR h l1 4 13 (fun r6 => aldI h r6 [0, 10] l2 (fun x7 => astI h r5 [0] l2 x7 (fun h8 => fX2_copyFrom_136 c n h8 l0 l1 (l2 + (1 : Int32))))))) else (fX2_copyFrom_172 c h)))) else (fX2_copyFrom_172 c h)))
set_option maxHeartbeats 4000000 in
set_option maxRecDepth 100000 in
theorem sX2_copyFrom_136 (X : Cx) {h0 : Hp} : ∀ (n : Nat) (h : Hp) (l0 : Option Nat) (l1 : Option Nat) (l2 : Int32), Gd X mX2_copyFrom h0 (fX2_copyFrom_136 X.2.2.2 n h l0 l1 l2) h 136 [some (.inr (.inr l0)), some (.inr (.inr l1)), some (.inl l2)] [] := by
  intro n
  induction n with
  | zero => intros; exact gd_none
  | succ n ih =>
    intro h l0 l1 l2
    unfold fX2_copyFrom_136
    refine q_run tkX2_copyFrom 72 2 (pc' := 138) (L' := [some (.inr (.inr l0)), some (.inr (.inr l1)), some (.inl l2)]) (st' := [.inr (.inr l0), .inl l2]) rfl ?_
    refine q_rdR RX2 TX2 14 (tbm tkX2_copyFrom (i := 74) rfl) rfl (Nat.le_of_ble_eq_true rfl) wd_143 (fun r1 => ?_)
    refine q_alen (tbm tkX2_copyFrom (i := 75) rfl) (fun x2 => ?_)
    refine q_icmp_ge (tbm tkX2_copyFrom (i := 76) rfl) ?_ ?_
    · refine q_run tkX2_copyFrom 77 2 (pc' := 147) (L' := [some (.inr (.inr l0)), some (.inr (.inr l1)), some (.inl l2)]) (st' := [.inr (.inr l1), .inl l2]) rfl ?_
      refine q_rdR RX2 TX2 14 (tbm tkX2_copyFrom (i := 79) rfl) rfl (Nat.le_of_ble_eq_true rfl) wd_143 (fun r3 => ?_)
      refine q_alen (tbm tkX2_copyFrom (i := 80) rfl) (fun x4 => ?_)
      refine q_icmp_ge (tbm tkX2_copyFrom (i := 81) rfl) ?_ ?_
      · refine q_run tkX2_copyFrom 82 1 (pc' := 155) (L' := [some (.inr (.inr l0)), some (.inr (.inr l1)), some (.inl l2)]) (st' := [.inr (.inr l0)]) rfl ?_
        refine q_rdR RX2 TX2 14 (tbm tkX2_copyFrom (i := 83) rfl) rfl (Nat.le_of_ble_eq_true rfl) wd_143 (fun r5 => ?_)
        refine q_run tkX2_copyFrom 84 2 (pc' := 160) (L' := [some (.inr (.inr l0)), some (.inr (.inr l1)), some (.inl l2)]) (st' := [.inr (.inr l1), .inl l2, .inr (.inr r5)]) rfl ?_
        refine q_rdR RX2 TX2 14 (tbm tkX2_copyFrom (i := 86) rfl) rfl (Nat.le_of_ble_eq_true rfl) wd_143 (fun r6 => ?_)
        refine q_run tkX2_copyFrom 87 1 (pc' := 164) (L' := [some (.inr (.inr l0)), some (.inr (.inr l1)), some (.inl l2)]) (st' := [.inl l2, .inr (.inr r6), .inl l2, .inr (.inr r5)]) rfl ?_
        refine q_iaload (tbm tkX2_copyFrom (i := 88) rfl) (fun x7 => ?_)
        refine q_iastore (tbm tkX2_copyFrom (i := 89) rfl) (fun h8 => ?_)
        refine q_run tkX2_copyFrom 90 2 (pc' := 136) (L' := [some (.inr (.inr l0)), some (.inr (.inr l1)), some (.inl (l2 + (1 : Int32)))]) (st' := []) rfl ?_
        exact ih h8 l0 l1 (l2 + (1 : Int32))
      · refine q_le (L' := [none, none, none]) (lvLe_n (lvLe_n (lvLe_n lvLe_0))) ?_
        exact sX2_copyFrom_172 X h
    · refine q_le (L' := [none, none, none]) (lvLe_n (lvLe_n (lvLe_n lvLe_0))) ?_
      exact sX2_copyFrom_172 X h
def fX2_copyFrom_134 (c : Nat → Option Nat) (h : Hp) (l0 : Option Nat) (l1 : Option Nat) : Rs := fX2_copyFrom_136 c FU h l0 l1 (0 : Int32)
set_option maxHeartbeats 4000000 in
set_option maxRecDepth 100000 in
theorem sX2_copyFrom_134 (X : Cx) {h0 : Hp} (h : Hp) (l0 : Option Nat) (l1 : Option Nat) : Gd X mX2_copyFrom h0 (fX2_copyFrom_134 X.2.2.2 h l0 l1) h 134 [some (.inr (.inr l0)), some (.inr (.inr l1)), none] [] := by
  unfold fX2_copyFrom_134
  refine q_run tkX2_copyFrom 70 2 (pc' := 136) (L' := [some (.inr (.inr l0)), some (.inr (.inr l1)), some (.inl (0 : Int32))]) (st' := []) rfl ?_
  exact sX2_copyFrom_136 X FU h l0 l1 (0 : Int32)
def fX2_copyFrom_98 (c : Nat → Option Nat) : Nat → Hp → Option Nat → Option Nat → Int32 → Rs
  | 0, _, _, _, _ => none
  | n + 1, h, l0, l1, l2 => rdR h l0 4 12 (fun r9 => lenA h r9 (fun x10 => if l2 < x10 then (rdR h l1 4 12 (fun r11 => lenA h r11 (fun x12 => if l2 < x12 then (rdR h l0 4 12 (fun r13 => rdR h l1 4 12 (fun r14 => aldR h r14 l2 (fun r15 => astR h r13 l2 r15 (fun h16 => fX2_copyFrom_98 c n h16 l0 l1 (l2 + (1 : Int32))))))) else (fX2_copyFrom_134 c h l0 l1)))) else (fX2_copyFrom_134 c h l0 l1)))
set_option maxHeartbeats 4000000 in
set_option maxRecDepth 100000 in
theorem sX2_copyFrom_98 (X : Cx) {h0 : Hp} : ∀ (n : Nat) (h : Hp) (l0 : Option Nat) (l1 : Option Nat) (l2 : Int32), Gd X mX2_copyFrom h0 (fX2_copyFrom_98 X.2.2.2 n h l0 l1 l2) h 98 [some (.inr (.inr l0)), some (.inr (.inr l1)), some (.inl l2)] [] := by
  intro n
  induction n with
  | zero => intros; exact gd_none
  | succ n ih =>
    intro h l0 l1 l2
    unfold fX2_copyFrom_98
    refine q_run tkX2_copyFrom 50 2 (pc' := 100) (L' := [some (.inr (.inr l0)), some (.inr (.inr l1)), some (.inl l2)]) (st' := [.inr (.inr l0), .inl l2]) rfl ?_
    refine q_rdR RX2 TX2 14 (tbm tkX2_copyFrom (i := 52) rfl) rfl (Nat.le_of_ble_eq_true rfl) wd_142 (fun r9 => ?_)
    refine q_alen (tbm tkX2_copyFrom (i := 53) rfl) (fun x10 => ?_)
    refine q_icmp_ge (tbm tkX2_copyFrom (i := 54) rfl) ?_ ?_
    · refine q_run tkX2_copyFrom 55 2 (pc' := 109) (L' := [some (.inr (.inr l0)), some (.inr (.inr l1)), some (.inl l2)]) (st' := [.inr (.inr l1), .inl l2]) rfl ?_
      refine q_rdR RX2 TX2 14 (tbm tkX2_copyFrom (i := 57) rfl) rfl (Nat.le_of_ble_eq_true rfl) wd_142 (fun r11 => ?_)
      refine q_alen (tbm tkX2_copyFrom (i := 58) rfl) (fun x12 => ?_)
      refine q_icmp_ge (tbm tkX2_copyFrom (i := 59) rfl) ?_ ?_
      · refine q_run tkX2_copyFrom 60 1 (pc' := 117) (L' := [some (.inr (.inr l0)), some (.inr (.inr l1)), some (.inl l2)]) (st' := [.inr (.inr l0)]) rfl ?_
        refine q_rdR RX2 TX2 14 (tbm tkX2_copyFrom (i := 61) rfl) rfl (Nat.le_of_ble_eq_true rfl) wd_142 (fun r13 => ?_)
        refine q_run tkX2_copyFrom 62 2 (pc' := 122) (L' := [some (.inr (.inr l0)), some (.inr (.inr l1)), some (.inl l2)]) (st' := [.inr (.inr l1), .inl l2, .inr (.inr r13)]) rfl ?_
        refine q_rdR RX2 TX2 14 (tbm tkX2_copyFrom (i := 64) rfl) rfl (Nat.le_of_ble_eq_true rfl) wd_142 (fun r14 => ?_)
        refine q_run tkX2_copyFrom 65 1 (pc' := 126) (L' := [some (.inr (.inr l0)), some (.inr (.inr l1)), some (.inl l2)]) (st' := [.inl l2, .inr (.inr r14), .inl l2, .inr (.inr r13)]) rfl ?_
        refine q_aaload (tbm tkX2_copyFrom (i := 66) rfl) (fun r15 => ?_)
        refine q_aastore (tbm tkX2_copyFrom (i := 67) rfl) (fun h16 => ?_)
        refine q_run tkX2_copyFrom 68 2 (pc' := 98) (L' := [some (.inr (.inr l0)), some (.inr (.inr l1)), some (.inl (l2 + (1 : Int32)))]) (st' := []) rfl ?_
        exact ih h16 l0 l1 (l2 + (1 : Int32))
      · refine q_le (L' := [some (.inr (.inr l0)), some (.inr (.inr l1)), none]) (lvLe_s (lvLe_s (lvLe_n lvLe_0))) ?_
        exact sX2_copyFrom_134 X h l0 l1
    · refine q_le (L' := [some (.inr (.inr l0)), some (.inr (.inr l1)), none]) (lvLe_s (lvLe_s (lvLe_n lvLe_0))) ?_
      exact sX2_copyFrom_134 X h l0 l1
def fX2_copyFrom (c : Nat → Option Nat) (h : Hp) (a0 : Option Nat) (a1 : Option Nat) : Rs := rdI h a1 4 0 (fun x17 => wr h a0 4 0 (.inl x17) (fun h18 => rdI h18 a1 4 1 (fun x19 => wr h18 a0 4 1 (.inl x19) (fun h20 => rdI h20 a1 4 2 (fun x21 => wr h20 a0 4 2 (.inl x21) (fun h22 => rdI h22 a1 4 3 (fun x23 => wr h22 a0 4 3 (.inl x23) (fun h24 => rdI h24 a1 4 4 (fun x25 => wr h24 a0 4 4 (.inl x25) (fun h26 => rdI h26 a1 4 5 (fun x27 => wr h26 a0 4 5 (.inl x27) (fun h28 => rdI h28 a1 4 6 (fun x29 => wr h28 a0 4 6 (.inl x29) (fun h30 => rdI h30 a1 4 7 (fun x31 => wr h30 a0 4 7 (.inl x31) (fun h32 => rdI h32 a1 4 8 (fun x33 => wr h32 a0 4 8 (.inl x33) (fun h34 => rdI h34 a1 4 9 (fun x35 => wr h34 a0 4 9 (.inl x35) (fun h36 => rdI h36 a1 4 10 (fun x37 => wr h36 a0 4 10 (.inl x37) (fun h38 => rdI h38 a1 4 11 (fun x39 => wr h38 a0 4 11 (.inl x39) (fun h40 => fX2_copyFrom_98 c FU h40 a0 a1 (0 : Int32)))))))))))))))))))))))))
set_option maxHeartbeats 4000000 in
set_option maxRecDepth 100000 in
theorem soX2_copyFrom (X : Cx) (h : Hp) (a0 : Option Nat) (a1 : Option Nat) : SO X mX2_copyFrom [.inr (.inr a0), .inr (.inr a1)] h (fX2_copyFrom X.2.2.2 h a0 a1) := by
  refine so_of (by decide +kernel) (Nat.le_of_ble_eq_true rfl) ?_
  show Gd X mX2_copyFrom h (fX2_copyFrom X.2.2.2 h a0 a1) h 0 [some (.inr (.inr a0)), some (.inr (.inr a1)), none] []
  unfold fX2_copyFrom
  refine q_run tkX2_copyFrom 0 2 (pc' := 2) (L' := [some (.inr (.inr a0)), some (.inr (.inr a1)), none]) (st' := [.inr (.inr a1), .inr (.inr a0)]) rfl ?_
  refine q_rdI RX2 TX2 14 (tbm tkX2_copyFrom (i := 2) rfl) rfl (Nat.le_of_ble_eq_true rfl) wd_113 (fun x17 => ?_)
  refine q_wr RX2 TX2 14 (tbm tkX2_copyFrom (i := 3) rfl) rfl (Nat.le_of_ble_eq_true rfl) (Or.inl rfl) wd_113 (fun h18 => ?_)
  refine q_run tkX2_copyFrom 4 2 (pc' := 10) (L' := [some (.inr (.inr a0)), some (.inr (.inr a1)), none]) (st' := [.inr (.inr a1), .inr (.inr a0)]) rfl ?_
  refine q_rdI RX2 TX2 14 (tbm tkX2_copyFrom (i := 6) rfl) rfl (Nat.le_of_ble_eq_true rfl) wd_116 (fun x19 => ?_)
  refine q_wr RX2 TX2 14 (tbm tkX2_copyFrom (i := 7) rfl) rfl (Nat.le_of_ble_eq_true rfl) (Or.inl rfl) wd_116 (fun h20 => ?_)
  refine q_run tkX2_copyFrom 8 2 (pc' := 18) (L' := [some (.inr (.inr a0)), some (.inr (.inr a1)), none]) (st' := [.inr (.inr a1), .inr (.inr a0)]) rfl ?_
  refine q_rdI RX2 TX2 14 (tbm tkX2_copyFrom (i := 10) rfl) rfl (Nat.le_of_ble_eq_true rfl) wd_118 (fun x21 => ?_)
  refine q_wr RX2 TX2 14 (tbm tkX2_copyFrom (i := 11) rfl) rfl (Nat.le_of_ble_eq_true rfl) (Or.inl rfl) wd_118 (fun h22 => ?_)
  refine q_run tkX2_copyFrom 12 2 (pc' := 26) (L' := [some (.inr (.inr a0)), some (.inr (.inr a1)), none]) (st' := [.inr (.inr a1), .inr (.inr a0)]) rfl ?_
  refine q_rdI RX2 TX2 14 (tbm tkX2_copyFrom (i := 14) rfl) rfl (Nat.le_of_ble_eq_true rfl) wd_120 (fun x23 => ?_)
  refine q_wr RX2 TX2 14 (tbm tkX2_copyFrom (i := 15) rfl) rfl (Nat.le_of_ble_eq_true rfl) (Or.inl rfl) wd_120 (fun h24 => ?_)
  refine q_run tkX2_copyFrom 16 2 (pc' := 34) (L' := [some (.inr (.inr a0)), some (.inr (.inr a1)), none]) (st' := [.inr (.inr a1), .inr (.inr a0)]) rfl ?_
  refine q_rdI RX2 TX2 14 (tbm tkX2_copyFrom (i := 18) rfl) rfl (Nat.le_of_ble_eq_true rfl) wd_123 (fun x25 => ?_)
  refine q_wr RX2 TX2 14 (tbm tkX2_copyFrom (i := 19) rfl) rfl (Nat.le_of_ble_eq_true rfl) (Or.inl rfl) wd_123 (fun h26 => ?_)
  refine q_run tkX2_copyFrom 20 2 (pc' := 42) (L' := [some (.inr (.inr a0)), some (.inr (.inr a1)), none]) (st' := [.inr (.inr a1), .inr (.inr a0)]) rfl ?_
  refine q_rdI RX2 TX2 14 (tbm tkX2_copyFrom (i := 22) rfl) rfl (Nat.le_of_ble_eq_true rfl) wd_125 (fun x27 => ?_)
  refine q_wr RX2 TX2 14 (tbm tkX2_copyFrom (i := 23) rfl) rfl (Nat.le_of_ble_eq_true rfl) (Or.inl rfl) wd_125 (fun h28 => ?_)
  refine q_run tkX2_copyFrom 24 2 (pc' := 50) (L' := [some (.inr (.inr a0)), some (.inr (.inr a1)), none]) (st' := [.inr (.inr a1), .inr (.inr a0)]) rfl ?_
  refine q_rdI RX2 TX2 14 (tbm tkX2_copyFrom (i := 26) rfl) rfl (Nat.le_of_ble_eq_true rfl) wd_128 (fun x29 => ?_)
  refine q_wr RX2 TX2 14 (tbm tkX2_copyFrom (i := 27) rfl) rfl (Nat.le_of_ble_eq_true rfl) (Or.inl rfl) wd_128 (fun h30 => ?_)
  refine q_run tkX2_copyFrom 28 2 (pc' := 58) (L' := [some (.inr (.inr a0)), some (.inr (.inr a1)), none]) (st' := [.inr (.inr a1), .inr (.inr a0)]) rfl ?_
  refine q_rdI RX2 TX2 14 (tbm tkX2_copyFrom (i := 30) rfl) rfl (Nat.le_of_ble_eq_true rfl) wd_131 (fun x31 => ?_)
  refine q_wr RX2 TX2 14 (tbm tkX2_copyFrom (i := 31) rfl) rfl (Nat.le_of_ble_eq_true rfl) (Or.inl rfl) wd_131 (fun h32 => ?_)
  refine q_run tkX2_copyFrom 32 2 (pc' := 66) (L' := [some (.inr (.inr a0)), some (.inr (.inr a1)), none]) (st' := [.inr (.inr a1), .inr (.inr a0)]) rfl ?_
  refine q_rdI RX2 TX2 14 (tbm tkX2_copyFrom (i := 34) rfl) rfl (Nat.le_of_ble_eq_true rfl) wd_134 (fun x33 => ?_)
  refine q_wr RX2 TX2 14 (tbm tkX2_copyFrom (i := 35) rfl) rfl (Nat.le_of_ble_eq_true rfl) (Or.inl rfl) wd_134 (fun h34 => ?_)
  refine q_run tkX2_copyFrom 36 2 (pc' := 74) (L' := [some (.inr (.inr a0)), some (.inr (.inr a1)), none]) (st' := [.inr (.inr a1), .inr (.inr a0)]) rfl ?_
  refine q_rdI RX2 TX2 14 (tbm tkX2_copyFrom (i := 38) rfl) rfl (Nat.le_of_ble_eq_true rfl) wd_136 (fun x35 => ?_)
  refine q_wr RX2 TX2 14 (tbm tkX2_copyFrom (i := 39) rfl) rfl (Nat.le_of_ble_eq_true rfl) (Or.inl rfl) wd_136 (fun h36 => ?_)
  refine q_run tkX2_copyFrom 40 2 (pc' := 82) (L' := [some (.inr (.inr a0)), some (.inr (.inr a1)), none]) (st' := [.inr (.inr a1), .inr (.inr a0)]) rfl ?_
  refine q_rdI RX2 TX2 14 (tbm tkX2_copyFrom (i := 42) rfl) rfl (Nat.le_of_ble_eq_true rfl) wd_139 (fun x37 => ?_)
  refine q_wr RX2 TX2 14 (tbm tkX2_copyFrom (i := 43) rfl) rfl (Nat.le_of_ble_eq_true rfl) (Or.inl rfl) wd_139 (fun h38 => ?_)
  refine q_run tkX2_copyFrom 44 2 (pc' := 90) (L' := [some (.inr (.inr a0)), some (.inr (.inr a1)), none]) (st' := [.inr (.inr a1), .inr (.inr a0)]) rfl ?_
  refine q_rdI RX2 TX2 14 (tbm tkX2_copyFrom (i := 46) rfl) rfl (Nat.le_of_ble_eq_true rfl) wd_140 (fun x39 => ?_)
  refine q_wr RX2 TX2 14 (tbm tkX2_copyFrom (i := 47) rfl) rfl (Nat.le_of_ble_eq_true rfl) (Or.inl rfl) wd_140 (fun h40 => ?_)
  refine q_run tkX2_copyFrom 48 2 (pc' := 98) (L' := [some (.inr (.inr a0)), some (.inr (.inr a1)), some (.inl (0 : Int32))]) (st' := []) rfl ?_
  exact sX2_copyFrom_98 X FU h40 a0 a1 (0 : Int32)
theorem ceX2_copyFrom : Ce mX2_copyFrom 1 := ⟨wd_74, wd_346, by decide +kernel, by decide +kernel, by decide +kernel⟩
/-- ReceiptRolls$State.copyReceipts -/
abbrev mX4_copyReceipts : MI := (yX4_copyReceipts, cX4_copyReceipts, 3, none, 1)
def tbX4_copyReceipts : List TE := [(0, .iconst 0, 1, 0, 0), (1, .istore_n 2, 1, 0, 0), (2, .iload_n 2, 1, 0, 0), (3, .aload_n 0, 1, 0, 0), (4, .arraylength, 1, 0, 0), (5, .if_icmp .ge 36, 3, 0, 41), (8, .iload_n 2, 1, 0, 0), (9, .aload_n 1, 1, 0, 0), (10, .arraylength, 1, 0, 0), (11, .if_icmp .ge 30, 3, 0, 41), (14, .aload_n 0, 1, 0, 0), (15, .iload_n 2, 1, 0, 0), (16, .aaload, 1, 0, 0), (17, .ifnull 18, 3, 0, 35), (20, .aload_n 1, 1, 0, 0), (21, .iload_n 2, 1, 0, 0), (22, .aaload, 1, 0, 0), (23, .ifnull 12, 3, 0, 35), (26, .aload_n 1, 1, 0, 0), (27, .iload_n 2, 1, 0, 0), (28, .aaload, 1, 0, 0), (29, .aload_n 0, 1, 0, 0), (30, .iload_n 2, 1, 0, 0), (31, .aaload, 1, 0, 0), (32, .invokevirtual 60, 3, 0, 0), (35, .iinc 2 1, 3, 1, 0), (38, .goto (-36), 3, 0, 2), (41, .return_, 1, 0, 0)]
theorem tkX4_copyReceipts : ∀ x ∈ tbX4_copyReceipts, tbB cX4_copyReceipts x = true := tb_all (by decide +kernel)
def fX4_copyReceipts_35 (c : Nat → Option Nat) (k2 : Hp → Option Nat → Option Nat → Int32 → Rs) (h : Hp) (l0 : Option Nat) (l1 : Option Nat) (l2 : Int32) : Rs := k2 h l0 l1 (l2 + (1 : Int32))
set_option maxHeartbeats 4000000 in
set_option maxRecDepth 100000 in
theorem sX4_copyReceipts_35 (X : Cx) {h0 : Hp} (k2 : Hp → Option Nat → Option Nat → Int32 → Rs) (hk2 : ∀ (h : Hp) (l0 : Option Nat) (l1 : Option Nat) (l2 : Int32), Gd X mX4_copyReceipts h0 (k2 h l0 l1 l2) h 2 [some (.inr (.inr l0)), some (.inr (.inr l1)), some (.inl l2)] []) (h : Hp) (l0 : Option Nat) (l1 : Option Nat) (l2 : Int32) : Gd X mX4_copyReceipts h0 (fX4_copyReceipts_35 X.2.2.2 k2 h l0 l1 l2) h 35 [some (.inr (.inr l0)), some (.inr (.inr l1)), some (.inl l2)] [] := by
  unfold fX4_copyReceipts_35
  refine q_run tkX4_copyReceipts 25 2 (pc' := 2) (L' := [some (.inr (.inr l0)), some (.inr (.inr l1)), some (.inl (l2 + (1 : Int32)))]) (st' := []) rfl ?_
  exact hk2 h l0 l1 (l2 + (1 : Int32))
def fX4_copyReceipts_41 (c : Nat → Option Nat) (h : Hp) : Rs := some (h, none)
set_option maxHeartbeats 4000000 in
set_option maxRecDepth 100000 in
theorem sX4_copyReceipts_41 (X : Cx) {h0 : Hp} (h : Hp) : Gd X mX4_copyReceipts h0 (fX4_copyReceipts_41 X.2.2.2 h) h 41 [none, none, none] [] := by
  unfold fX4_copyReceipts_41
  exact q_vret (tbm tkX4_copyReceipts (i := 27) rfl) rfl
def fX4_copyReceipts_2 (c : Nat → Option Nat) : Nat → Hp → Option Nat → Option Nat → Int32 → Rs
  | 0, _, _, _, _ => none
  | n + 1, h, l0, l1, l2 => lenA h l0 (fun x1 => if l2 < x1 then (lenA h l1 (fun x2 => if l2 < x2 then (aldR h l0 l2 (fun r3 => ifN r3 (fX4_copyReceipts_35 c (fX4_copyReceipts_2 c n) h l0 l1 l2) (aldR h l1 l2 (fun r4 => ifN r4 (fX4_copyReceipts_35 c (fX4_copyReceipts_2 c n) h l0 l1 l2) (aldR h l1 l2 (fun r5 => aldR h l0 l2 (fun r6 => ck h r5 4 (cc (fX2_copyFrom c h r5 r6) (kV fun h7 => fX4_copyReceipts_35 c (fX4_copyReceipts_2 c n) h7 l0 l1 l2))))))))) else (fX4_copyReceipts_41 c h))) else (fX4_copyReceipts_41 c h))
set_option maxHeartbeats 4000000 in
set_option maxRecDepth 100000 in
theorem sX4_copyReceipts_2 (X : Cx) {h0 : Hp} : ∀ (n : Nat) (h : Hp) (l0 : Option Nat) (l1 : Option Nat) (l2 : Int32), Gd X mX4_copyReceipts h0 (fX4_copyReceipts_2 X.2.2.2 n h l0 l1 l2) h 2 [some (.inr (.inr l0)), some (.inr (.inr l1)), some (.inl l2)] [] := by
  intro n
  induction n with
  | zero => intros; exact gd_none
  | succ n ih =>
    intro h l0 l1 l2
    unfold fX4_copyReceipts_2
    refine q_run tkX4_copyReceipts 2 2 (pc' := 4) (L' := [some (.inr (.inr l0)), some (.inr (.inr l1)), some (.inl l2)]) (st' := [.inr (.inr l0), .inl l2]) rfl ?_
    refine q_alen (tbm tkX4_copyReceipts (i := 4) rfl) (fun x1 => ?_)
    refine q_icmp_ge (tbm tkX4_copyReceipts (i := 5) rfl) ?_ ?_
    · refine q_run tkX4_copyReceipts 6 2 (pc' := 10) (L' := [some (.inr (.inr l0)), some (.inr (.inr l1)), some (.inl l2)]) (st' := [.inr (.inr l1), .inl l2]) rfl ?_
      refine q_alen (tbm tkX4_copyReceipts (i := 8) rfl) (fun x2 => ?_)
      refine q_icmp_ge (tbm tkX4_copyReceipts (i := 9) rfl) ?_ ?_
      · refine q_run tkX4_copyReceipts 10 2 (pc' := 16) (L' := [some (.inr (.inr l0)), some (.inr (.inr l1)), some (.inl l2)]) (st' := [.inl l2, .inr (.inr l0)]) rfl ?_
        refine q_aaload (tbm tkX4_copyReceipts (i := 12) rfl) (fun r3 => ?_)
        refine q_ifnull (tbm tkX4_copyReceipts (i := 13) rfl) ?_ ?_
        · exact sX4_copyReceipts_35 X (fX4_copyReceipts_2 X.2.2.2 n) ih h l0 l1 l2
        · refine q_run tkX4_copyReceipts 14 2 (pc' := 22) (L' := [some (.inr (.inr l0)), some (.inr (.inr l1)), some (.inl l2)]) (st' := [.inl l2, .inr (.inr l1)]) rfl ?_
          refine q_aaload (tbm tkX4_copyReceipts (i := 16) rfl) (fun r4 => ?_)
          refine q_ifnull (tbm tkX4_copyReceipts (i := 17) rfl) ?_ ?_
          · exact sX4_copyReceipts_35 X (fX4_copyReceipts_2 X.2.2.2 n) ih h l0 l1 l2
          · refine q_run tkX4_copyReceipts 18 2 (pc' := 28) (L' := [some (.inr (.inr l0)), some (.inr (.inr l1)), some (.inl l2)]) (st' := [.inl l2, .inr (.inr l1)]) rfl ?_
            refine q_aaload (tbm tkX4_copyReceipts (i := 20) rfl) (fun r5 => ?_)
            refine q_run tkX4_copyReceipts 21 2 (pc' := 31) (L' := [some (.inr (.inr l0)), some (.inr (.inr l1)), some (.inl l2)]) (st' := [.inl l2, .inr (.inr l0), .inr (.inr r5)]) rfl ?_
            refine q_aaload (tbm tkX4_copyReceipts (i := 23) rfl) (fun r6 => ?_)
            refine q_cv (r := r5) (ci := 4) (n := 1) (as := [.inr (.inr r6)]) (st := []) TX2 14 (soX2_copyFrom X h r5 r6) (tbm tkX4_copyReceipts (i := 24) rfl) rfl rfl ceX2_copyFrom wd_344 wd_345 wd_343 rfl (Nat.le_of_ble_eq_true rfl) (kV_gd (fun h7 => ?_))
            exact sX4_copyReceipts_35 X (fX4_copyReceipts_2 X.2.2.2 n) ih h7 l0 l1 l2
      · refine q_le (L' := [none, none, none]) (lvLe_n (lvLe_n (lvLe_n lvLe_0))) ?_
        exact sX4_copyReceipts_41 X h
    · refine q_le (L' := [none, none, none]) (lvLe_n (lvLe_n (lvLe_n lvLe_0))) ?_
      exact sX4_copyReceipts_41 X h
def fX4_copyReceipts (c : Nat → Option Nat) (h : Hp) (a0 : Option Nat) (a1 : Option Nat) : Rs := fX4_copyReceipts_2 c FU h a0 a1 (0 : Int32)
set_option maxHeartbeats 4000000 in
set_option maxRecDepth 100000 in
theorem soX4_copyReceipts (X : Cx) (h : Hp) (a0 : Option Nat) (a1 : Option Nat) : SO X mX4_copyReceipts [.inr (.inr a0), .inr (.inr a1)] h (fX4_copyReceipts X.2.2.2 h a0 a1) := by
  refine so_of (by decide +kernel) (Nat.le_of_ble_eq_true rfl) ?_
  show Gd X mX4_copyReceipts h (fX4_copyReceipts X.2.2.2 h a0 a1) h 0 [some (.inr (.inr a0)), some (.inr (.inr a1)), none] []
  unfold fX4_copyReceipts
  refine q_run tkX4_copyReceipts 0 2 (pc' := 2) (L' := [some (.inr (.inr a0)), some (.inr (.inr a1)), some (.inl (0 : Int32))]) (st' := []) rfl ?_
  exact sX4_copyReceipts_2 X FU h a0 a1 (0 : Int32)
theorem ceX4_copyReceipts : Ce mX4_copyReceipts 2 := ⟨wd_73, wd_342, by decide +kernel, by decide +kernel, by decide +kernel⟩
/-- ReceiptRolls$State.copyFrom -/
abbrev mX4_copyFrom : MI := (yX4_copyFrom, cX4_copyFrom, 3, none, 2)
def tbX4_copyFrom : List TE := [(0, .aload_n 0, 1, 0, 0), (1, .aload_n 1, 1, 0, 0), (2, .getfield 9, 3, 0, 0), (5, .putfield 9, 3, 0, 0), (8, .aload_n 0, 1, 0, 0), (9, .aload_n 1, 1, 0, 0), (10, .getfield 32, 3, 0, 0), (13, .putfield 32, 3, 0, 0), (16, .aload_n 0, 1, 0, 0), (17, .aload_n 1, 1, 0, 0), (18, .getfield 35, 3, 0, 0), (21, .putfield 35, 3, 0, 0), (24, .aload_n 0, 1, 0, 0), (25, .aload_n 1, 1, 0, 0), (26, .getfield 15, 3, 0, 0), (29, .putfield 15, 3, 0, 0), (32, .aload_n 0, 1, 0, 0), (33, .aload_n 1, 1, 0, 0), (34, .getfield 38, 3, 0, 0), (37, .putfield 38, 3, 0, 0), (40, .aload_n 0, 1, 0, 0), (41, .aload_n 1, 1, 0, 0), (42, .getfield 41, 3, 0, 0), (45, .putfield 41, 3, 0, 0), (48, .aload_n 0, 1, 0, 0), (49, .aload_n 1, 1, 0, 0), (50, .getfield 44, 3, 0, 0), (53, .putfield 44, 3, 0, 0), (56, .aload_n 0, 1, 0, 0), (57, .aload_n 1, 1, 0, 0), (58, .getfield 47, 3, 0, 0), (61, .putfield 47, 3, 0, 0), (64, .aload_n 0, 1, 0, 0), (65, .aload_n 1, 1, 0, 0), (66, .getfield 50, 3, 0, 0), (69, .putfield 50, 3, 0, 0), (72, .aload_n 0, 1, 0, 0), (73, .aload_n 1, 1, 0, 0), (74, .getfield 53, 3, 0, 0), (77, .putfield 53, 3, 0, 0), (80, .iconst 0, 1, 0, 0), (81, .istore_n 2, 1, 0, 0), (82, .iload_n 2, 1, 0, 0), (83, .aload_n 0, 1, 0, 0), (84, .getfield 18, 3, 0, 0), (87, .arraylength, 1, 0, 0), (88, .if_icmp .ge 30, 3, 0, 118), (91, .iload_n 2, 1, 0, 0), (92, .aload_n 1, 1, 0, 0), (93, .getfield 18, 3, 0, 0), (96, .arraylength, 1, 0, 0), (97, .if_icmp .ge 21, 3, 0, 118), (100, .aload_n 0, 1, 0, 0), (101, .getfield 18, 3, 0, 0), (104, .iload_n 2, 1, 0, 0), (105, .aload_n 1, 1, 0, 0), (106, .getfield 18, 3, 0, 0), (109, .iload_n 2, 1, 0, 0), (110, .iaload, 1, 0, 0), (111, .iastore, 1, 0, 0), (112, .iinc 2 1, 3, 1, 0), (115, .goto (-33), 3, 0, 82), (118, .aload_n 1, 1, 0, 0), (119, .getfield 24, 3, 0, 0), (122, .aload_n 0, 1, 0, 0), (123, .getfield 24, 3, 0, 0), (126, .invokestatic 56, 3, 0, 0), (129, .aload_n 1, 1, 0, 0), (130, .getfield 28, 3, 0, 0), (133, .aload_n 0, 1, 0, 0), (134, .getfield 28, 3, 0, 0), (137, .invokestatic 56, 3, 0, 0), (140, .return_, 1, 0, 0)]
theorem tkX4_copyFrom : ∀ x ∈ tbX4_copyFrom, tbB cX4_copyFrom x = true := tb_all (by decide +kernel)
def fX4_copyFrom_118 (c : Nat → Option Nat) (h : Hp) (l0 : Option Nat) (l1 : Option Nat) : Rs := rdR h l1 6 11 (fun r1 => rdR h l0 6 11 (fun r2 => cc (fX4_copyReceipts c h r1 r2) (kV fun h3 => rdR h3 l1 6 12 (fun r4 => rdR h3 l0 6 12 (fun r5 => cc (fX4_copyReceipts c h3 r4 r5) (kV fun h6 => some (h6, none)))))))
set_option maxHeartbeats 4000000 in
set_option maxRecDepth 100000 in
theorem sX4_copyFrom_118 (X : Cx) {h0 : Hp} (h : Hp) (l0 : Option Nat) (l1 : Option Nat) : Gd X mX4_copyFrom h0 (fX4_copyFrom_118 X.2.2.2 h l0 l1) h 118 [some (.inr (.inr l0)), some (.inr (.inr l1)), none] [] := by
  unfold fX4_copyFrom_118
  refine q_run tkX4_copyFrom 62 1 (pc' := 119) (L' := [some (.inr (.inr l0)), some (.inr (.inr l1)), none]) (st' := [.inr (.inr l1)]) rfl ?_
  refine q_rdR RX4 TX4 13 (tbm tkX4_copyFrom (i := 63) rfl) rfl (Nat.le_of_ble_eq_true rfl) wd_196 (fun r1 => ?_)
  refine q_run tkX4_copyFrom 64 1 (pc' := 123) (L' := [some (.inr (.inr l0)), some (.inr (.inr l1)), none]) (st' := [.inr (.inr l0), .inr (.inr r1)]) rfl ?_
  refine q_rdR RX4 TX4 13 (tbm tkX4_copyFrom (i := 65) rfl) rfl (Nat.le_of_ble_eq_true rfl) wd_196 (fun r2 => ?_)
  refine q_cs (n := 2) (as := [.inr (.inr r1), .inr (.inr r2)]) (st := []) (soX4_copyReceipts X h r1 r2) (tbm tkX4_copyFrom (i := 66) rfl) rfl ceX4_copyReceipts wd_341 wd_340 rfl (Nat.le_of_ble_eq_true rfl) (kV_gd (fun h3 => ?_))
  refine q_run tkX4_copyFrom 67 1 (pc' := 130) (L' := [some (.inr (.inr l0)), some (.inr (.inr l1)), none]) (st' := [.inr (.inr l1)]) rfl ?_
  refine q_rdR RX4 TX4 13 (tbm tkX4_copyFrom (i := 68) rfl) rfl (Nat.le_of_ble_eq_true rfl) wd_197 (fun r4 => ?_)
  refine q_run tkX4_copyFrom 69 1 (pc' := 134) (L' := [some (.inr (.inr l0)), some (.inr (.inr l1)), none]) (st' := [.inr (.inr l0), .inr (.inr r4)]) rfl ?_
  refine q_rdR RX4 TX4 13 (tbm tkX4_copyFrom (i := 70) rfl) rfl (Nat.le_of_ble_eq_true rfl) wd_197 (fun r5 => ?_)
  refine q_cs (n := 2) (as := [.inr (.inr r4), .inr (.inr r5)]) (st := []) (soX4_copyReceipts X h3 r4 r5) (tbm tkX4_copyFrom (i := 71) rfl) rfl ceX4_copyReceipts wd_341 wd_340 rfl (Nat.le_of_ble_eq_true rfl) (kV_gd (fun h6 => ?_))
  exact q_vret (tbm tkX4_copyFrom (i := 72) rfl) rfl
def fX4_copyFrom_82 (c : Nat → Option Nat) : Nat → Hp → Option Nat → Option Nat → Int32 → Rs
  | 0, _, _, _, _ => none
  | n + 1, h, l0, l1, l2 => rdR h l0 6 10 (fun r7 => lenA h r7 (fun x8 => if l2 < x8 then (rdR h l1 6 10 (fun r9 => lenA h r9 (fun x10 => if l2 < x10 then (rdR h l0 6 10 (fun r11 => rdR h l1 6 10 (fun r12 => aldI h r12 [0, 10] l2 (fun x13 => astI h r11 [0] l2 x13 (fun h14 => fX4_copyFrom_82 c n h14 l0 l1 (l2 + (1 : Int32))))))) else (fX4_copyFrom_118 c h l0 l1)))) else (fX4_copyFrom_118 c h l0 l1)))
set_option maxHeartbeats 4000000 in
set_option maxRecDepth 100000 in
theorem sX4_copyFrom_82 (X : Cx) {h0 : Hp} : ∀ (n : Nat) (h : Hp) (l0 : Option Nat) (l1 : Option Nat) (l2 : Int32), Gd X mX4_copyFrom h0 (fX4_copyFrom_82 X.2.2.2 n h l0 l1 l2) h 82 [some (.inr (.inr l0)), some (.inr (.inr l1)), some (.inl l2)] [] := by
  intro n
  induction n with
  | zero => intros; exact gd_none
  | succ n ih =>
    intro h l0 l1 l2
    unfold fX4_copyFrom_82
    refine q_run tkX4_copyFrom 42 2 (pc' := 84) (L' := [some (.inr (.inr l0)), some (.inr (.inr l1)), some (.inl l2)]) (st' := [.inr (.inr l0), .inl l2]) rfl ?_
    refine q_rdR RX4 TX4 13 (tbm tkX4_copyFrom (i := 44) rfl) rfl (Nat.le_of_ble_eq_true rfl) wd_195 (fun r7 => ?_)
    refine q_alen (tbm tkX4_copyFrom (i := 45) rfl) (fun x8 => ?_)
    refine q_icmp_ge (tbm tkX4_copyFrom (i := 46) rfl) ?_ ?_
    · refine q_run tkX4_copyFrom 47 2 (pc' := 93) (L' := [some (.inr (.inr l0)), some (.inr (.inr l1)), some (.inl l2)]) (st' := [.inr (.inr l1), .inl l2]) rfl ?_
      refine q_rdR RX4 TX4 13 (tbm tkX4_copyFrom (i := 49) rfl) rfl (Nat.le_of_ble_eq_true rfl) wd_195 (fun r9 => ?_)
      refine q_alen (tbm tkX4_copyFrom (i := 50) rfl) (fun x10 => ?_)
      refine q_icmp_ge (tbm tkX4_copyFrom (i := 51) rfl) ?_ ?_
      · refine q_run tkX4_copyFrom 52 1 (pc' := 101) (L' := [some (.inr (.inr l0)), some (.inr (.inr l1)), some (.inl l2)]) (st' := [.inr (.inr l0)]) rfl ?_
        refine q_rdR RX4 TX4 13 (tbm tkX4_copyFrom (i := 53) rfl) rfl (Nat.le_of_ble_eq_true rfl) wd_195 (fun r11 => ?_)
        refine q_run tkX4_copyFrom 54 2 (pc' := 106) (L' := [some (.inr (.inr l0)), some (.inr (.inr l1)), some (.inl l2)]) (st' := [.inr (.inr l1), .inl l2, .inr (.inr r11)]) rfl ?_
        refine q_rdR RX4 TX4 13 (tbm tkX4_copyFrom (i := 56) rfl) rfl (Nat.le_of_ble_eq_true rfl) wd_195 (fun r12 => ?_)
        refine q_run tkX4_copyFrom 57 1 (pc' := 110) (L' := [some (.inr (.inr l0)), some (.inr (.inr l1)), some (.inl l2)]) (st' := [.inl l2, .inr (.inr r12), .inl l2, .inr (.inr r11)]) rfl ?_
        refine q_iaload (tbm tkX4_copyFrom (i := 58) rfl) (fun x13 => ?_)
        refine q_iastore (tbm tkX4_copyFrom (i := 59) rfl) (fun h14 => ?_)
        refine q_run tkX4_copyFrom 60 2 (pc' := 82) (L' := [some (.inr (.inr l0)), some (.inr (.inr l1)), some (.inl (l2 + (1 : Int32)))]) (st' := []) rfl ?_
        exact ih h14 l0 l1 (l2 + (1 : Int32))
      · refine q_le (L' := [some (.inr (.inr l0)), some (.inr (.inr l1)), none]) (lvLe_s (lvLe_s (lvLe_n lvLe_0))) ?_
        exact sX4_copyFrom_118 X h l0 l1
    · refine q_le (L' := [some (.inr (.inr l0)), some (.inr (.inr l1)), none]) (lvLe_s (lvLe_s (lvLe_n lvLe_0))) ?_
      exact sX4_copyFrom_118 X h l0 l1
def fX4_copyFrom (c : Nat → Option Nat) (h : Hp) (a0 : Option Nat) (a1 : Option Nat) : Rs := rdI h a1 6 0 (fun x15 => wr h a0 6 0 (.inl x15) (fun h16 => rdI h16 a1 6 1 (fun x17 => wr h16 a0 6 1 (.inl x17) (fun h18 => rdI h18 a1 6 2 (fun x19 => wr h18 a0 6 2 (.inl x19) (fun h20 => rdI h20 a1 6 3 (fun x21 => wr h20 a0 6 3 (.inl x21) (fun h22 => rdI h22 a1 6 4 (fun x23 => wr h22 a0 6 4 (.inl x23) (fun h24 => rdI h24 a1 6 5 (fun x25 => wr h24 a0 6 5 (.inl x25) (fun h26 => rdI h26 a1 6 6 (fun x27 => wr h26 a0 6 6 (.inl x27) (fun h28 => rdI h28 a1 6 7 (fun x29 => wr h28 a0 6 7 (.inl x29) (fun h30 => rdI h30 a1 6 8 (fun x31 => wr h30 a0 6 8 (.inl x31) (fun h32 => rdI h32 a1 6 9 (fun x33 => wr h32 a0 6 9 (.inl x33) (fun h34 => fX4_copyFrom_82 c FU h34 a0 a1 (0 : Int32)))))))))))))))))))))
set_option maxHeartbeats 4000000 in
set_option maxRecDepth 100000 in
theorem soX4_copyFrom (X : Cx) (h : Hp) (a0 : Option Nat) (a1 : Option Nat) : SO X mX4_copyFrom [.inr (.inr a0), .inr (.inr a1)] h (fX4_copyFrom X.2.2.2 h a0 a1) := by
  refine so_of (by decide +kernel) (Nat.le_of_ble_eq_true rfl) ?_
  show Gd X mX4_copyFrom h (fX4_copyFrom X.2.2.2 h a0 a1) h 0 [some (.inr (.inr a0)), some (.inr (.inr a1)), none] []
  unfold fX4_copyFrom
  refine q_run tkX4_copyFrom 0 2 (pc' := 2) (L' := [some (.inr (.inr a0)), some (.inr (.inr a1)), none]) (st' := [.inr (.inr a1), .inr (.inr a0)]) rfl ?_
  refine q_rdI RX4 TX4 13 (tbm tkX4_copyFrom (i := 2) rfl) rfl (Nat.le_of_ble_eq_true rfl) wd_175 (fun x15 => ?_)
  refine q_wr RX4 TX4 13 (tbm tkX4_copyFrom (i := 3) rfl) rfl (Nat.le_of_ble_eq_true rfl) (Or.inl rfl) wd_175 (fun h16 => ?_)
  refine q_run tkX4_copyFrom 4 2 (pc' := 10) (L' := [some (.inr (.inr a0)), some (.inr (.inr a1)), none]) (st' := [.inr (.inr a1), .inr (.inr a0)]) rfl ?_
  refine q_rdI RX4 TX4 13 (tbm tkX4_copyFrom (i := 6) rfl) rfl (Nat.le_of_ble_eq_true rfl) wd_177 (fun x17 => ?_)
  refine q_wr RX4 TX4 13 (tbm tkX4_copyFrom (i := 7) rfl) rfl (Nat.le_of_ble_eq_true rfl) (Or.inl rfl) wd_177 (fun h18 => ?_)
  refine q_run tkX4_copyFrom 8 2 (pc' := 18) (L' := [some (.inr (.inr a0)), some (.inr (.inr a1)), none]) (st' := [.inr (.inr a1), .inr (.inr a0)]) rfl ?_
  refine q_rdI RX4 TX4 13 (tbm tkX4_copyFrom (i := 10) rfl) rfl (Nat.le_of_ble_eq_true rfl) wd_179 (fun x19 => ?_)
  refine q_wr RX4 TX4 13 (tbm tkX4_copyFrom (i := 11) rfl) rfl (Nat.le_of_ble_eq_true rfl) (Or.inl rfl) wd_179 (fun h20 => ?_)
  refine q_run tkX4_copyFrom 12 2 (pc' := 26) (L' := [some (.inr (.inr a0)), some (.inr (.inr a1)), none]) (st' := [.inr (.inr a1), .inr (.inr a0)]) rfl ?_
  refine q_rdI RX4 TX4 13 (tbm tkX4_copyFrom (i := 14) rfl) rfl (Nat.le_of_ble_eq_true rfl) wd_181 (fun x21 => ?_)
  refine q_wr RX4 TX4 13 (tbm tkX4_copyFrom (i := 15) rfl) rfl (Nat.le_of_ble_eq_true rfl) (Or.inl rfl) wd_181 (fun h22 => ?_)
  refine q_run tkX4_copyFrom 16 2 (pc' := 34) (L' := [some (.inr (.inr a0)), some (.inr (.inr a1)), none]) (st' := [.inr (.inr a1), .inr (.inr a0)]) rfl ?_
  refine q_rdI RX4 TX4 13 (tbm tkX4_copyFrom (i := 18) rfl) rfl (Nat.le_of_ble_eq_true rfl) wd_183 (fun x23 => ?_)
  refine q_wr RX4 TX4 13 (tbm tkX4_copyFrom (i := 19) rfl) rfl (Nat.le_of_ble_eq_true rfl) (Or.inl rfl) wd_183 (fun h24 => ?_)
  refine q_run tkX4_copyFrom 20 2 (pc' := 42) (L' := [some (.inr (.inr a0)), some (.inr (.inr a1)), none]) (st' := [.inr (.inr a1), .inr (.inr a0)]) rfl ?_
  refine q_rdI RX4 TX4 13 (tbm tkX4_copyFrom (i := 22) rfl) rfl (Nat.le_of_ble_eq_true rfl) wd_185 (fun x25 => ?_)
  refine q_wr RX4 TX4 13 (tbm tkX4_copyFrom (i := 23) rfl) rfl (Nat.le_of_ble_eq_true rfl) (Or.inl rfl) wd_185 (fun h26 => ?_)
  refine q_run tkX4_copyFrom 24 2 (pc' := 50) (L' := [some (.inr (.inr a0)), some (.inr (.inr a1)), none]) (st' := [.inr (.inr a1), .inr (.inr a0)]) rfl ?_
  refine q_rdI RX4 TX4 13 (tbm tkX4_copyFrom (i := 26) rfl) rfl (Nat.le_of_ble_eq_true rfl) wd_187 (fun x27 => ?_)
  refine q_wr RX4 TX4 13 (tbm tkX4_copyFrom (i := 27) rfl) rfl (Nat.le_of_ble_eq_true rfl) (Or.inl rfl) wd_187 (fun h28 => ?_)
  refine q_run tkX4_copyFrom 28 2 (pc' := 58) (L' := [some (.inr (.inr a0)), some (.inr (.inr a1)), none]) (st' := [.inr (.inr a1), .inr (.inr a0)]) rfl ?_
  refine q_rdI RX4 TX4 13 (tbm tkX4_copyFrom (i := 30) rfl) rfl (Nat.le_of_ble_eq_true rfl) wd_189 (fun x29 => ?_)
  refine q_wr RX4 TX4 13 (tbm tkX4_copyFrom (i := 31) rfl) rfl (Nat.le_of_ble_eq_true rfl) (Or.inl rfl) wd_189 (fun h30 => ?_)
  refine q_run tkX4_copyFrom 32 2 (pc' := 66) (L' := [some (.inr (.inr a0)), some (.inr (.inr a1)), none]) (st' := [.inr (.inr a1), .inr (.inr a0)]) rfl ?_
  refine q_rdI RX4 TX4 13 (tbm tkX4_copyFrom (i := 34) rfl) rfl (Nat.le_of_ble_eq_true rfl) wd_191 (fun x31 => ?_)
  refine q_wr RX4 TX4 13 (tbm tkX4_copyFrom (i := 35) rfl) rfl (Nat.le_of_ble_eq_true rfl) (Or.inl rfl) wd_191 (fun h32 => ?_)
  refine q_run tkX4_copyFrom 36 2 (pc' := 74) (L' := [some (.inr (.inr a0)), some (.inr (.inr a1)), none]) (st' := [.inr (.inr a1), .inr (.inr a0)]) rfl ?_
  refine q_rdI RX4 TX4 13 (tbm tkX4_copyFrom (i := 38) rfl) rfl (Nat.le_of_ble_eq_true rfl) wd_193 (fun x33 => ?_)
  refine q_wr RX4 TX4 13 (tbm tkX4_copyFrom (i := 39) rfl) rfl (Nat.le_of_ble_eq_true rfl) (Or.inl rfl) wd_193 (fun h34 => ?_)
  refine q_run tkX4_copyFrom 40 2 (pc' := 82) (L' := [some (.inr (.inr a0)), some (.inr (.inr a1)), some (.inl (0 : Int32))]) (st' := []) rfl ?_
  exact sX4_copyFrom_82 X FU h34 a0 a1 (0 : Int32)
theorem ceX4_copyFrom : Ce mX4_copyFrom 1 := ⟨wd_73, wd_339, by decide +kernel, by decide +kernel, by decide +kernel⟩
/-- ReceiptRolls$History.remember -/
abbrev mX0_remember : MI := (yX0_remember, cX0_remember, 2, none, 3)
def tbX0_remember : List TE := [(0, .aload_n 0, 1, 0, 0), (1, .getfield 18, 3, 0, 0), (4, .aload_n 0, 1, 0, 0), (5, .getfield 11, 3, 0, 0), (8, .arraylength, 1, 0, 0), (9, .if_icmp .lt 7, 3, 0, 16), (12, .aload_n 0, 1, 0, 0), (13, .invokevirtual 22, 3, 0, 0), (16, .aload_n 0, 1, 0, 0), (17, .getfield 18, 3, 0, 0), (20, .ifCond .lt 50, 3, 0, 70), (23, .aload_n 0, 1, 0, 0), (24, .getfield 18, 3, 0, 0), (27, .aload_n 0, 1, 0, 0), (28, .getfield 11, 3, 0, 0), (31, .arraylength, 1, 0, 0), (32, .if_icmp .ge 38, 3, 0, 70), (35, .aload_n 0, 1, 0, 0), (36, .getfield 11, 3, 0, 0), (39, .aload_n 0, 1, 0, 0), (40, .getfield 18, 3, 0, 0), (43, .aaload, 1, 0, 0), (44, .ifnull 26, 3, 0, 70), (47, .aload_n 0, 1, 0, 0), (48, .getfield 11, 3, 0, 0), (51, .aload_n 0, 1, 0, 0), (52, .getfield 18, 3, 0, 0), (55, .aaload, 1, 0, 0), (56, .aload_n 1, 1, 0, 0), (57, .invokevirtual 25, 3, 0, 0), (60, .aload_n 0, 1, 0, 0), (61, .dup, 1, 0, 0), (62, .getfield 18, 3, 0, 0), (65, .iconst 1, 1, 1, 0), (66, .iadd, 1, 0, 0), (67, .putfield 18, 3, 0, 0), (70, .return_, 1, 0, 0)]
theorem tkX0_remember : ∀ x ∈ tbX0_remember, tbB cX0_remember x = true := tb_all (by decide +kernel)
def fX0_remember_70 (c : Nat → Option Nat) (h : Hp) : Rs := some (h, none)
set_option maxHeartbeats 4000000 in
set_option maxRecDepth 100000 in
theorem sX0_remember_70 (X : Cx) {h0 : Hp} (h : Hp) : Gd X mX0_remember h0 (fX0_remember_70 X.2.2.2 h) h 70 [none, none] [] := by
  unfold fX0_remember_70
  exact q_vret (tbm tkX0_remember (i := 36) rfl) rfl
def fX0_remember_16 (c : Nat → Option Nat) (h : Hp) (l0 : Option Nat) (l1 : Option Nat) : Rs := rdI h l0 2 0 (fun x1 => if x1 < 0 then (fX0_remember_70 c h) else (rdI h l0 2 0 (fun x2 => rdR h l0 2 1 (fun r3 => lenA h r3 (fun x4 => if x2 < x4 then (rdR h l0 2 1 (fun r5 => rdI h l0 2 0 (fun x6 => aldR h r5 x6 (fun r7 => ifN r7 (fX0_remember_70 c h) (rdR h l0 2 1 (fun r8 => rdI h l0 2 0 (fun x9 => aldR h r8 x9 (fun r10 => ck h r10 6 (cc (fX4_copyFrom c h r10 l1) (kV fun h11 => rdI h11 l0 2 0 (fun x12 => wr h11 l0 2 0 (.inl (x12 + (1 : Int32))) (fun h13 => fX0_remember_70 c h13)))))))))))) else (fX0_remember_70 c h))))))
set_option maxHeartbeats 4000000 in
set_option maxRecDepth 100000 in
theorem sX0_remember_16 (X : Cx) {h0 : Hp} (h : Hp) (l0 : Option Nat) (l1 : Option Nat) : Gd X mX0_remember h0 (fX0_remember_16 X.2.2.2 h l0 l1) h 16 [some (.inr (.inr l0)), some (.inr (.inr l1))] [] := by
  unfold fX0_remember_16
  refine q_run tkX0_remember 8 1 (pc' := 17) (L' := [some (.inr (.inr l0)), some (.inr (.inr l1))]) (st' := [.inr (.inr l0)]) rfl ?_
  refine q_rdI RX0 TX0 2 (tbm tkX0_remember (i := 9) rfl) rfl (Nat.le_of_ble_eq_true rfl) wd_234 (fun x1 => ?_)
  refine q_if_lt (tbm tkX0_remember (i := 10) rfl) ?_ ?_
  · refine q_le (L' := [none, none]) (lvLe_n (lvLe_n lvLe_0)) ?_
    exact sX0_remember_70 X h
  · refine q_run tkX0_remember 11 1 (pc' := 24) (L' := [some (.inr (.inr l0)), some (.inr (.inr l1))]) (st' := [.inr (.inr l0)]) rfl ?_
    refine q_rdI RX0 TX0 2 (tbm tkX0_remember (i := 12) rfl) rfl (Nat.le_of_ble_eq_true rfl) wd_234 (fun x2 => ?_)
    refine q_run tkX0_remember 13 1 (pc' := 28) (L' := [some (.inr (.inr l0)), some (.inr (.inr l1))]) (st' := [.inr (.inr l0), .inl x2]) rfl ?_
    refine q_rdR RX0 TX0 2 (tbm tkX0_remember (i := 14) rfl) rfl (Nat.le_of_ble_eq_true rfl) wd_236 (fun r3 => ?_)
    refine q_alen (tbm tkX0_remember (i := 15) rfl) (fun x4 => ?_)
    refine q_icmp_ge (tbm tkX0_remember (i := 16) rfl) ?_ ?_
    · refine q_run tkX0_remember 17 1 (pc' := 36) (L' := [some (.inr (.inr l0)), some (.inr (.inr l1))]) (st' := [.inr (.inr l0)]) rfl ?_
      refine q_rdR RX0 TX0 2 (tbm tkX0_remember (i := 18) rfl) rfl (Nat.le_of_ble_eq_true rfl) wd_236 (fun r5 => ?_)
      refine q_run tkX0_remember 19 1 (pc' := 40) (L' := [some (.inr (.inr l0)), some (.inr (.inr l1))]) (st' := [.inr (.inr l0), .inr (.inr r5)]) rfl ?_
      refine q_rdI RX0 TX0 2 (tbm tkX0_remember (i := 20) rfl) rfl (Nat.le_of_ble_eq_true rfl) wd_234 (fun x6 => ?_)
      refine q_aaload (tbm tkX0_remember (i := 21) rfl) (fun r7 => ?_)
      refine q_ifnull (tbm tkX0_remember (i := 22) rfl) ?_ ?_
      · refine q_le (L' := [none, none]) (lvLe_n (lvLe_n lvLe_0)) ?_
        exact sX0_remember_70 X h
      · refine q_run tkX0_remember 23 1 (pc' := 48) (L' := [some (.inr (.inr l0)), some (.inr (.inr l1))]) (st' := [.inr (.inr l0)]) rfl ?_
        refine q_rdR RX0 TX0 2 (tbm tkX0_remember (i := 24) rfl) rfl (Nat.le_of_ble_eq_true rfl) wd_236 (fun r8 => ?_)
        refine q_run tkX0_remember 25 1 (pc' := 52) (L' := [some (.inr (.inr l0)), some (.inr (.inr l1))]) (st' := [.inr (.inr l0), .inr (.inr r8)]) rfl ?_
        refine q_rdI RX0 TX0 2 (tbm tkX0_remember (i := 26) rfl) rfl (Nat.le_of_ble_eq_true rfl) wd_234 (fun x9 => ?_)
        refine q_aaload (tbm tkX0_remember (i := 27) rfl) (fun r10 => ?_)
        refine q_run tkX0_remember 28 1 (pc' := 57) (L' := [some (.inr (.inr l0)), some (.inr (.inr l1))]) (st' := [.inr (.inr l1), .inr (.inr r10)]) rfl ?_
        refine q_cv (r := r10) (ci := 6) (n := 1) (as := [.inr (.inr l1)]) (st := []) TX4 13 (soX4_copyFrom X h r10 l1) (tbm tkX0_remember (i := 29) rfl) rfl rfl ceX4_copyFrom wd_337 wd_338 wd_336 rfl (Nat.le_of_ble_eq_true rfl) (kV_gd (fun h11 => ?_))
        refine q_run tkX0_remember 30 2 (pc' := 62) (L' := [some (.inr (.inr l0)), some (.inr (.inr l1))]) (st' := [.inr (.inr l0), .inr (.inr l0)]) rfl ?_
        refine q_rdI RX0 TX0 2 (tbm tkX0_remember (i := 32) rfl) rfl (Nat.le_of_ble_eq_true rfl) wd_234 (fun x12 => ?_)
        refine q_run tkX0_remember 33 2 (pc' := 67) (L' := [some (.inr (.inr l0)), some (.inr (.inr l1))]) (st' := [.inl (x12 + (1 : Int32)), .inr (.inr l0)]) rfl ?_
        refine q_wr RX0 TX0 2 (tbm tkX0_remember (i := 35) rfl) rfl (Nat.le_of_ble_eq_true rfl) (Or.inl rfl) wd_234 (fun h13 => ?_)
        refine q_le (L' := [none, none]) (lvLe_n (lvLe_n lvLe_0)) ?_
        exact sX0_remember_70 X h13
    · refine q_le (L' := [none, none]) (lvLe_n (lvLe_n lvLe_0)) ?_
      exact sX0_remember_70 X h
def fX0_remember (c : Nat → Option Nat) (h : Hp) (a0 : Option Nat) (a1 : Option Nat) : Rs := rdI h a0 2 0 (fun x14 => rdR h a0 2 1 (fun r15 => lenA h r15 (fun x16 => if x14 < x16 then (fX0_remember_16 c h a0 a1) else (ck h a0 2 (cc (fX0_dropOldest c h a0) (kV fun h17 => fX0_remember_16 c h17 a0 a1))))))
set_option maxHeartbeats 4000000 in
set_option maxRecDepth 100000 in
theorem soX0_remember (X : Cx) (h : Hp) (a0 : Option Nat) (a1 : Option Nat) : SO X mX0_remember [.inr (.inr a0), .inr (.inr a1)] h (fX0_remember X.2.2.2 h a0 a1) := by
  refine so_of (by decide +kernel) (Nat.le_of_ble_eq_true rfl) ?_
  show Gd X mX0_remember h (fX0_remember X.2.2.2 h a0 a1) h 0 [some (.inr (.inr a0)), some (.inr (.inr a1))] []
  unfold fX0_remember
  refine q_run tkX0_remember 0 1 (pc' := 1) (L' := [some (.inr (.inr a0)), some (.inr (.inr a1))]) (st' := [.inr (.inr a0)]) rfl ?_
  refine q_rdI RX0 TX0 2 (tbm tkX0_remember (i := 1) rfl) rfl (Nat.le_of_ble_eq_true rfl) wd_234 (fun x14 => ?_)
  refine q_run tkX0_remember 2 1 (pc' := 5) (L' := [some (.inr (.inr a0)), some (.inr (.inr a1))]) (st' := [.inr (.inr a0), .inl x14]) rfl ?_
  refine q_rdR RX0 TX0 2 (tbm tkX0_remember (i := 3) rfl) rfl (Nat.le_of_ble_eq_true rfl) wd_236 (fun r15 => ?_)
  refine q_alen (tbm tkX0_remember (i := 4) rfl) (fun x16 => ?_)
  refine q_icmp_lt (tbm tkX0_remember (i := 5) rfl) ?_ ?_
  · exact sX0_remember_16 X h a0 a1
  · refine q_run tkX0_remember 6 1 (pc' := 13) (L' := [some (.inr (.inr a0)), some (.inr (.inr a1))]) (st' := [.inr (.inr a0)]) rfl ?_
    refine q_cv (r := a0) (ci := 2) (n := 0) (as := []) (st := []) TX0 2 (soX0_dropOldest X h a0) (tbm tkX0_remember (i := 7) rfl) rfl rfl ceX0_dropOldest wd_334 wd_0 wd_332 rfl (Nat.le_of_ble_eq_true rfl) (kV_gd (fun h17 => ?_))
    exact sX0_remember_16 X h17 a0 a1
theorem ceX0_remember : Ce mX0_remember 1 := ⟨wd_75, wd_331, by decide +kernel, by decide +kernel, by decide +kernel⟩
/-- ReceiptRolls$State.settingAt -/
abbrev mX4_settingAt : MI := (yX4_settingAt, cX4_settingAt, 2, some .int, 0)
def tbX4_settingAt : List TE := [(0, .iload_n 1, 1, 0, 0), (1, .ifCond .lt 21, 3, 0, 22), (4, .iload_n 1, 1, 0, 0), (5, .aload_n 0, 1, 0, 0), (6, .getfield 18, 3, 0, 0), (9, .arraylength, 1, 0, 0), (10, .if_icmp .ge 12, 3, 0, 22), (13, .aload_n 0, 1, 0, 0), (14, .getfield 18, 3, 0, 0), (17, .iload_n 1, 1, 0, 0), (18, .iaload, 1, 0, 0), (19, .goto 4, 3, 0, 23), (22, .iconst 0, 1, 0, 0), (23, .ireturn, 1, 0, 0)]
theorem tkX4_settingAt : ∀ x ∈ tbX4_settingAt, tbB cX4_settingAt x = true := tb_all (by decide +kernel)
def fX4_settingAt_23 (c : Nat → Option Nat) (h : Hp) (s0 : Int32) : Rs := some (h, some (.inl s0))
set_option maxHeartbeats 4000000 in
set_option maxRecDepth 100000 in
theorem sX4_settingAt_23 (X : Cx) {h0 : Hp} (h : Hp) (s0 : Int32) : Gd X mX4_settingAt h0 (fX4_settingAt_23 X.2.2.2 h s0) h 23 [none, none] [.inl s0] := by
  unfold fX4_settingAt_23
  exact q_iret (tbm tkX4_settingAt (i := 13) rfl) rfl
def fX4_settingAt_22 (c : Nat → Option Nat) (h : Hp) : Rs := fX4_settingAt_23 c h (0 : Int32)
set_option maxHeartbeats 4000000 in
set_option maxRecDepth 100000 in
theorem sX4_settingAt_22 (X : Cx) {h0 : Hp} (h : Hp) : Gd X mX4_settingAt h0 (fX4_settingAt_22 X.2.2.2 h) h 22 [none, none] [] := by
  unfold fX4_settingAt_22
  refine q_run tkX4_settingAt 12 1 (pc' := 23) (L' := [none, none]) (st' := [.inl (0 : Int32)]) rfl ?_
  exact sX4_settingAt_23 X h (0 : Int32)
def fX4_settingAt (c : Nat → Option Nat) (h : Hp) (a0 : Option Nat) (a1 : Int32) : Rs := if a1 < 0 then (fX4_settingAt_22 c h) else (rdR h a0 6 10 (fun r1 => lenA h r1 (fun x2 => if a1 < x2 then (rdR h a0 6 10 (fun r3 => aldI h r3 [0, 10] a1 (fun x4 => fX4_settingAt_23 c h x4))) else (fX4_settingAt_22 c h))))
set_option maxHeartbeats 4000000 in
set_option maxRecDepth 100000 in
theorem soX4_settingAt (X : Cx) (h : Hp) (a0 : Option Nat) (a1 : Int32) : SO X mX4_settingAt [.inr (.inr a0), .inl a1] h (fX4_settingAt X.2.2.2 h a0 a1) := by
  refine so_of (by decide +kernel) (Nat.le_of_ble_eq_true rfl) ?_
  show Gd X mX4_settingAt h (fX4_settingAt X.2.2.2 h a0 a1) h 0 [some (.inr (.inr a0)), some (.inl a1)] []
  unfold fX4_settingAt
  refine q_run tkX4_settingAt 0 1 (pc' := 1) (L' := [some (.inr (.inr a0)), some (.inl a1)]) (st' := [.inl a1]) rfl ?_
  refine q_if_lt (tbm tkX4_settingAt (i := 1) rfl) ?_ ?_
  · refine q_le (L' := [none, none]) (lvLe_n (lvLe_n lvLe_0)) ?_
    exact sX4_settingAt_22 X h
  · refine q_run tkX4_settingAt 2 2 (pc' := 6) (L' := [some (.inr (.inr a0)), some (.inl a1)]) (st' := [.inr (.inr a0), .inl a1]) rfl ?_
    refine q_rdR RX4 TX4 13 (tbm tkX4_settingAt (i := 4) rfl) rfl (Nat.le_of_ble_eq_true rfl) wd_195 (fun r1 => ?_)
    refine q_alen (tbm tkX4_settingAt (i := 5) rfl) (fun x2 => ?_)
    refine q_icmp_ge (tbm tkX4_settingAt (i := 6) rfl) ?_ ?_
    · refine q_run tkX4_settingAt 7 1 (pc' := 14) (L' := [some (.inr (.inr a0)), some (.inl a1)]) (st' := [.inr (.inr a0)]) rfl ?_
      refine q_rdR RX4 TX4 13 (tbm tkX4_settingAt (i := 8) rfl) rfl (Nat.le_of_ble_eq_true rfl) wd_195 (fun r3 => ?_)
      refine q_run tkX4_settingAt 9 1 (pc' := 18) (L' := [some (.inr (.inr a0)), some (.inl a1)]) (st' := [.inl a1, .inr (.inr r3)]) rfl ?_
      refine q_iaload (tbm tkX4_settingAt (i := 10) rfl) (fun x4 => ?_)
      refine q_run tkX4_settingAt 11 1 (pc' := 23) (L' := [some (.inr (.inr a0)), some (.inl a1)]) (st' := [.inl x4]) rfl ?_
      refine q_le (L' := [none, none]) (lvLe_n (lvLe_n lvLe_0)) ?_
      exact sX4_settingAt_23 X h x4
    · refine q_le (L' := [none, none]) (lvLe_n (lvLe_n lvLe_0)) ?_
      exact sX4_settingAt_22 X h
theorem ceX4_settingAt : Ce mX4_settingAt 1 := ⟨wd_73, wd_354, by decide +kernel, by decide +kernel, by decide +kernel⟩
/-- ReceiptRolls$State.changeSetting -/
abbrev mX4_changeSetting : MI := (yX4_changeSetting, cX4_changeSetting, 4, some .int, 1)
def tbX4_changeSetting : List TE := [(0, .aload_n 0, 1, 0, 0), (1, .iload_n 1, 1, 0, 0), (2, .invokevirtual 64, 3, 0, 0), (5, .istore_n 3, 1, 0, 0), (6, .iload_n 1, 1, 0, 0), (7, .ifCond .lt 19, 3, 0, 26), (10, .iload_n 1, 1, 0, 0), (11, .aload_n 0, 1, 0, 0), (12, .getfield 18, 3, 0, 0), (15, .arraylength, 1, 0, 0), (16, .if_icmp .ge 10, 3, 0, 26), (19, .aload_n 0, 1, 0, 0), (20, .getfield 18, 3, 0, 0), (23, .iload_n 1, 1, 0, 0), (24, .iload_n 2, 1, 0, 0), (25, .iastore, 1, 0, 0), (26, .iload_n 3, 1, 0, 0), (27, .ireturn, 1, 0, 0)]
theorem tkX4_changeSetting : ∀ x ∈ tbX4_changeSetting, tbB cX4_changeSetting x = true := tb_all (by decide +kernel)
def fX4_changeSetting_26 (c : Nat → Option Nat) (h : Hp) (l3 : Int32) : Rs := some (h, some (.inl l3))
set_option maxHeartbeats 4000000 in
set_option maxRecDepth 100000 in
theorem sX4_changeSetting_26 (X : Cx) {h0 : Hp} (h : Hp) (l3 : Int32) : Gd X mX4_changeSetting h0 (fX4_changeSetting_26 X.2.2.2 h l3) h 26 [none, none, none, some (.inl l3)] [] := by
  unfold fX4_changeSetting_26
  refine q_run tkX4_changeSetting 16 1 (pc' := 27) (L' := [none, none, none, some (.inl l3)]) (st' := [.inl l3]) rfl ?_
  exact q_iret (tbm tkX4_changeSetting (i := 17) rfl) rfl
def fX4_changeSetting (c : Nat → Option Nat) (h : Hp) (a0 : Option Nat) (a1 : Int32) (a2 : Int32) : Rs := ck h a0 6 (cc (fX4_settingAt c h a0 a1) (kI fun h1 x2 => if a1 < 0 then (fX4_changeSetting_26 c h1 x2) else (rdR h1 a0 6 10 (fun r3 => lenA h1 r3 (fun x4 => if a1 < x4 then (rdR h1 a0 6 10 (fun r5 => astI h1 r5 [0] a1 a2 (fun h6 => fX4_changeSetting_26 c h6 x2))) else (fX4_changeSetting_26 c h1 x2))))))
set_option maxHeartbeats 4000000 in
set_option maxRecDepth 100000 in
theorem soX4_changeSetting (X : Cx) (h : Hp) (a0 : Option Nat) (a1 : Int32) (a2 : Int32) : SO X mX4_changeSetting [.inr (.inr a0), .inl a1, .inl a2] h (fX4_changeSetting X.2.2.2 h a0 a1 a2) := by
  refine so_of (by decide +kernel) (Nat.le_of_ble_eq_true rfl) ?_
  show Gd X mX4_changeSetting h (fX4_changeSetting X.2.2.2 h a0 a1 a2) h 0 [some (.inr (.inr a0)), some (.inl a1), some (.inl a2), none] []
  unfold fX4_changeSetting
  refine q_run tkX4_changeSetting 0 2 (pc' := 2) (L' := [some (.inr (.inr a0)), some (.inl a1), some (.inl a2), none]) (st' := [.inl a1, .inr (.inr a0)]) rfl ?_
  refine q_cv (r := a0) (ci := 6) (n := 1) (as := [.inl a1]) (st := []) TX4 13 (soX4_settingAt X h a0 a1) (tbm tkX4_changeSetting (i := 2) rfl) rfl rfl ceX4_settingAt wd_352 wd_353 wd_351 rfl (Nat.le_of_ble_eq_true rfl) (kI_gd (fun h1 x2 => ?_))
  refine q_run tkX4_changeSetting 3 2 (pc' := 7) (L' := [some (.inr (.inr a0)), some (.inl a1), some (.inl a2), some (.inl x2)]) (st' := [.inl a1]) rfl ?_
  refine q_if_lt (tbm tkX4_changeSetting (i := 5) rfl) ?_ ?_
  · refine q_le (L' := [none, none, none, some (.inl x2)]) (lvLe_n (lvLe_n (lvLe_n (lvLe_s lvLe_0)))) ?_
    exact sX4_changeSetting_26 X h1 x2
  · refine q_run tkX4_changeSetting 6 2 (pc' := 12) (L' := [some (.inr (.inr a0)), some (.inl a1), some (.inl a2), some (.inl x2)]) (st' := [.inr (.inr a0), .inl a1]) rfl ?_
    refine q_rdR RX4 TX4 13 (tbm tkX4_changeSetting (i := 8) rfl) rfl (Nat.le_of_ble_eq_true rfl) wd_195 (fun r3 => ?_)
    refine q_alen (tbm tkX4_changeSetting (i := 9) rfl) (fun x4 => ?_)
    refine q_icmp_ge (tbm tkX4_changeSetting (i := 10) rfl) ?_ ?_
    · refine q_run tkX4_changeSetting 11 1 (pc' := 20) (L' := [some (.inr (.inr a0)), some (.inl a1), some (.inl a2), some (.inl x2)]) (st' := [.inr (.inr a0)]) rfl ?_
      refine q_rdR RX4 TX4 13 (tbm tkX4_changeSetting (i := 12) rfl) rfl (Nat.le_of_ble_eq_true rfl) wd_195 (fun r5 => ?_)
      refine q_run tkX4_changeSetting 13 2 (pc' := 25) (L' := [some (.inr (.inr a0)), some (.inl a1), some (.inl a2), some (.inl x2)]) (st' := [.inl a2, .inl a1, .inr (.inr r5)]) rfl ?_
      refine q_iastore (tbm tkX4_changeSetting (i := 15) rfl) (fun h6 => ?_)
      refine q_le (L' := [none, none, none, some (.inl x2)]) (lvLe_n (lvLe_n (lvLe_n (lvLe_s lvLe_0)))) ?_
      exact sX4_changeSetting_26 X h6 x2
    · refine q_le (L' := [none, none, none, some (.inl x2)]) (lvLe_n (lvLe_n (lvLe_n (lvLe_s lvLe_0)))) ?_
      exact sX4_changeSetting_26 X h1 x2
theorem ceX4_changeSetting : Ce mX4_changeSetting 2 := ⟨wd_73, wd_350, by decide +kernel, by decide +kernel, by decide +kernel⟩
/-- ReceiptRolls$State.openAt -/
abbrev mX4_openAt : MI := (yX4_openAt, cX4_openAt, 2, some (.object "ReceiptRolls$Receipt"), 0)
def tbX4_openAt : List TE := [(0, .iload_n 1, 1, 0, 0), (1, .ifCond .lt 21, 3, 0, 22), (4, .iload_n 1, 1, 0, 0), (5, .aload_n 0, 1, 0, 0), (6, .getfield 24, 3, 0, 0), (9, .arraylength, 1, 0, 0), (10, .if_icmp .ge 12, 3, 0, 22), (13, .aload_n 0, 1, 0, 0), (14, .getfield 24, 3, 0, 0), (17, .iload_n 1, 1, 0, 0), (18, .aaload, 1, 0, 0), (19, .goto 4, 3, 0, 23), (22, .aconst_null, 1, 0, 0), (23, .areturn, 1, 0, 0)]
theorem tkX4_openAt : ∀ x ∈ tbX4_openAt, tbB cX4_openAt x = true := tb_all (by decide +kernel)
def fX4_openAt_23 (c : Nat → Option Nat) (h : Hp) (s0 : Option Nat) : Rs := some (h, some (.inr (.inr s0)))
set_option maxHeartbeats 4000000 in
set_option maxRecDepth 100000 in
theorem sX4_openAt_23 (X : Cx) {h0 : Hp} (h : Hp) (s0 : Option Nat) : Gd X mX4_openAt h0 (fX4_openAt_23 X.2.2.2 h s0) h 23 [none, none] [.inr (.inr s0)] := by
  unfold fX4_openAt_23
  exact q_aret (tbm tkX4_openAt (i := 13) rfl) rfl (Or.inl ⟨_, rfl⟩)
def fX4_openAt_22 (c : Nat → Option Nat) (h : Hp) : Rs := fX4_openAt_23 c h none
set_option maxHeartbeats 4000000 in
set_option maxRecDepth 100000 in
theorem sX4_openAt_22 (X : Cx) {h0 : Hp} (h : Hp) : Gd X mX4_openAt h0 (fX4_openAt_22 X.2.2.2 h) h 22 [none, none] [] := by
  unfold fX4_openAt_22
  refine q_run tkX4_openAt 12 1 (pc' := 23) (L' := [none, none]) (st' := [.inr (.inr none)]) rfl ?_
  exact sX4_openAt_23 X h none
def fX4_openAt (c : Nat → Option Nat) (h : Hp) (a0 : Option Nat) (a1 : Int32) : Rs := if a1 < 0 then (fX4_openAt_22 c h) else (rdR h a0 6 11 (fun r1 => lenA h r1 (fun x2 => if a1 < x2 then (rdR h a0 6 11 (fun r3 => aldR h r3 a1 (fun r4 => fX4_openAt_23 c h r4))) else (fX4_openAt_22 c h))))
set_option maxHeartbeats 4000000 in
set_option maxRecDepth 100000 in
theorem soX4_openAt (X : Cx) (h : Hp) (a0 : Option Nat) (a1 : Int32) : SO X mX4_openAt [.inr (.inr a0), .inl a1] h (fX4_openAt X.2.2.2 h a0 a1) := by
  refine so_of (by decide +kernel) (Nat.le_of_ble_eq_true rfl) ?_
  show Gd X mX4_openAt h (fX4_openAt X.2.2.2 h a0 a1) h 0 [some (.inr (.inr a0)), some (.inl a1)] []
  unfold fX4_openAt
  refine q_run tkX4_openAt 0 1 (pc' := 1) (L' := [some (.inr (.inr a0)), some (.inl a1)]) (st' := [.inl a1]) rfl ?_
  refine q_if_lt (tbm tkX4_openAt (i := 1) rfl) ?_ ?_
  · refine q_le (L' := [none, none]) (lvLe_n (lvLe_n lvLe_0)) ?_
    exact sX4_openAt_22 X h
  · refine q_run tkX4_openAt 2 2 (pc' := 6) (L' := [some (.inr (.inr a0)), some (.inl a1)]) (st' := [.inr (.inr a0), .inl a1]) rfl ?_
    refine q_rdR RX4 TX4 13 (tbm tkX4_openAt (i := 4) rfl) rfl (Nat.le_of_ble_eq_true rfl) wd_196 (fun r1 => ?_)
    refine q_alen (tbm tkX4_openAt (i := 5) rfl) (fun x2 => ?_)
    refine q_icmp_ge (tbm tkX4_openAt (i := 6) rfl) ?_ ?_
    · refine q_run tkX4_openAt 7 1 (pc' := 14) (L' := [some (.inr (.inr a0)), some (.inl a1)]) (st' := [.inr (.inr a0)]) rfl ?_
      refine q_rdR RX4 TX4 13 (tbm tkX4_openAt (i := 8) rfl) rfl (Nat.le_of_ble_eq_true rfl) wd_196 (fun r3 => ?_)
      refine q_run tkX4_openAt 9 1 (pc' := 18) (L' := [some (.inr (.inr a0)), some (.inl a1)]) (st' := [.inl a1, .inr (.inr r3)]) rfl ?_
      refine q_aaload (tbm tkX4_openAt (i := 10) rfl) (fun r4 => ?_)
      refine q_run tkX4_openAt 11 1 (pc' := 23) (L' := [some (.inr (.inr a0)), some (.inl a1)]) (st' := [.inr (.inr r4)]) rfl ?_
      refine q_le (L' := [none, none]) (lvLe_n (lvLe_n lvLe_0)) ?_
      exact sX4_openAt_23 X h r4
    · refine q_le (L' := [none, none]) (lvLe_n (lvLe_n lvLe_0)) ?_
      exact sX4_openAt_22 X h
theorem ceX4_openAt : Ce mX4_openAt 1 := ⟨wd_73, wd_362, by decide +kernel, by decide +kernel, by decide +kernel⟩
/-- ReceiptRolls$Item.init -/
abbrev mX1_init : MI := (yX1_init, cX1_init, 5, none, 1)
def tbX1_init : List TE := [(0, .aload_n 0, 1, 0, 0), (1, .invokespecial 1, 3, 0, 0), (4, .aload_n 0, 1, 0, 0), (5, .aload_n 1, 1, 0, 0), (6, .putfield 7, 3, 0, 0), (9, .aload_n 0, 1, 0, 0), (10, .iload_n 2, 1, 0, 0), (11, .putfield 13, 3, 0, 0), (14, .aload_n 0, 1, 0, 0), (15, .iload_n 3, 1, 0, 0), (16, .putfield 17, 3, 0, 0), (19, .aload_n 0, 1, 0, 0), (20, .iload 4, 2, 0, 0), (22, .putfield 20, 3, 0, 0), (25, .return_, 1, 0, 0)]
theorem tkX1_init : ∀ x ∈ tbX1_init, tbB cX1_init x = true := tb_all (by decide +kernel)
def fX1_init (c : Nat → Option Nat) (h : Hp) (a0 : Option Nat) (a1 : Option Nat) (a2 : Int32) (a3 : Int32) (a4 : Int32) : Rs := dn a0 (wr h a0 3 0 (.inr (.inr a1)) (fun h1 => wr h1 a0 3 1 (.inl a2) (fun h2 => wr h2 a0 3 2 (.inl a3) (fun h3 => wr h3 a0 3 3 (.inl a4) (fun h4 => some (h4, none))))))
set_option maxHeartbeats 4000000 in
set_option maxRecDepth 100000 in
theorem soX1_init (X : Cx) (h : Hp) (a0 : Option Nat) (a1 : Option Nat) (a2 : Int32) (a3 : Int32) (a4 : Int32) : SO X mX1_init [.inr (.inr a0), .inr (.inr a1), .inl a2, .inl a3, .inl a4] h (fX1_init X.2.2.2 h a0 a1 a2 a3 a4) := by
  refine so_of (by decide +kernel) (Nat.le_of_ble_eq_true rfl) ?_
  show Gd X mX1_init h (fX1_init X.2.2.2 h a0 a1 a2 a3 a4) h 0 [some (.inr (.inr a0)), some (.inr (.inr a1)), some (.inl a2), some (.inl a3), some (.inl a4)] []
  unfold fX1_init
  refine q_run tkX1_init 0 1 (pc' := 1) (L' := [some (.inr (.inr a0)), some (.inr (.inr a1)), some (.inl a2), some (.inl a3), some (.inl a4)]) (st' := [.inr (.inr a0)]) rfl ?_
  refine q_obj (tbm tkX1_init (i := 1) rfl) (Nat.le_of_ble_eq_true rfl) (Nat.le_of_ble_eq_true rfl) ⟨wd_487, wd_oi, wd_oc⟩ ?_
  refine q_run tkX1_init 2 2 (pc' := 6) (L' := [some (.inr (.inr a0)), some (.inr (.inr a1)), some (.inl a2), some (.inl a3), some (.inl a4)]) (st' := [.inr (.inr a1), .inr (.inr a0)]) rfl ?_
  refine q_wr RX1 TX1 4 (tbm tkX1_init (i := 4) rfl) rfl (Nat.le_of_ble_eq_true rfl) (Or.inr ⟨rfl, rfl⟩) wd_488 (fun h1 => ?_)
  refine q_run tkX1_init 5 2 (pc' := 11) (L' := [some (.inr (.inr a0)), some (.inr (.inr a1)), some (.inl a2), some (.inl a3), some (.inl a4)]) (st' := [.inl a2, .inr (.inr a0)]) rfl ?_
  refine q_wr RX1 TX1 4 (tbm tkX1_init (i := 7) rfl) rfl (Nat.le_of_ble_eq_true rfl) (Or.inr ⟨rfl, rfl⟩) wd_491 (fun h2 => ?_)
  refine q_run tkX1_init 8 2 (pc' := 16) (L' := [some (.inr (.inr a0)), some (.inr (.inr a1)), some (.inl a2), some (.inl a3), some (.inl a4)]) (st' := [.inl a3, .inr (.inr a0)]) rfl ?_
  refine q_wr RX1 TX1 4 (tbm tkX1_init (i := 10) rfl) rfl (Nat.le_of_ble_eq_true rfl) (Or.inr ⟨rfl, rfl⟩) wd_494 (fun h3 => ?_)
  refine q_run tkX1_init 11 2 (pc' := 22) (L' := [some (.inr (.inr a0)), some (.inr (.inr a1)), some (.inl a2), some (.inl a3), some (.inl a4)]) (st' := [.inl a4, .inr (.inr a0)]) rfl ?_
  refine q_wr RX1 TX1 4 (tbm tkX1_init (i := 13) rfl) rfl (Nat.le_of_ble_eq_true rfl) (Or.inr ⟨rfl, rfl⟩) wd_496 (fun h4 => ?_)
  exact q_vret (tbm tkX1_init (i := 14) rfl) rfl
theorem ceX1_init : Ce mX1_init 4 := ⟨wd_84, wd_486, by decide +kernel, by decide +kernel, by decide +kernel⟩
/-- ReceiptRolls$Receipt.addEvent -/
abbrev mX2_addEvent : MI := (yX2_addEvent, cX2_addEvent, 2, none, 0)
def tbX2_addEvent : List TE := [(0, .aload_n 0, 1, 0, 0), (1, .getfield 52, 3, 0, 0), (4, .ifCond .lt 35, 3, 0, 39), (7, .aload_n 0, 1, 0, 0), (8, .getfield 52, 3, 0, 0), (11, .aload_n 0, 1, 0, 0), (12, .getfield 17, 3, 0, 0), (15, .arraylength, 1, 0, 0), (16, .if_icmp .ge 23, 3, 0, 39), (19, .aload_n 0, 1, 0, 0), (20, .getfield 17, 3, 0, 0), (23, .aload_n 0, 1, 0, 0), (24, .getfield 52, 3, 0, 0), (27, .iload_n 1, 1, 0, 0), (28, .iastore, 1, 0, 0), (29, .aload_n 0, 1, 0, 0), (30, .dup, 1, 0, 0), (31, .getfield 52, 3, 0, 0), (34, .iconst 1, 1, 1, 0), (35, .iadd, 1, 0, 0), (36, .putfield 52, 3, 0, 0), (39, .return_, 1, 0, 0)]
theorem tkX2_addEvent : ∀ x ∈ tbX2_addEvent, tbB cX2_addEvent x = true := tb_all (by decide +kernel)
def fX2_addEvent_39 (c : Nat → Option Nat) (h : Hp) : Rs := some (h, none)
set_option maxHeartbeats 4000000 in
set_option maxRecDepth 100000 in
theorem sX2_addEvent_39 (X : Cx) {h0 : Hp} (h : Hp) : Gd X mX2_addEvent h0 (fX2_addEvent_39 X.2.2.2 h) h 39 [none, none] [] := by
  unfold fX2_addEvent_39
  exact q_vret (tbm tkX2_addEvent (i := 21) rfl) rfl
def fX2_addEvent (c : Nat → Option Nat) (h : Hp) (a0 : Option Nat) (a1 : Int32) : Rs := rdI h a0 4 10 (fun x1 => if x1 < 0 then (fX2_addEvent_39 c h) else (rdI h a0 4 10 (fun x2 => rdR h a0 4 13 (fun r3 => lenA h r3 (fun x4 => if x2 < x4 then (rdR h a0 4 13 (fun r5 => rdI h a0 4 10 (fun x6 => astI h r5 [0] x6 a1 (fun h7 => rdI h7 a0 4 10 (fun x8 => wr h7 a0 4 10 (.inl (x8 + (1 : Int32))) (fun h9 => fX2_addEvent_39 c h9)))))) else (fX2_addEvent_39 c h))))))
set_option maxHeartbeats 4000000 in
set_option maxRecDepth 100000 in
theorem soX2_addEvent (X : Cx) (h : Hp) (a0 : Option Nat) (a1 : Int32) : SO X mX2_addEvent [.inr (.inr a0), .inl a1] h (fX2_addEvent X.2.2.2 h a0 a1) := by
  refine so_of (by decide +kernel) (Nat.le_of_ble_eq_true rfl) ?_
  show Gd X mX2_addEvent h (fX2_addEvent X.2.2.2 h a0 a1) h 0 [some (.inr (.inr a0)), some (.inl a1)] []
  unfold fX2_addEvent
  refine q_run tkX2_addEvent 0 1 (pc' := 1) (L' := [some (.inr (.inr a0)), some (.inl a1)]) (st' := [.inr (.inr a0)]) rfl ?_
  refine q_rdI RX2 TX2 14 (tbm tkX2_addEvent (i := 1) rfl) rfl (Nat.le_of_ble_eq_true rfl) wd_139 (fun x1 => ?_)
  refine q_if_lt (tbm tkX2_addEvent (i := 2) rfl) ?_ ?_
  · refine q_le (L' := [none, none]) (lvLe_n (lvLe_n lvLe_0)) ?_
    exact sX2_addEvent_39 X h
  · refine q_run tkX2_addEvent 3 1 (pc' := 8) (L' := [some (.inr (.inr a0)), some (.inl a1)]) (st' := [.inr (.inr a0)]) rfl ?_
    refine q_rdI RX2 TX2 14 (tbm tkX2_addEvent (i := 4) rfl) rfl (Nat.le_of_ble_eq_true rfl) wd_139 (fun x2 => ?_)
    refine q_run tkX2_addEvent 5 1 (pc' := 12) (L' := [some (.inr (.inr a0)), some (.inl a1)]) (st' := [.inr (.inr a0), .inl x2]) rfl ?_
    refine q_rdR RX2 TX2 14 (tbm tkX2_addEvent (i := 6) rfl) rfl (Nat.le_of_ble_eq_true rfl) wd_143 (fun r3 => ?_)
    refine q_alen (tbm tkX2_addEvent (i := 7) rfl) (fun x4 => ?_)
    refine q_icmp_ge (tbm tkX2_addEvent (i := 8) rfl) ?_ ?_
    · refine q_run tkX2_addEvent 9 1 (pc' := 20) (L' := [some (.inr (.inr a0)), some (.inl a1)]) (st' := [.inr (.inr a0)]) rfl ?_
      refine q_rdR RX2 TX2 14 (tbm tkX2_addEvent (i := 10) rfl) rfl (Nat.le_of_ble_eq_true rfl) wd_143 (fun r5 => ?_)
      refine q_run tkX2_addEvent 11 1 (pc' := 24) (L' := [some (.inr (.inr a0)), some (.inl a1)]) (st' := [.inr (.inr a0), .inr (.inr r5)]) rfl ?_
      refine q_rdI RX2 TX2 14 (tbm tkX2_addEvent (i := 12) rfl) rfl (Nat.le_of_ble_eq_true rfl) wd_139 (fun x6 => ?_)
      refine q_run tkX2_addEvent 13 1 (pc' := 28) (L' := [some (.inr (.inr a0)), some (.inl a1)]) (st' := [.inl a1, .inl x6, .inr (.inr r5)]) rfl ?_
      refine q_iastore (tbm tkX2_addEvent (i := 14) rfl) (fun h7 => ?_)
      refine q_run tkX2_addEvent 15 2 (pc' := 31) (L' := [some (.inr (.inr a0)), some (.inl a1)]) (st' := [.inr (.inr a0), .inr (.inr a0)]) rfl ?_
      refine q_rdI RX2 TX2 14 (tbm tkX2_addEvent (i := 17) rfl) rfl (Nat.le_of_ble_eq_true rfl) wd_139 (fun x8 => ?_)
      refine q_run tkX2_addEvent 18 2 (pc' := 36) (L' := [some (.inr (.inr a0)), some (.inl a1)]) (st' := [.inl (x8 + (1 : Int32)), .inr (.inr a0)]) rfl ?_
      refine q_wr RX2 TX2 14 (tbm tkX2_addEvent (i := 20) rfl) rfl (Nat.le_of_ble_eq_true rfl) (Or.inl rfl) wd_139 (fun h9 => ?_)
      refine q_le (L' := [none, none]) (lvLe_n (lvLe_n lvLe_0)) ?_
      exact sX2_addEvent_39 X h9
    · refine q_le (L' := [none, none]) (lvLe_n (lvLe_n lvLe_0)) ?_
      exact sX2_addEvent_39 X h
theorem ceX2_addEvent : Ce mX2_addEvent 1 := ⟨wd_74, wd_515, by decide +kernel, by decide +kernel, by decide +kernel⟩
/-- ReceiptRolls$Receipt.addItem -/
abbrev mX2_addItem : MI := (yX2_addItem, cX2_addItem, 2, none, 1)
def tbX2_addItem : List TE := [(0, .aload_n 0, 1, 0, 0), (1, .getfield 49, 3, 0, 0), (4, .ifCond .lt 43, 3, 0, 47), (7, .aload_n 0, 1, 0, 0), (8, .getfield 49, 3, 0, 0), (11, .aload_n 0, 1, 0, 0), (12, .getfield 11, 3, 0, 0), (15, .arraylength, 1, 0, 0), (16, .if_icmp .ge 31, 3, 0, 47), (19, .aload_n 0, 1, 0, 0), (20, .getfield 11, 3, 0, 0), (23, .aload_n 0, 1, 0, 0), (24, .getfield 49, 3, 0, 0), (27, .aload_n 1, 1, 0, 0), (28, .aastore, 1, 0, 0), (29, .aload_n 0, 1, 0, 0), (30, .aload_n 0, 1, 0, 0), (31, .getfield 49, 3, 0, 0), (34, .invokevirtual 64, 3, 0, 0), (37, .aload_n 0, 1, 0, 0), (38, .dup, 1, 0, 0), (39, .getfield 49, 3, 0, 0), (42, .iconst 1, 1, 1, 0), (43, .iadd, 1, 0, 0), (44, .putfield 49, 3, 0, 0), (47, .return_, 1, 0, 0)]
theorem tkX2_addItem : ∀ x ∈ tbX2_addItem, tbB cX2_addItem x = true := tb_all (by decide +kernel)
def fX2_addItem_47 (c : Nat → Option Nat) (h : Hp) : Rs := some (h, none)
set_option maxHeartbeats 4000000 in
set_option maxRecDepth 100000 in
theorem sX2_addItem_47 (X : Cx) {h0 : Hp} (h : Hp) : Gd X mX2_addItem h0 (fX2_addItem_47 X.2.2.2 h) h 47 [none, none] [] := by
  unfold fX2_addItem_47
  exact q_vret (tbm tkX2_addItem (i := 25) rfl) rfl
def fX2_addItem (c : Nat → Option Nat) (h : Hp) (a0 : Option Nat) (a1 : Option Nat) : Rs := rdI h a0 4 9 (fun x1 => if x1 < 0 then (fX2_addItem_47 c h) else (rdI h a0 4 9 (fun x2 => rdR h a0 4 12 (fun r3 => lenA h r3 (fun x4 => if x2 < x4 then (rdR h a0 4 12 (fun r5 => rdI h a0 4 9 (fun x6 => astR h r5 x6 a1 (fun h7 => rdI h7 a0 4 9 (fun x8 => ck h7 a0 4 (cc (fX2_addEvent c h7 a0 x8) (kV fun h9 => rdI h9 a0 4 9 (fun x10 => wr h9 a0 4 9 (.inl (x10 + (1 : Int32))) (fun h11 => fX2_addItem_47 c h11))))))))) else (fX2_addItem_47 c h))))))
set_option maxHeartbeats 4000000 in
set_option maxRecDepth 100000 in
theorem soX2_addItem (X : Cx) (h : Hp) (a0 : Option Nat) (a1 : Option Nat) : SO X mX2_addItem [.inr (.inr a0), .inr (.inr a1)] h (fX2_addItem X.2.2.2 h a0 a1) := by
  refine so_of (by decide +kernel) (Nat.le_of_ble_eq_true rfl) ?_
  show Gd X mX2_addItem h (fX2_addItem X.2.2.2 h a0 a1) h 0 [some (.inr (.inr a0)), some (.inr (.inr a1))] []
  unfold fX2_addItem
  refine q_run tkX2_addItem 0 1 (pc' := 1) (L' := [some (.inr (.inr a0)), some (.inr (.inr a1))]) (st' := [.inr (.inr a0)]) rfl ?_
  refine q_rdI RX2 TX2 14 (tbm tkX2_addItem (i := 1) rfl) rfl (Nat.le_of_ble_eq_true rfl) wd_136 (fun x1 => ?_)
  refine q_if_lt (tbm tkX2_addItem (i := 2) rfl) ?_ ?_
  · refine q_le (L' := [none, none]) (lvLe_n (lvLe_n lvLe_0)) ?_
    exact sX2_addItem_47 X h
  · refine q_run tkX2_addItem 3 1 (pc' := 8) (L' := [some (.inr (.inr a0)), some (.inr (.inr a1))]) (st' := [.inr (.inr a0)]) rfl ?_
    refine q_rdI RX2 TX2 14 (tbm tkX2_addItem (i := 4) rfl) rfl (Nat.le_of_ble_eq_true rfl) wd_136 (fun x2 => ?_)
    refine q_run tkX2_addItem 5 1 (pc' := 12) (L' := [some (.inr (.inr a0)), some (.inr (.inr a1))]) (st' := [.inr (.inr a0), .inl x2]) rfl ?_
    refine q_rdR RX2 TX2 14 (tbm tkX2_addItem (i := 6) rfl) rfl (Nat.le_of_ble_eq_true rfl) wd_142 (fun r3 => ?_)
    refine q_alen (tbm tkX2_addItem (i := 7) rfl) (fun x4 => ?_)
    refine q_icmp_ge (tbm tkX2_addItem (i := 8) rfl) ?_ ?_
    · refine q_run tkX2_addItem 9 1 (pc' := 20) (L' := [some (.inr (.inr a0)), some (.inr (.inr a1))]) (st' := [.inr (.inr a0)]) rfl ?_
      refine q_rdR RX2 TX2 14 (tbm tkX2_addItem (i := 10) rfl) rfl (Nat.le_of_ble_eq_true rfl) wd_142 (fun r5 => ?_)
      refine q_run tkX2_addItem 11 1 (pc' := 24) (L' := [some (.inr (.inr a0)), some (.inr (.inr a1))]) (st' := [.inr (.inr a0), .inr (.inr r5)]) rfl ?_
      refine q_rdI RX2 TX2 14 (tbm tkX2_addItem (i := 12) rfl) rfl (Nat.le_of_ble_eq_true rfl) wd_136 (fun x6 => ?_)
      refine q_run tkX2_addItem 13 1 (pc' := 28) (L' := [some (.inr (.inr a0)), some (.inr (.inr a1))]) (st' := [.inr (.inr a1), .inl x6, .inr (.inr r5)]) rfl ?_
      refine q_aastore (tbm tkX2_addItem (i := 14) rfl) (fun h7 => ?_)
      refine q_run tkX2_addItem 15 2 (pc' := 31) (L' := [some (.inr (.inr a0)), some (.inr (.inr a1))]) (st' := [.inr (.inr a0), .inr (.inr a0)]) rfl ?_
      refine q_rdI RX2 TX2 14 (tbm tkX2_addItem (i := 17) rfl) rfl (Nat.le_of_ble_eq_true rfl) wd_136 (fun x8 => ?_)
      refine q_cv (r := a0) (ci := 4) (n := 1) (as := [.inl x8]) (st := []) TX2 14 (soX2_addEvent X h7 a0 x8) (tbm tkX2_addItem (i := 18) rfl) rfl rfl ceX2_addEvent wd_514 wd_2 wd_512 rfl (Nat.le_of_ble_eq_true rfl) (kV_gd (fun h9 => ?_))
      refine q_run tkX2_addItem 19 2 (pc' := 39) (L' := [some (.inr (.inr a0)), some (.inr (.inr a1))]) (st' := [.inr (.inr a0), .inr (.inr a0)]) rfl ?_
      refine q_rdI RX2 TX2 14 (tbm tkX2_addItem (i := 21) rfl) rfl (Nat.le_of_ble_eq_true rfl) wd_136 (fun x10 => ?_)
      refine q_run tkX2_addItem 22 2 (pc' := 44) (L' := [some (.inr (.inr a0)), some (.inr (.inr a1))]) (st' := [.inl (x10 + (1 : Int32)), .inr (.inr a0)]) rfl ?_
      refine q_wr RX2 TX2 14 (tbm tkX2_addItem (i := 24) rfl) rfl (Nat.le_of_ble_eq_true rfl) (Or.inl rfl) wd_136 (fun h11 => ?_)
      refine q_le (L' := [none, none]) (lvLe_n (lvLe_n lvLe_0)) ?_
      exact sX2_addItem_47 X h11
    · refine q_le (L' := [none, none]) (lvLe_n (lvLe_n lvLe_0)) ?_
      exact sX2_addItem_47 X h
theorem ceX2_addItem : Ce mX2_addItem 1 := ⟨wd_74, wd_511, by decide +kernel, by decide +kernel, by decide +kernel⟩
/-- ReceiptRolls$Receipt.itemAt -/
abbrev mX2_itemAt : MI := (yX2_itemAt, cX2_itemAt, 2, some (.object "ReceiptRolls$Item"), 0)
def tbX2_itemAt : List TE := [(0, .iload_n 1, 1, 0, 0), (1, .ifCond .lt 29, 3, 0, 30), (4, .iload_n 1, 1, 0, 0), (5, .aload_n 0, 1, 0, 0), (6, .getfield 49, 3, 0, 0), (9, .if_icmp .ge 21, 3, 0, 30), (12, .iload_n 1, 1, 0, 0), (13, .aload_n 0, 1, 0, 0), (14, .getfield 11, 3, 0, 0), (17, .arraylength, 1, 0, 0), (18, .if_icmp .ge 12, 3, 0, 30), (21, .aload_n 0, 1, 0, 0), (22, .getfield 11, 3, 0, 0), (25, .iload_n 1, 1, 0, 0), (26, .aaload, 1, 0, 0), (27, .goto 4, 3, 0, 31), (30, .aconst_null, 1, 0, 0), (31, .areturn, 1, 0, 0)]
theorem tkX2_itemAt : ∀ x ∈ tbX2_itemAt, tbB cX2_itemAt x = true := tb_all (by decide +kernel)
def fX2_itemAt_31 (c : Nat → Option Nat) (h : Hp) (s0 : Option Nat) : Rs := some (h, some (.inr (.inr s0)))
set_option maxHeartbeats 4000000 in
set_option maxRecDepth 100000 in
theorem sX2_itemAt_31 (X : Cx) {h0 : Hp} (h : Hp) (s0 : Option Nat) : Gd X mX2_itemAt h0 (fX2_itemAt_31 X.2.2.2 h s0) h 31 [none, none] [.inr (.inr s0)] := by
  unfold fX2_itemAt_31
  exact q_aret (tbm tkX2_itemAt (i := 17) rfl) rfl (Or.inl ⟨_, rfl⟩)
def fX2_itemAt_30 (c : Nat → Option Nat) (h : Hp) : Rs := fX2_itemAt_31 c h none
set_option maxHeartbeats 4000000 in
set_option maxRecDepth 100000 in
theorem sX2_itemAt_30 (X : Cx) {h0 : Hp} (h : Hp) : Gd X mX2_itemAt h0 (fX2_itemAt_30 X.2.2.2 h) h 30 [none, none] [] := by
  unfold fX2_itemAt_30
  refine q_run tkX2_itemAt 16 1 (pc' := 31) (L' := [none, none]) (st' := [.inr (.inr none)]) rfl ?_
  exact sX2_itemAt_31 X h none
def fX2_itemAt (c : Nat → Option Nat) (h : Hp) (a0 : Option Nat) (a1 : Int32) : Rs := if a1 < 0 then (fX2_itemAt_30 c h) else (rdI h a0 4 9 (fun x1 => if a1 < x1 then (rdR h a0 4 12 (fun r2 => lenA h r2 (fun x3 => if a1 < x3 then (rdR h a0 4 12 (fun r4 => aldR h r4 a1 (fun r5 => fX2_itemAt_31 c h r5))) else (fX2_itemAt_30 c h)))) else (fX2_itemAt_30 c h)))
set_option maxHeartbeats 4000000 in
set_option maxRecDepth 100000 in
theorem soX2_itemAt (X : Cx) (h : Hp) (a0 : Option Nat) (a1 : Int32) : SO X mX2_itemAt [.inr (.inr a0), .inl a1] h (fX2_itemAt X.2.2.2 h a0 a1) := by
  refine so_of (by decide +kernel) (Nat.le_of_ble_eq_true rfl) ?_
  show Gd X mX2_itemAt h (fX2_itemAt X.2.2.2 h a0 a1) h 0 [some (.inr (.inr a0)), some (.inl a1)] []
  unfold fX2_itemAt
  refine q_run tkX2_itemAt 0 1 (pc' := 1) (L' := [some (.inr (.inr a0)), some (.inl a1)]) (st' := [.inl a1]) rfl ?_
  refine q_if_lt (tbm tkX2_itemAt (i := 1) rfl) ?_ ?_
  · refine q_le (L' := [none, none]) (lvLe_n (lvLe_n lvLe_0)) ?_
    exact sX2_itemAt_30 X h
  · refine q_run tkX2_itemAt 2 2 (pc' := 6) (L' := [some (.inr (.inr a0)), some (.inl a1)]) (st' := [.inr (.inr a0), .inl a1]) rfl ?_
    refine q_rdI RX2 TX2 14 (tbm tkX2_itemAt (i := 4) rfl) rfl (Nat.le_of_ble_eq_true rfl) wd_136 (fun x1 => ?_)
    refine q_icmp_ge (tbm tkX2_itemAt (i := 5) rfl) ?_ ?_
    · refine q_run tkX2_itemAt 6 2 (pc' := 14) (L' := [some (.inr (.inr a0)), some (.inl a1)]) (st' := [.inr (.inr a0), .inl a1]) rfl ?_
      refine q_rdR RX2 TX2 14 (tbm tkX2_itemAt (i := 8) rfl) rfl (Nat.le_of_ble_eq_true rfl) wd_142 (fun r2 => ?_)
      refine q_alen (tbm tkX2_itemAt (i := 9) rfl) (fun x3 => ?_)
      refine q_icmp_ge (tbm tkX2_itemAt (i := 10) rfl) ?_ ?_
      · refine q_run tkX2_itemAt 11 1 (pc' := 22) (L' := [some (.inr (.inr a0)), some (.inl a1)]) (st' := [.inr (.inr a0)]) rfl ?_
        refine q_rdR RX2 TX2 14 (tbm tkX2_itemAt (i := 12) rfl) rfl (Nat.le_of_ble_eq_true rfl) wd_142 (fun r4 => ?_)
        refine q_run tkX2_itemAt 13 1 (pc' := 26) (L' := [some (.inr (.inr a0)), some (.inl a1)]) (st' := [.inl a1, .inr (.inr r4)]) rfl ?_
        refine q_aaload (tbm tkX2_itemAt (i := 14) rfl) (fun r5 => ?_)
        refine q_run tkX2_itemAt 15 1 (pc' := 31) (L' := [some (.inr (.inr a0)), some (.inl a1)]) (st' := [.inr (.inr r5)]) rfl ?_
        refine q_le (L' := [none, none]) (lvLe_n (lvLe_n lvLe_0)) ?_
        exact sX2_itemAt_31 X h r5
      · refine q_le (L' := [none, none]) (lvLe_n (lvLe_n lvLe_0)) ?_
        exact sX2_itemAt_30 X h
    · refine q_le (L' := [none, none]) (lvLe_n (lvLe_n lvLe_0)) ?_
      exact sX2_itemAt_30 X h
theorem ceX2_itemAt : Ce mX2_itemAt 1 := ⟨wd_74, wd_566, by decide +kernel, by decide +kernel, by decide +kernel⟩
/-- ReceiptRolls$Receipt.isStruck -/
abbrev mX2_isStruck : MI := (yX2_isStruck, cX2_isStruck, 2, some .boolean, 0)
def tbX2_isStruck : List TE := [(0, .aload_n 0, 1, 0, 0), (1, .getfield 55, 3, 0, 0), (4, .iload_n 1, 1, 0, 0), (5, .ishr, 1, 0, 0), (6, .iconst 1, 1, 1, 0), (7, .iand, 1, 0, 0), (8, .iconst 1, 1, 1, 0), (9, .if_icmp .ne 7, 3, 0, 16), (12, .iconst 1, 1, 1, 0), (13, .goto 4, 3, 0, 17), (16, .iconst 0, 1, 0, 0), (17, .ireturn, 1, 0, 0)]
theorem tkX2_isStruck : ∀ x ∈ tbX2_isStruck, tbB cX2_isStruck x = true := tb_all (by decide +kernel)
def fX2_isStruck_17 (c : Nat → Option Nat) (h : Hp) (s0 : Int32) : Rs := rtI .boolean h s0
set_option maxHeartbeats 4000000 in
set_option maxRecDepth 100000 in
theorem sX2_isStruck_17 (X : Cx) {h0 : Hp} (h : Hp) (s0 : Int32) : Gd X mX2_isStruck h0 (fX2_isStruck_17 X.2.2.2 h s0) h 17 [none, none] [.inl s0] := by
  unfold fX2_isStruck_17
  exact q_zret (tbm tkX2_isStruck (i := 11) rfl) rfl
def fX2_isStruck (c : Nat → Option Nat) (h : Hp) (a0 : Option Nat) (a1 : Int32) : Rs := rdI h a0 4 11 (fun x1 => if ((shrI x1 a1) &&& (1 : Int32)) = (1 : Int32) then (fX2_isStruck_17 c h (1 : Int32)) else (fX2_isStruck_17 c h (0 : Int32)))
set_option maxHeartbeats 4000000 in
set_option maxRecDepth 100000 in
theorem soX2_isStruck (X : Cx) (h : Hp) (a0 : Option Nat) (a1 : Int32) : SO X mX2_isStruck [.inr (.inr a0), .inl a1] h (fX2_isStruck X.2.2.2 h a0 a1) := by
  refine so_of (by decide +kernel) (Nat.le_of_ble_eq_true rfl) ?_
  show Gd X mX2_isStruck h (fX2_isStruck X.2.2.2 h a0 a1) h 0 [some (.inr (.inr a0)), some (.inl a1)] []
  unfold fX2_isStruck
  refine q_run tkX2_isStruck 0 1 (pc' := 1) (L' := [some (.inr (.inr a0)), some (.inl a1)]) (st' := [.inr (.inr a0)]) rfl ?_
  refine q_rdI RX2 TX2 14 (tbm tkX2_isStruck (i := 1) rfl) rfl (Nat.le_of_ble_eq_true rfl) wd_140 (fun x1 => ?_)
  refine q_run tkX2_isStruck 2 5 (pc' := 9) (L' := [some (.inr (.inr a0)), some (.inl a1)]) (st' := [.inl (1 : Int32), .inl ((shrI x1 a1) &&& (1 : Int32))]) rfl ?_
  refine q_icmp_ne (tbm tkX2_isStruck (i := 7) rfl) ?_ ?_
  · refine q_run tkX2_isStruck 8 2 (pc' := 17) (L' := [some (.inr (.inr a0)), some (.inl a1)]) (st' := [.inl (1 : Int32)]) rfl ?_
    refine q_le (L' := [none, none]) (lvLe_n (lvLe_n lvLe_0)) ?_
    exact sX2_isStruck_17 X h (1 : Int32)
  · refine q_run tkX2_isStruck 10 1 (pc' := 17) (L' := [some (.inr (.inr a0)), some (.inl a1)]) (st' := [.inl (0 : Int32)]) rfl ?_
    refine q_le (L' := [none, none]) (lvLe_n (lvLe_n lvLe_0)) ?_
    exact sX2_isStruck_17 X h (0 : Int32)
theorem ceX2_isStruck : Ce mX2_isStruck 1 := ⟨wd_74, wd_570, by decide +kernel, by decide +kernel, by decide +kernel⟩
/-- ReceiptRolls$Receipt.strikeItem -/
abbrev mX2_strikeItem : MI := (yX2_strikeItem, cX2_strikeItem, 2, none, 1)
def tbX2_strikeItem : List TE := [(0, .aload_n 0, 1, 0, 0), (1, .dup, 1, 0, 0), (2, .getfield 55, 3, 0, 0), (5, .iconst 1, 1, 1, 0), (6, .iload_n 1, 1, 0, 0), (7, .ishl, 1, 0, 0), (8, .ior, 1, 0, 0), (9, .putfield 55, 3, 0, 0), (12, .aload_n 0, 1, 0, 0), (13, .bipush 12, 2, 12, 0), (15, .iload_n 1, 1, 0, 0), (16, .iadd, 1, 0, 0), (17, .invokevirtual 64, 3, 0, 0), (20, .return_, 1, 0, 0)]
theorem tkX2_strikeItem : ∀ x ∈ tbX2_strikeItem, tbB cX2_strikeItem x = true := tb_all (by decide +kernel)
def fX2_strikeItem (c : Nat → Option Nat) (h : Hp) (a0 : Option Nat) (a1 : Int32) : Rs := rdI h a0 4 11 (fun x1 => wr h a0 4 11 (.inl (x1 ||| (shlI (1 : Int32) a1))) (fun h2 => ck h2 a0 4 (cc (fX2_addEvent c h2 a0 ((12 : Int32) + a1)) (kV fun h3 => some (h3, none)))))
set_option maxHeartbeats 4000000 in
set_option maxRecDepth 100000 in
theorem soX2_strikeItem (X : Cx) (h : Hp) (a0 : Option Nat) (a1 : Int32) : SO X mX2_strikeItem [.inr (.inr a0), .inl a1] h (fX2_strikeItem X.2.2.2 h a0 a1) := by
  refine so_of (by decide +kernel) (Nat.le_of_ble_eq_true rfl) ?_
  show Gd X mX2_strikeItem h (fX2_strikeItem X.2.2.2 h a0 a1) h 0 [some (.inr (.inr a0)), some (.inl a1)] []
  unfold fX2_strikeItem
  refine q_run tkX2_strikeItem 0 2 (pc' := 2) (L' := [some (.inr (.inr a0)), some (.inl a1)]) (st' := [.inr (.inr a0), .inr (.inr a0)]) rfl ?_
  refine q_rdI RX2 TX2 14 (tbm tkX2_strikeItem (i := 2) rfl) rfl (Nat.le_of_ble_eq_true rfl) wd_140 (fun x1 => ?_)
  refine q_run tkX2_strikeItem 3 4 (pc' := 9) (L' := [some (.inr (.inr a0)), some (.inl a1)]) (st' := [.inl (x1 ||| (shlI (1 : Int32) a1)), .inr (.inr a0)]) rfl ?_
  refine q_wr RX2 TX2 14 (tbm tkX2_strikeItem (i := 7) rfl) rfl (Nat.le_of_ble_eq_true rfl) (Or.inl rfl) wd_140 (fun h2 => ?_)
  refine q_run tkX2_strikeItem 8 4 (pc' := 17) (L' := [some (.inr (.inr a0)), some (.inl a1)]) (st' := [.inl ((12 : Int32) + a1), .inr (.inr a0)]) rfl ?_
  refine q_cv (r := a0) (ci := 4) (n := 1) (as := [.inl ((12 : Int32) + a1)]) (st := []) TX2 14 (soX2_addEvent X h2 a0 ((12 : Int32) + a1)) (tbm tkX2_strikeItem (i := 12) rfl) rfl rfl ceX2_addEvent wd_514 wd_2 wd_512 rfl (Nat.le_of_ble_eq_true rfl) (kV_gd (fun h3 => ?_))
  exact q_vret (tbm tkX2_strikeItem (i := 13) rfl) rfl
theorem ceX2_strikeItem : Ce mX2_strikeItem 1 := ⟨wd_74, wd_574, by decide +kernel, by decide +kernel, by decide +kernel⟩
/-- ReceiptRolls$Item.sum -/
abbrev mX1_sum : MI := (yX1_sum, cX1_sum, 1, some .int, 0)
def tbX1_sum : List TE := [(0, .aload_n 0, 1, 0, 0), (1, .getfield 13, 3, 0, 0), (4, .aload_n 0, 1, 0, 0), (5, .getfield 17, 3, 0, 0), (8, .imul, 1, 0, 0), (9, .ireturn, 1, 0, 0)]
theorem tkX1_sum : ∀ x ∈ tbX1_sum, tbB cX1_sum x = true := tb_all (by decide +kernel)
def fX1_sum (c : Nat → Option Nat) (h : Hp) (a0 : Option Nat) : Rs := rdI h a0 3 1 (fun x1 => rdI h a0 3 2 (fun x2 => some (h, some (.inl (x1 * x2)))))
set_option maxHeartbeats 4000000 in
set_option maxRecDepth 100000 in
theorem soX1_sum (X : Cx) (h : Hp) (a0 : Option Nat) : SO X mX1_sum [.inr (.inr a0)] h (fX1_sum X.2.2.2 h a0) := by
  refine so_of (by decide +kernel) (Nat.le_of_ble_eq_true rfl) ?_
  show Gd X mX1_sum h (fX1_sum X.2.2.2 h a0) h 0 [some (.inr (.inr a0))] []
  unfold fX1_sum
  refine q_run tkX1_sum 0 1 (pc' := 1) (L' := [some (.inr (.inr a0))]) (st' := [.inr (.inr a0)]) rfl ?_
  refine q_rdI RX1 TX1 4 (tbm tkX1_sum (i := 1) rfl) rfl (Nat.le_of_ble_eq_true rfl) wd_491 (fun x1 => ?_)
  refine q_run tkX1_sum 2 1 (pc' := 5) (L' := [some (.inr (.inr a0))]) (st' := [.inr (.inr a0), .inl x1]) rfl ?_
  refine q_rdI RX1 TX1 4 (tbm tkX1_sum (i := 3) rfl) rfl (Nat.le_of_ble_eq_true rfl) wd_494 (fun x2 => ?_)
  refine q_run tkX1_sum 4 1 (pc' := 9) (L' := [some (.inr (.inr a0))]) (st' := [.inl (x1 * x2)]) rfl ?_
  exact q_iret (tbm tkX1_sum (i := 5) rfl) rfl
theorem ceX1_sum : Ce mX1_sum 0 := ⟨wd_84, wd_578, by decide +kernel, by decide +kernel, by decide +kernel⟩
/-- ReceiptRolls$State.freePlace -/
abbrev mX4_freePlace : MI := (yX4_freePlace, cX4_freePlace, 2, some (.object "ReceiptRolls$Receipt"), 0)
def tbX4_freePlace : List TE := [(0, .iconst 0, 1, 0, 0), (1, .istore_n 1, 1, 0, 0), (2, .iload_n 1, 1, 0, 0), (3, .aload_n 0, 1, 0, 0), (4, .getfield 28, 3, 0, 0), (7, .arraylength, 1, 0, 0), (8, .if_icmp .ge 37, 3, 0, 45), (11, .aload_n 0, 1, 0, 0), (12, .getfield 28, 3, 0, 0), (15, .iload_n 1, 1, 0, 0), (16, .aaload, 1, 0, 0), (17, .ifnull 22, 3, 0, 39), (20, .aload_n 0, 1, 0, 0), (21, .getfield 28, 3, 0, 0), (24, .iload_n 1, 1, 0, 0), (25, .aaload, 1, 0, 0), (26, .getfield 68, 3, 0, 0), (29, .ifCond .ne 10, 3, 0, 39), (32, .aload_n 0, 1, 0, 0), (33, .getfield 28, 3, 0, 0), (36, .iload_n 1, 1, 0, 0), (37, .aaload, 1, 0, 0), (38, .areturn, 1, 0, 0), (39, .iinc 1 1, 3, 1, 0), (42, .goto (-40), 3, 0, 2), (45, .aconst_null, 1, 0, 0), (46, .areturn, 1, 0, 0)]
theorem tkX4_freePlace : ∀ x ∈ tbX4_freePlace, tbB cX4_freePlace x = true := tb_all (by decide +kernel)
def fX4_freePlace_39 (c : Nat → Option Nat) (k2 : Hp → Option Nat → Int32 → Rs) (h : Hp) (l0 : Option Nat) (l1 : Int32) : Rs := k2 h l0 (l1 + (1 : Int32))
set_option maxHeartbeats 4000000 in
set_option maxRecDepth 100000 in
theorem sX4_freePlace_39 (X : Cx) {h0 : Hp} (k2 : Hp → Option Nat → Int32 → Rs) (hk2 : ∀ (h : Hp) (l0 : Option Nat) (l1 : Int32), Gd X mX4_freePlace h0 (k2 h l0 l1) h 2 [some (.inr (.inr l0)), some (.inl l1)] []) (h : Hp) (l0 : Option Nat) (l1 : Int32) : Gd X mX4_freePlace h0 (fX4_freePlace_39 X.2.2.2 k2 h l0 l1) h 39 [some (.inr (.inr l0)), some (.inl l1)] [] := by
  unfold fX4_freePlace_39
  refine q_run tkX4_freePlace 23 2 (pc' := 2) (L' := [some (.inr (.inr l0)), some (.inl (l1 + (1 : Int32)))]) (st' := []) rfl ?_
  exact hk2 h l0 (l1 + (1 : Int32))
def fX4_freePlace_2 (c : Nat → Option Nat) : Nat → Hp → Option Nat → Int32 → Rs
  | 0, _, _, _ => none
  | n + 1, h, l0, l1 => rdR h l0 6 12 (fun r1 => lenA h r1 (fun x2 => if l1 < x2 then (rdR h l0 6 12 (fun r3 => aldR h r3 l1 (fun r4 => ifN r4 (fX4_freePlace_39 c (fX4_freePlace_2 c n) h l0 l1) (rdR h l0 6 12 (fun r5 => aldR h r5 l1 (fun r6 => rdI h r6 4 0 (fun x7 => if x7 = 0 then (rdR h l0 6 12 (fun r8 => aldR h r8 l1 (fun r9 => some (h, some (.inr (.inr r9)))))) else (fX4_freePlace_39 c (fX4_freePlace_2 c n) h l0 l1)))))))) else (some (h, some (.inr (.inr none))))))
set_option maxHeartbeats 4000000 in
set_option maxRecDepth 100000 in
theorem sX4_freePlace_2 (X : Cx) {h0 : Hp} : ∀ (n : Nat) (h : Hp) (l0 : Option Nat) (l1 : Int32), Gd X mX4_freePlace h0 (fX4_freePlace_2 X.2.2.2 n h l0 l1) h 2 [some (.inr (.inr l0)), some (.inl l1)] [] := by
  intro n
  induction n with
  | zero => intros; exact gd_none
  | succ n ih =>
    intro h l0 l1
    unfold fX4_freePlace_2
    refine q_run tkX4_freePlace 2 2 (pc' := 4) (L' := [some (.inr (.inr l0)), some (.inl l1)]) (st' := [.inr (.inr l0), .inl l1]) rfl ?_
    refine q_rdR RX4 TX4 13 (tbm tkX4_freePlace (i := 4) rfl) rfl (Nat.le_of_ble_eq_true rfl) wd_197 (fun r1 => ?_)
    refine q_alen (tbm tkX4_freePlace (i := 5) rfl) (fun x2 => ?_)
    refine q_icmp_ge (tbm tkX4_freePlace (i := 6) rfl) ?_ ?_
    · refine q_run tkX4_freePlace 7 1 (pc' := 12) (L' := [some (.inr (.inr l0)), some (.inl l1)]) (st' := [.inr (.inr l0)]) rfl ?_
      refine q_rdR RX4 TX4 13 (tbm tkX4_freePlace (i := 8) rfl) rfl (Nat.le_of_ble_eq_true rfl) wd_197 (fun r3 => ?_)
      refine q_run tkX4_freePlace 9 1 (pc' := 16) (L' := [some (.inr (.inr l0)), some (.inl l1)]) (st' := [.inl l1, .inr (.inr r3)]) rfl ?_
      refine q_aaload (tbm tkX4_freePlace (i := 10) rfl) (fun r4 => ?_)
      refine q_ifnull (tbm tkX4_freePlace (i := 11) rfl) ?_ ?_
      · exact sX4_freePlace_39 X (fX4_freePlace_2 X.2.2.2 n) ih h l0 l1
      · refine q_run tkX4_freePlace 12 1 (pc' := 21) (L' := [some (.inr (.inr l0)), some (.inl l1)]) (st' := [.inr (.inr l0)]) rfl ?_
        refine q_rdR RX4 TX4 13 (tbm tkX4_freePlace (i := 13) rfl) rfl (Nat.le_of_ble_eq_true rfl) wd_197 (fun r5 => ?_)
        refine q_run tkX4_freePlace 14 1 (pc' := 25) (L' := [some (.inr (.inr l0)), some (.inl l1)]) (st' := [.inl l1, .inr (.inr r5)]) rfl ?_
        refine q_aaload (tbm tkX4_freePlace (i := 15) rfl) (fun r6 => ?_)
        refine q_rdI RX2 TX2 14 (tbm tkX4_freePlace (i := 16) rfl) rfl (Nat.le_of_ble_eq_true rfl) wd_114 (fun x7 => ?_)
        refine q_if_ne (tbm tkX4_freePlace (i := 17) rfl) ?_ ?_
        · refine q_run tkX4_freePlace 18 1 (pc' := 33) (L' := [some (.inr (.inr l0)), some (.inl l1)]) (st' := [.inr (.inr l0)]) rfl ?_
          refine q_rdR RX4 TX4 13 (tbm tkX4_freePlace (i := 19) rfl) rfl (Nat.le_of_ble_eq_true rfl) wd_197 (fun r8 => ?_)
          refine q_run tkX4_freePlace 20 1 (pc' := 37) (L' := [some (.inr (.inr l0)), some (.inl l1)]) (st' := [.inl l1, .inr (.inr r8)]) rfl ?_
          refine q_aaload (tbm tkX4_freePlace (i := 21) rfl) (fun r9 => ?_)
          exact q_aret (tbm tkX4_freePlace (i := 22) rfl) rfl (Or.inl ⟨_, rfl⟩)
        · exact sX4_freePlace_39 X (fX4_freePlace_2 X.2.2.2 n) ih h l0 l1
    · refine q_run tkX4_freePlace 25 1 (pc' := 46) (L' := [some (.inr (.inr l0)), some (.inl l1)]) (st' := [.inr (.inr none)]) rfl ?_
      exact q_aret (tbm tkX4_freePlace (i := 26) rfl) rfl (Or.inl ⟨_, rfl⟩)
def fX4_freePlace (c : Nat → Option Nat) (h : Hp) (a0 : Option Nat) : Rs := fX4_freePlace_2 c FU h a0 (0 : Int32)
set_option maxHeartbeats 4000000 in
set_option maxRecDepth 100000 in
theorem soX4_freePlace (X : Cx) (h : Hp) (a0 : Option Nat) : SO X mX4_freePlace [.inr (.inr a0)] h (fX4_freePlace X.2.2.2 h a0) := by
  refine so_of (by decide +kernel) (Nat.le_of_ble_eq_true rfl) ?_
  show Gd X mX4_freePlace h (fX4_freePlace X.2.2.2 h a0) h 0 [some (.inr (.inr a0)), none] []
  unfold fX4_freePlace
  refine q_run tkX4_freePlace 0 2 (pc' := 2) (L' := [some (.inr (.inr a0)), some (.inl (0 : Int32))]) (st' := []) rfl ?_
  exact sX4_freePlace_2 X FU h a0 (0 : Int32)
theorem ceX4_freePlace : Ce mX4_freePlace 0 := ⟨wd_73, wd_589, by decide +kernel, by decide +kernel, by decide +kernel⟩
/-- ReceiptRolls$Sheet.begin -/
abbrev mX3_begin : MI := (yX3_begin, cX3_begin, 4, none, 0)
def tbX3_begin : List TE := [(0, .aload_n 0, 1, 0, 0), (1, .iload_n 1, 1, 0, 0), (2, .putfield 84, 3, 0, 0), (5, .aload_n 0, 1, 0, 0), (6, .iload_n 2, 1, 0, 0), (7, .putfield 87, 3, 0, 0), (10, .aload_n 0, 1, 0, 0), (11, .iload_n 2, 1, 0, 0), (12, .putfield 90, 3, 0, 0), (15, .aload_n 0, 1, 0, 0), (16, .iconst 0, 1, 0, 0), (17, .putfield 81, 3, 0, 0), (20, .aload_n 0, 1, 0, 0), (21, .iconst 0, 1, 0, 0), (22, .putfield 93, 3, 0, 0), (25, .iconst 0, 1, 0, 0), (26, .istore_n 3, 1, 0, 0), (27, .iload_n 3, 1, 0, 0), (28, .aload_n 0, 1, 0, 0), (29, .getfield 9, 3, 0, 0), (32, .arraylength, 1, 0, 0), (33, .if_icmp .ge 17, 3, 0, 50), (36, .aload_n 0, 1, 0, 0), (37, .getfield 9, 3, 0, 0), (40, .iload_n 3, 1, 0, 0), (41, .bipush 32, 2, 32, 0), (43, .castore, 1, 0, 0), (44, .iinc 3 1, 3, 1, 0), (47, .goto (-20), 3, 0, 27), (50, .return_, 1, 0, 0)]
theorem tkX3_begin : ∀ x ∈ tbX3_begin, tbB cX3_begin x = true := tb_all (by decide +kernel)
def fX3_begin_27 (c : Nat → Option Nat) : Nat → Hp → Option Nat → Int32 → Rs
  | 0, _, _, _ => none
  | n + 1, h, l0, l3 => rdR h l0 5 5 (fun r1 => lenA h r1 (fun x2 => if l3 < x2 then (rdR h l0 5 5 (fun r3 => astI h r3 [3] l3 (32 : Int32) (fun h4 => fX3_begin_27 c n h4 l0 (l3 + (1 : Int32))))) else (some (h, none))))
set_option maxHeartbeats 4000000 in
set_option maxRecDepth 100000 in
theorem sX3_begin_27 (X : Cx) {h0 : Hp} : ∀ (n : Nat) (h : Hp) (l0 : Option Nat) (l3 : Int32), Gd X mX3_begin h0 (fX3_begin_27 X.2.2.2 n h l0 l3) h 27 [some (.inr (.inr l0)), none, none, some (.inl l3)] [] := by
  intro n
  induction n with
  | zero => intros; exact gd_none
  | succ n ih =>
    intro h l0 l3
    unfold fX3_begin_27
    refine q_run tkX3_begin 17 2 (pc' := 29) (L' := [some (.inr (.inr l0)), none, none, some (.inl l3)]) (st' := [.inr (.inr l0), .inl l3]) rfl ?_
    refine q_rdR RX3 TX3 6 (tbm tkX3_begin (i := 19) rfl) rfl (Nat.le_of_ble_eq_true rfl) wd_289 (fun r1 => ?_)
    refine q_alen (tbm tkX3_begin (i := 20) rfl) (fun x2 => ?_)
    refine q_icmp_ge (tbm tkX3_begin (i := 21) rfl) ?_ ?_
    · refine q_run tkX3_begin 22 1 (pc' := 37) (L' := [some (.inr (.inr l0)), none, none, some (.inl l3)]) (st' := [.inr (.inr l0)]) rfl ?_
      refine q_rdR RX3 TX3 6 (tbm tkX3_begin (i := 23) rfl) rfl (Nat.le_of_ble_eq_true rfl) wd_289 (fun r3 => ?_)
      refine q_run tkX3_begin 24 2 (pc' := 43) (L' := [some (.inr (.inr l0)), none, none, some (.inl l3)]) (st' := [.inl (32 : Int32), .inl l3, .inr (.inr r3)]) rfl ?_
      refine q_castore (tbm tkX3_begin (i := 26) rfl) (fun h4 => ?_)
      refine q_run tkX3_begin 27 2 (pc' := 27) (L' := [some (.inr (.inr l0)), none, none, some (.inl (l3 + (1 : Int32)))]) (st' := []) rfl ?_
      exact ih h4 l0 (l3 + (1 : Int32))
    · exact q_vret (tbm tkX3_begin (i := 29) rfl) rfl
def fX3_begin (c : Nat → Option Nat) (h : Hp) (a0 : Option Nat) (a1 : Int32) (a2 : Int32) : Rs := wr h a0 5 0 (.inl a1) (fun h5 => wr h5 a0 5 3 (.inl a2) (fun h6 => wr h6 a0 5 2 (.inl a2) (fun h7 => wr h7 a0 5 1 (.inl (0 : Int32)) (fun h8 => wr h8 a0 5 4 (.inl (0 : Int32)) (fun h9 => fX3_begin_27 c FU h9 a0 (0 : Int32))))))
set_option maxHeartbeats 4000000 in
set_option maxRecDepth 100000 in
theorem soX3_begin (X : Cx) (h : Hp) (a0 : Option Nat) (a1 : Int32) (a2 : Int32) : SO X mX3_begin [.inr (.inr a0), .inl a1, .inl a2] h (fX3_begin X.2.2.2 h a0 a1 a2) := by
  refine so_of (by decide +kernel) (Nat.le_of_ble_eq_true rfl) ?_
  show Gd X mX3_begin h (fX3_begin X.2.2.2 h a0 a1 a2) h 0 [some (.inr (.inr a0)), some (.inl a1), some (.inl a2), none] []
  unfold fX3_begin
  refine q_run tkX3_begin 0 2 (pc' := 2) (L' := [some (.inr (.inr a0)), some (.inl a1), some (.inl a2), none]) (st' := [.inl a1, .inr (.inr a0)]) rfl ?_
  refine q_wr RX3 TX3 6 (tbm tkX3_begin (i := 2) rfl) rfl (Nat.le_of_ble_eq_true rfl) (Or.inl rfl) wd_281 (fun h5 => ?_)
  refine q_run tkX3_begin 3 2 (pc' := 7) (L' := [some (.inr (.inr a0)), some (.inl a1), some (.inl a2), none]) (st' := [.inl a2, .inr (.inr a0)]) rfl ?_
  refine q_wr RX3 TX3 6 (tbm tkX3_begin (i := 5) rfl) rfl (Nat.le_of_ble_eq_true rfl) (Or.inl rfl) wd_287 (fun h6 => ?_)
  refine q_run tkX3_begin 6 2 (pc' := 12) (L' := [some (.inr (.inr a0)), some (.inl a1), some (.inl a2), none]) (st' := [.inl a2, .inr (.inr a0)]) rfl ?_
  refine q_wr RX3 TX3 6 (tbm tkX3_begin (i := 8) rfl) rfl (Nat.le_of_ble_eq_true rfl) (Or.inl rfl) wd_285 (fun h7 => ?_)
  refine q_run tkX3_begin 9 2 (pc' := 17) (L' := [some (.inr (.inr a0)), some (.inl a1), some (.inl a2), none]) (st' := [.inl (0 : Int32), .inr (.inr a0)]) rfl ?_
  refine q_wr RX3 TX3 6 (tbm tkX3_begin (i := 11) rfl) rfl (Nat.le_of_ble_eq_true rfl) (Or.inl rfl) wd_283 (fun h8 => ?_)
  refine q_run tkX3_begin 12 2 (pc' := 22) (L' := [some (.inr (.inr a0)), some (.inl a1), some (.inl a2), none]) (st' := [.inl (0 : Int32), .inr (.inr a0)]) rfl ?_
  refine q_wr RX3 TX3 6 (tbm tkX3_begin (i := 14) rfl) rfl (Nat.le_of_ble_eq_true rfl) (Or.inl rfl) wd_288 (fun h9 => ?_)
  refine q_run tkX3_begin 15 2 (pc' := 27) (L' := [some (.inr (.inr a0)), some (.inl a1), some (.inl a2), some (.inl (0 : Int32))]) (st' := []) rfl ?_
  refine q_le (L' := [some (.inr (.inr a0)), none, none, some (.inl (0 : Int32))]) (lvLe_s (lvLe_n (lvLe_n (lvLe_s lvLe_0)))) ?_
  exact sX3_begin_27 X FU h9 a0 (0 : Int32)
theorem ceX3_begin : Ce mX3_begin 2 := ⟨wd_80, wd_601, by decide +kernel, by decide +kernel, by decide +kernel⟩
/-- ReceiptRolls$Sheet.addSign -/
abbrev mX3_addSign : MI := (yX3_addSign, cX3_addSign, 2, none, 0)
def tbX3_addSign : List TE := [(0, .aload_n 0, 1, 0, 0), (1, .getfield 81, 3, 0, 0), (4, .aload_n 0, 1, 0, 0), (5, .getfield 87, 3, 0, 0), (8, .if_icmp .ne 32, 3, 0, 40), (11, .aload_n 0, 1, 0, 0), (12, .getfield 93, 3, 0, 0), (15, .ifCond .lt 25, 3, 0, 40), (18, .aload_n 0, 1, 0, 0), (19, .getfield 93, 3, 0, 0), (22, .aload_n 0, 1, 0, 0), (23, .getfield 9, 3, 0, 0), (26, .arraylength, 1, 0, 0), (27, .if_icmp .ge 13, 3, 0, 40), (30, .aload_n 0, 1, 0, 0), (31, .getfield 9, 3, 0, 0), (34, .aload_n 0, 1, 0, 0), (35, .getfield 93, 3, 0, 0), (38, .iload_n 1, 1, 0, 0), (39, .castore, 1, 0, 0), (40, .aload_n 0, 1, 0, 0), (41, .dup, 1, 0, 0), (42, .getfield 93, 3, 0, 0), (45, .iconst 1, 1, 1, 0), (46, .iadd, 1, 0, 0), (47, .putfield 93, 3, 0, 0), (50, .return_, 1, 0, 0)]
theorem tkX3_addSign : ∀ x ∈ tbX3_addSign, tbB cX3_addSign x = true := tb_all (by decide +kernel)
def fX3_addSign_40 (c : Nat → Option Nat) (h : Hp) (l0 : Option Nat) : Rs := rdI h l0 5 4 (fun x1 => wr h l0 5 4 (.inl (x1 + (1 : Int32))) (fun h2 => some (h2, none)))
set_option maxHeartbeats 4000000 in
set_option maxRecDepth 100000 in
theorem sX3_addSign_40 (X : Cx) {h0 : Hp} (h : Hp) (l0 : Option Nat) : Gd X mX3_addSign h0 (fX3_addSign_40 X.2.2.2 h l0) h 40 [some (.inr (.inr l0)), none] [] := by
  unfold fX3_addSign_40
  refine q_run tkX3_addSign 20 2 (pc' := 42) (L' := [some (.inr (.inr l0)), none]) (st' := [.inr (.inr l0), .inr (.inr l0)]) rfl ?_
  refine q_rdI RX3 TX3 6 (tbm tkX3_addSign (i := 22) rfl) rfl (Nat.le_of_ble_eq_true rfl) wd_288 (fun x1 => ?_)
  refine q_run tkX3_addSign 23 2 (pc' := 47) (L' := [some (.inr (.inr l0)), none]) (st' := [.inl (x1 + (1 : Int32)), .inr (.inr l0)]) rfl ?_
  refine q_wr RX3 TX3 6 (tbm tkX3_addSign (i := 25) rfl) rfl (Nat.le_of_ble_eq_true rfl) (Or.inl rfl) wd_288 (fun h2 => ?_)
  exact q_vret (tbm tkX3_addSign (i := 26) rfl) rfl
def fX3_addSign (c : Nat → Option Nat) (h : Hp) (a0 : Option Nat) (a1 : Int32) : Rs := rdI h a0 5 1 (fun x3 => rdI h a0 5 3 (fun x4 => if x3 = x4 then (rdI h a0 5 4 (fun x5 => if x5 < 0 then (fX3_addSign_40 c h a0) else (rdI h a0 5 4 (fun x6 => rdR h a0 5 5 (fun r7 => lenA h r7 (fun x8 => if x6 < x8 then (rdR h a0 5 5 (fun r9 => rdI h a0 5 4 (fun x10 => astI h r9 [3] x10 a1 (fun h11 => fX3_addSign_40 c h11 a0)))) else (fX3_addSign_40 c h a0))))))) else (fX3_addSign_40 c h a0)))
set_option maxHeartbeats 4000000 in
set_option maxRecDepth 100000 in
theorem soX3_addSign (X : Cx) (h : Hp) (a0 : Option Nat) (a1 : Int32) : SO X mX3_addSign [.inr (.inr a0), .inl a1] h (fX3_addSign X.2.2.2 h a0 a1) := by
  refine so_of (by decide +kernel) (Nat.le_of_ble_eq_true rfl) ?_
  show Gd X mX3_addSign h (fX3_addSign X.2.2.2 h a0 a1) h 0 [some (.inr (.inr a0)), some (.inl a1)] []
  unfold fX3_addSign
  refine q_run tkX3_addSign 0 1 (pc' := 1) (L' := [some (.inr (.inr a0)), some (.inl a1)]) (st' := [.inr (.inr a0)]) rfl ?_
  refine q_rdI RX3 TX3 6 (tbm tkX3_addSign (i := 1) rfl) rfl (Nat.le_of_ble_eq_true rfl) wd_283 (fun x3 => ?_)
  refine q_run tkX3_addSign 2 1 (pc' := 5) (L' := [some (.inr (.inr a0)), some (.inl a1)]) (st' := [.inr (.inr a0), .inl x3]) rfl ?_
  refine q_rdI RX3 TX3 6 (tbm tkX3_addSign (i := 3) rfl) rfl (Nat.le_of_ble_eq_true rfl) wd_287 (fun x4 => ?_)
  refine q_icmp_ne (tbm tkX3_addSign (i := 4) rfl) ?_ ?_
  · refine q_run tkX3_addSign 5 1 (pc' := 12) (L' := [some (.inr (.inr a0)), some (.inl a1)]) (st' := [.inr (.inr a0)]) rfl ?_
    refine q_rdI RX3 TX3 6 (tbm tkX3_addSign (i := 6) rfl) rfl (Nat.le_of_ble_eq_true rfl) wd_288 (fun x5 => ?_)
    refine q_if_lt (tbm tkX3_addSign (i := 7) rfl) ?_ ?_
    · refine q_le (L' := [some (.inr (.inr a0)), none]) (lvLe_s (lvLe_n lvLe_0)) ?_
      exact sX3_addSign_40 X h a0
    · refine q_run tkX3_addSign 8 1 (pc' := 19) (L' := [some (.inr (.inr a0)), some (.inl a1)]) (st' := [.inr (.inr a0)]) rfl ?_
      refine q_rdI RX3 TX3 6 (tbm tkX3_addSign (i := 9) rfl) rfl (Nat.le_of_ble_eq_true rfl) wd_288 (fun x6 => ?_)
      refine q_run tkX3_addSign 10 1 (pc' := 23) (L' := [some (.inr (.inr a0)), some (.inl a1)]) (st' := [.inr (.inr a0), .inl x6]) rfl ?_
      refine q_rdR RX3 TX3 6 (tbm tkX3_addSign (i := 11) rfl) rfl (Nat.le_of_ble_eq_true rfl) wd_289 (fun r7 => ?_)
      refine q_alen (tbm tkX3_addSign (i := 12) rfl) (fun x8 => ?_)
      refine q_icmp_ge (tbm tkX3_addSign (i := 13) rfl) ?_ ?_
      · refine q_run tkX3_addSign 14 1 (pc' := 31) (L' := [some (.inr (.inr a0)), some (.inl a1)]) (st' := [.inr (.inr a0)]) rfl ?_
        refine q_rdR RX3 TX3 6 (tbm tkX3_addSign (i := 15) rfl) rfl (Nat.le_of_ble_eq_true rfl) wd_289 (fun r9 => ?_)
        refine q_run tkX3_addSign 16 1 (pc' := 35) (L' := [some (.inr (.inr a0)), some (.inl a1)]) (st' := [.inr (.inr a0), .inr (.inr r9)]) rfl ?_
        refine q_rdI RX3 TX3 6 (tbm tkX3_addSign (i := 17) rfl) rfl (Nat.le_of_ble_eq_true rfl) wd_288 (fun x10 => ?_)
        refine q_run tkX3_addSign 18 1 (pc' := 39) (L' := [some (.inr (.inr a0)), some (.inl a1)]) (st' := [.inl a1, .inl x10, .inr (.inr r9)]) rfl ?_
        refine q_castore (tbm tkX3_addSign (i := 19) rfl) (fun h11 => ?_)
        refine q_le (L' := [some (.inr (.inr a0)), none]) (lvLe_s (lvLe_n lvLe_0)) ?_
        exact sX3_addSign_40 X h11 a0
      · refine q_le (L' := [some (.inr (.inr a0)), none]) (lvLe_s (lvLe_n lvLe_0)) ?_
        exact sX3_addSign_40 X h a0
  · refine q_le (L' := [some (.inr (.inr a0)), none]) (lvLe_s (lvLe_n lvLe_0)) ?_
    exact sX3_addSign_40 X h a0
theorem ceX3_addSign : Ce mX3_addSign 1 := ⟨wd_80, wd_637, by decide +kernel, by decide +kernel, by decide +kernel⟩
/-- ReceiptRolls$Sheet.addText -/
abbrev mX3_addText : MI := (yX3_addText, cX3_addText, 3, none, 4)
def tbX3_addText : List TE := [(0, .iconst 0, 1, 0, 0), (1, .istore_n 2, 1, 0, 0), (2, .iload_n 2, 1, 0, 0), (3, .aload_n 1, 1, 0, 0), (4, .invokevirtual 107, 3, 0, 0), (7, .if_icmp .ge 18, 3, 0, 25), (10, .aload_n 0, 1, 0, 0), (11, .aload_n 1, 1, 0, 0), (12, .iload_n 2, 1, 0, 0), (13, .invokevirtual 112, 3, 0, 0), (16, .invokevirtual 99, 3, 0, 0), (19, .iinc 2 1, 3, 1, 0), (22, .goto (-20), 3, 0, 2), (25, .return_, 1, 0, 0)]
theorem tkX3_addText : ∀ x ∈ tbX3_addText, tbB cX3_addText x = true := tb_all (by decide +kernel)
def fX3_addText_2 (c : Nat → Option Nat) : Nat → Hp → Option Nat → Option Nat → Int32 → Rs
  | 0, _, _, _, _ => none
  | n + 1, h, l0, l1, l2 => ck h l1 0 (cc (fJ0_length_8abf5 c h l1) (kI fun h1 x2 => if l2 < x2 then (ck h1 l1 0 (cc (fJ0_charAt_5068e c h1 l1 l2) (kI fun h3 x4 => ck h3 l0 5 (cc (fX3_addSign c h3 l0 x4) (kV fun h5 => fX3_addText_2 c n h5 l0 l1 (l2 + (1 : Int32))))))) else (some (h1, none))))
set_option maxHeartbeats 4000000 in
set_option maxRecDepth 100000 in
theorem sX3_addText_2 (X : Cx) {h0 : Hp} : ∀ (n : Nat) (h : Hp) (l0 : Option Nat) (l1 : Option Nat) (l2 : Int32), Gd X mX3_addText h0 (fX3_addText_2 X.2.2.2 n h l0 l1 l2) h 2 [some (.inr (.inr l0)), some (.inr (.inr l1)), some (.inl l2)] [] := by
  intro n
  induction n with
  | zero => intros; exact gd_none
  | succ n ih =>
    intro h l0 l1 l2
    unfold fX3_addText_2
    refine q_run tkX3_addText 2 2 (pc' := 4) (L' := [some (.inr (.inr l0)), some (.inr (.inr l1)), some (.inl l2)]) (st' := [.inr (.inr l1), .inl l2]) rfl ?_
    refine q_cv (r := l1) (ci := 0) (n := 0) (as := []) (st := [.inl l2]) TJ0 4 (soJ0_length_8abf5 X h l1) (tbm tkX3_addText (i := 4) rfl) rfl rfl ceJ0_length_8abf5 wd_608 wd_609 wd_607 rfl (Nat.le_of_ble_eq_true rfl) (kI_gd (fun h1 x2 => ?_))
    refine q_icmp_ge (tbm tkX3_addText (i := 5) rfl) ?_ ?_
    · refine q_run tkX3_addText 6 3 (pc' := 13) (L' := [some (.inr (.inr l0)), some (.inr (.inr l1)), some (.inl l2)]) (st' := [.inl l2, .inr (.inr l1), .inr (.inr l0)]) rfl ?_
      refine q_cv (r := l1) (ci := 0) (n := 1) (as := [.inl l2]) (st := [.inr (.inr l0)]) TJ0 4 (soJ0_charAt_5068e X h1 l1 l2) (tbm tkX3_addText (i := 9) rfl) rfl rfl ceJ0_charAt_5068e wd_616 wd_617 wd_615 rfl (Nat.le_of_ble_eq_true rfl) (kI_gd (fun h3 x4 => ?_))
      refine q_cv (r := l0) (ci := 5) (n := 1) (as := [.inl x4]) (st := []) TX3 6 (soX3_addSign X h3 l0 x4) (tbm tkX3_addText (i := 10) rfl) rfl rfl ceX3_addSign wd_636 wd_6 wd_634 rfl (Nat.le_of_ble_eq_true rfl) (kV_gd (fun h5 => ?_))
      refine q_run tkX3_addText 11 2 (pc' := 2) (L' := [some (.inr (.inr l0)), some (.inr (.inr l1)), some (.inl (l2 + (1 : Int32)))]) (st' := []) rfl ?_
      exact ih h5 l0 l1 (l2 + (1 : Int32))
    · exact q_vret (tbm tkX3_addText (i := 13) rfl) rfl
def fX3_addText (c : Nat → Option Nat) (h : Hp) (a0 : Option Nat) (a1 : Option Nat) : Rs := fX3_addText_2 c FU h a0 a1 (0 : Int32)
set_option maxHeartbeats 4000000 in
set_option maxRecDepth 100000 in
theorem soX3_addText (X : Cx) (h : Hp) (a0 : Option Nat) (a1 : Option Nat) : SO X mX3_addText [.inr (.inr a0), .inr (.inr a1)] h (fX3_addText X.2.2.2 h a0 a1) := by
  refine so_of (by decide +kernel) (Nat.le_of_ble_eq_true rfl) ?_
  show Gd X mX3_addText h (fX3_addText X.2.2.2 h a0 a1) h 0 [some (.inr (.inr a0)), some (.inr (.inr a1)), none] []
  unfold fX3_addText
  refine q_run tkX3_addText 0 2 (pc' := 2) (L' := [some (.inr (.inr a0)), some (.inr (.inr a1)), some (.inl (0 : Int32))]) (st' := []) rfl ?_
  exact sX3_addText_2 X FU h a0 a1 (0 : Int32)
theorem ceX3_addText : Ce mX3_addText 1 := ⟨wd_80, wd_606, by decide +kernel, by decide +kernel, by decide +kernel⟩
/-- ReceiptRolls$Sheet.addNumber -/
abbrev mX3_addNumber : MI := (yX3_addNumber, cX3_addNumber, 3, none, 1)
def tbX3_addNumber : List TE := [(0, .ldc 125, 2, 0, 0), (2, .istore_n 2, 1, 0, 0), (3, .iload_n 2, 1, 0, 0), (4, .ifCond .le 35, 3, 0, 39), (7, .iload_n 1, 1, 0, 0), (8, .iload_n 2, 1, 0, 0), (9, .if_icmp .ge 8, 3, 0, 17), (12, .iload_n 2, 1, 0, 0), (13, .iconst 1, 1, 1, 0), (14, .if_icmp .ne 17, 3, 0, 31), (17, .aload_n 0, 1, 0, 0), (18, .bipush 48, 2, 48, 0), (20, .iload_n 1, 1, 0, 0), (21, .iload_n 2, 1, 0, 0), (22, .idiv, 1, 0, 0), (23, .bipush 10, 2, 10, 0), (25, .irem, 1, 0, 0), (26, .iadd, 1, 0, 0), (27, .i2c, 1, 0, 0), (28, .invokevirtual 99, 3, 0, 0), (31, .iload_n 2, 1, 0, 0), (32, .bipush 10, 2, 10, 0), (34, .idiv, 1, 0, 0), (35, .istore_n 2, 1, 0, 0), (36, .goto (-33), 3, 0, 3), (39, .return_, 1, 0, 0)]
theorem tkX3_addNumber : ∀ x ∈ tbX3_addNumber, tbB cX3_addNumber x = true := tb_all (by decide +kernel)
def fX3_addNumber_31 (c : Nat → Option Nat) (k3 : Hp → Option Nat → Int32 → Int32 → Rs) (h : Hp) (l0 : Option Nat) (l1 : Int32) (l2 : Int32) : Rs := dv (10 : Int32) (k3 h l0 l1 (l2 / (10 : Int32)))
set_option maxHeartbeats 4000000 in
set_option maxRecDepth 100000 in
theorem sX3_addNumber_31 (X : Cx) {h0 : Hp} (k3 : Hp → Option Nat → Int32 → Int32 → Rs) (hk3 : ∀ (h : Hp) (l0 : Option Nat) (l1 : Int32) (l2 : Int32), Gd X mX3_addNumber h0 (k3 h l0 l1 l2) h 3 [some (.inr (.inr l0)), some (.inl l1), some (.inl l2)] []) (h : Hp) (l0 : Option Nat) (l1 : Int32) (l2 : Int32) : Gd X mX3_addNumber h0 (fX3_addNumber_31 X.2.2.2 k3 h l0 l1 l2) h 31 [some (.inr (.inr l0)), some (.inl l1), some (.inl l2)] [] := by
  unfold fX3_addNumber_31
  refine q_run tkX3_addNumber 20 2 (pc' := 34) (L' := [some (.inr (.inr l0)), some (.inl l1), some (.inl l2)]) (st' := [.inl (10 : Int32), .inl l2]) rfl ?_
  refine q_div (tbm tkX3_addNumber (i := 22) rfl) ?_
  refine q_run tkX3_addNumber 23 2 (pc' := 3) (L' := [some (.inr (.inr l0)), some (.inl l1), some (.inl (l2 / (10 : Int32)))]) (st' := []) rfl ?_
  exact hk3 h l0 l1 (l2 / (10 : Int32))
def fX3_addNumber_17 (c : Nat → Option Nat) (k3 : Hp → Option Nat → Int32 → Int32 → Rs) (h : Hp) (l0 : Option Nat) (l1 : Int32) (l2 : Int32) : Rs := dv l2 (dv (10 : Int32) (ck h l0 5 (cc (fX3_addSign c h l0 (chI ((48 : Int32) + ((l1 / l2) - (l1 / l2) / (10 : Int32) * (10 : Int32))))) (kV fun h1 => fX3_addNumber_31 c k3 h1 l0 l1 l2))))
set_option maxHeartbeats 4000000 in
set_option maxRecDepth 100000 in
theorem sX3_addNumber_17 (X : Cx) {h0 : Hp} (k3 : Hp → Option Nat → Int32 → Int32 → Rs) (hk3 : ∀ (h : Hp) (l0 : Option Nat) (l1 : Int32) (l2 : Int32), Gd X mX3_addNumber h0 (k3 h l0 l1 l2) h 3 [some (.inr (.inr l0)), some (.inl l1), some (.inl l2)] []) (h : Hp) (l0 : Option Nat) (l1 : Int32) (l2 : Int32) : Gd X mX3_addNumber h0 (fX3_addNumber_17 X.2.2.2 k3 h l0 l1 l2) h 17 [some (.inr (.inr l0)), some (.inl l1), some (.inl l2)] [] := by
  unfold fX3_addNumber_17
  refine q_run tkX3_addNumber 10 4 (pc' := 22) (L' := [some (.inr (.inr l0)), some (.inl l1), some (.inl l2)]) (st' := [.inl l2, .inl l1, .inl (48 : Int32), .inr (.inr l0)]) rfl ?_
  refine q_div (tbm tkX3_addNumber (i := 14) rfl) ?_
  refine q_run tkX3_addNumber 15 1 (pc' := 25) (L' := [some (.inr (.inr l0)), some (.inl l1), some (.inl l2)]) (st' := [.inl (10 : Int32), .inl (l1 / l2), .inl (48 : Int32), .inr (.inr l0)]) rfl ?_
  refine q_rem (tbm tkX3_addNumber (i := 16) rfl) ?_
  refine q_run tkX3_addNumber 17 2 (pc' := 28) (L' := [some (.inr (.inr l0)), some (.inl l1), some (.inl l2)]) (st' := [.inl (chI ((48 : Int32) + ((l1 / l2) - (l1 / l2) / (10 : Int32) * (10 : Int32)))), .inr (.inr l0)]) rfl ?_
  refine q_cv (r := l0) (ci := 5) (n := 1) (as := [.inl (chI ((48 : Int32) + ((l1 / l2) - (l1 / l2) / (10 : Int32) * (10 : Int32))))]) (st := []) TX3 6 (soX3_addSign X h l0 (chI ((48 : Int32) + ((l1 / l2) - (l1 / l2) / (10 : Int32) * (10 : Int32))))) (tbm tkX3_addNumber (i := 19) rfl) rfl rfl ceX3_addSign wd_636 wd_6 wd_634 rfl (Nat.le_of_ble_eq_true rfl) (kV_gd (fun h1 => ?_))
  exact sX3_addNumber_31 X k3 hk3 h1 l0 l1 l2
def fX3_addNumber_3 (c : Nat → Option Nat) : Nat → Hp → Option Nat → Int32 → Int32 → Rs
  | 0, _, _, _, _ => none
  | n + 1, h, l0, l1, l2 => if 0 < l2 then (if l1 < l2 then (if l2 = (1 : Int32) then (fX3_addNumber_17 c (fX3_addNumber_3 c n) h l0 l1 l2) else (fX3_addNumber_31 c (fX3_addNumber_3 c n) h l0 l1 l2)) else (fX3_addNumber_17 c (fX3_addNumber_3 c n) h l0 l1 l2)) else (some (h, none))
set_option maxHeartbeats 4000000 in
set_option maxRecDepth 100000 in
theorem sX3_addNumber_3 (X : Cx) {h0 : Hp} : ∀ (n : Nat) (h : Hp) (l0 : Option Nat) (l1 : Int32) (l2 : Int32), Gd X mX3_addNumber h0 (fX3_addNumber_3 X.2.2.2 n h l0 l1 l2) h 3 [some (.inr (.inr l0)), some (.inl l1), some (.inl l2)] [] := by
  intro n
  induction n with
  | zero => intros; exact gd_none
  | succ n ih =>
    intro h l0 l1 l2
    unfold fX3_addNumber_3
    refine q_run tkX3_addNumber 2 1 (pc' := 4) (L' := [some (.inr (.inr l0)), some (.inl l1), some (.inl l2)]) (st' := [.inl l2]) rfl ?_
    refine q_if_le (tbm tkX3_addNumber (i := 3) rfl) ?_ ?_
    · refine q_run tkX3_addNumber 4 2 (pc' := 9) (L' := [some (.inr (.inr l0)), some (.inl l1), some (.inl l2)]) (st' := [.inl l2, .inl l1]) rfl ?_
      refine q_icmp_ge (tbm tkX3_addNumber (i := 6) rfl) ?_ ?_
      · refine q_run tkX3_addNumber 7 2 (pc' := 14) (L' := [some (.inr (.inr l0)), some (.inl l1), some (.inl l2)]) (st' := [.inl (1 : Int32), .inl l2]) rfl ?_
        refine q_icmp_ne (tbm tkX3_addNumber (i := 9) rfl) ?_ ?_
        · exact sX3_addNumber_17 X (fX3_addNumber_3 X.2.2.2 n) ih h l0 l1 l2
        · exact sX3_addNumber_31 X (fX3_addNumber_3 X.2.2.2 n) ih h l0 l1 l2
      · exact sX3_addNumber_17 X (fX3_addNumber_3 X.2.2.2 n) ih h l0 l1 l2
    · exact q_vret (tbm tkX3_addNumber (i := 25) rfl) rfl
def fX3_addNumber (c : Nat → Option Nat) (h : Hp) (a0 : Option Nat) (a1 : Int32) : Rs := fX3_addNumber_3 c FU h a0 a1 (1000000000 : Int32)
set_option maxHeartbeats 4000000 in
set_option maxRecDepth 100000 in
theorem soX3_addNumber (X : Cx) (h : Hp) (a0 : Option Nat) (a1 : Int32) : SO X mX3_addNumber [.inr (.inr a0), .inl a1] h (fX3_addNumber X.2.2.2 h a0 a1) := by
  refine so_of (by decide +kernel) (Nat.le_of_ble_eq_true rfl) ?_
  show Gd X mX3_addNumber h (fX3_addNumber X.2.2.2 h a0 a1) h 0 [some (.inr (.inr a0)), some (.inl a1), none] []
  unfold fX3_addNumber
  refine q_ldc (w := (1000000000 : Int32)) (tbm tkX3_addNumber (i := 0) rfl) wd_642 ?_
  refine q_run tkX3_addNumber 1 1 (pc' := 3) (L' := [some (.inr (.inr a0)), some (.inl a1), some (.inl (1000000000 : Int32))]) (st' := []) rfl ?_
  exact sX3_addNumber_3 X FU h a0 a1 (1000000000 : Int32)
theorem ceX3_addNumber : Ce mX3_addNumber 1 := ⟨wd_80, wd_641, by decide +kernel, by decide +kernel, by decide +kernel⟩
/-- ReceiptRolls$Sheet.endLine -/
abbrev mX3_endLine : MI := (yX3_endLine, cX3_endLine, 1, none, 0)
def tbX3_endLine : List TE := [(0, .aload_n 0, 1, 0, 0), (1, .dup, 1, 0, 0), (2, .getfield 81, 3, 0, 0), (5, .iconst 1, 1, 1, 0), (6, .iadd, 1, 0, 0), (7, .putfield 81, 3, 0, 0), (10, .aload_n 0, 1, 0, 0), (11, .iconst 0, 1, 0, 0), (12, .putfield 93, 3, 0, 0), (15, .return_, 1, 0, 0)]
theorem tkX3_endLine : ∀ x ∈ tbX3_endLine, tbB cX3_endLine x = true := tb_all (by decide +kernel)
def fX3_endLine (c : Nat → Option Nat) (h : Hp) (a0 : Option Nat) : Rs := rdI h a0 5 1 (fun x1 => wr h a0 5 1 (.inl (x1 + (1 : Int32))) (fun h2 => wr h2 a0 5 4 (.inl (0 : Int32)) (fun h3 => some (h3, none))))
set_option maxHeartbeats 4000000 in
set_option maxRecDepth 100000 in
theorem soX3_endLine (X : Cx) (h : Hp) (a0 : Option Nat) : SO X mX3_endLine [.inr (.inr a0)] h (fX3_endLine X.2.2.2 h a0) := by
  refine so_of (by decide +kernel) (Nat.le_of_ble_eq_true rfl) ?_
  show Gd X mX3_endLine h (fX3_endLine X.2.2.2 h a0) h 0 [some (.inr (.inr a0))] []
  unfold fX3_endLine
  refine q_run tkX3_endLine 0 2 (pc' := 2) (L' := [some (.inr (.inr a0))]) (st' := [.inr (.inr a0), .inr (.inr a0)]) rfl ?_
  refine q_rdI RX3 TX3 6 (tbm tkX3_endLine (i := 2) rfl) rfl (Nat.le_of_ble_eq_true rfl) wd_283 (fun x1 => ?_)
  refine q_run tkX3_endLine 3 2 (pc' := 7) (L' := [some (.inr (.inr a0))]) (st' := [.inl (x1 + (1 : Int32)), .inr (.inr a0)]) rfl ?_
  refine q_wr RX3 TX3 6 (tbm tkX3_endLine (i := 5) rfl) rfl (Nat.le_of_ble_eq_true rfl) (Or.inl rfl) wd_283 (fun h2 => ?_)
  refine q_run tkX3_endLine 6 2 (pc' := 12) (L' := [some (.inr (.inr a0))]) (st' := [.inl (0 : Int32), .inr (.inr a0)]) rfl ?_
  refine q_wr RX3 TX3 6 (tbm tkX3_endLine (i := 8) rfl) rfl (Nat.le_of_ble_eq_true rfl) (Or.inl rfl) wd_288 (fun h3 => ?_)
  exact q_vret (tbm tkX3_endLine (i := 9) rfl) rfl
theorem ceX3_endLine : Ce mX3_endLine 0 := ⟨wd_80, wd_646, by decide +kernel, by decide +kernel, by decide +kernel⟩
/-- ReceiptRolls$Sheet.layWord -/
abbrev mX3_layWord : MI := (yX3_layWord, cX3_layWord, 7, none, 4)
def tbX3_layWord : List TE := [(0, .aload_n 0, 1, 0, 0), (1, .getfield 84, 3, 0, 0), (4, .bipush 8, 2, 8, 0), (6, .isub, 1, 0, 0), (7, .istore 4, 2, 0, 0), (9, .aload_n 0, 1, 0, 0), (10, .getfield 93, 3, 0, 0), (13, .iconst 1, 1, 1, 0), (14, .iadd, 1, 0, 0), (15, .iload_n 3, 1, 0, 0), (16, .iadd, 1, 0, 0), (17, .iload_n 2, 1, 0, 0), (18, .isub, 1, 0, 0), (19, .iload 4, 2, 0, 0), (21, .if_icmp .gt 7, 3, 0, 28), (24, .iconst 1, 1, 1, 0), (25, .goto 4, 3, 0, 29), (28, .iconst 0, 1, 0, 0), (29, .istore 5, 2, 0, 0), (31, .aload_n 0, 1, 0, 0), (32, .getfield 93, 3, 0, 0), (35, .ifCond .le 17, 3, 0, 52), (38, .iload 5, 2, 0, 0), (40, .ifCond .eq 12, 3, 0, 52), (43, .aload_n 0, 1, 0, 0), (44, .bipush 32, 2, 32, 0), (46, .invokevirtual 99, 3, 0, 0), (49, .goto 14, 3, 0, 63), (52, .aload_n 0, 1, 0, 0), (53, .getfield 93, 3, 0, 0), (56, .ifCond .le 7, 3, 0, 63), (59, .aload_n 0, 1, 0, 0), (60, .invokevirtual 29, 3, 0, 0), (63, .iload_n 2, 1, 0, 0), (64, .iconst 0, 1, 0, 0), (65, .invokestatic 119, 3, 0, 0), (68, .istore 6, 2, 0, 0), (70, .iload 6, 2, 0, 0), (72, .iload_n 3, 1, 0, 0), (73, .if_icmp .ge 41, 3, 0, 114), (76, .iload 6, 2, 0, 0), (78, .aload_n 1, 1, 0, 0), (79, .invokevirtual 107, 3, 0, 0), (82, .if_icmp .ge 32, 3, 0, 114), (85, .aload_n 0, 1, 0, 0), (86, .getfield 93, 3, 0, 0), (89, .iload 4, 2, 0, 0), (91, .if_icmp .lt 7, 3, 0, 98), (94, .aload_n 0, 1, 0, 0), (95, .invokevirtual 29, 3, 0, 0), (98, .aload_n 0, 1, 0, 0), (99, .aload_n 1, 1, 0, 0), (100, .iload 6, 2, 0, 0), (102, .invokevirtual 112, 3, 0, 0), (105, .invokevirtual 99, 3, 0, 0), (108, .iinc 6 1, 3, 1, 0), (111, .goto (-41), 3, 0, 70), (114, .return_, 1, 0, 0)]
theorem tkX3_layWord : ∀ x ∈ tbX3_layWord, tbB cX3_layWord x = true := tb_all (by decide +kernel)
def fX3_layWord_98 (c : Nat → Option Nat) (k70 : Hp → Option Nat → Option Nat → Int32 → Int32 → Int32 → Rs) (h : Hp) (l0 : Option Nat) (l1 : Option Nat) (l3 : Int32) (l4 : Int32) (l6 : Int32) : Rs := ck h l1 0 (cc (fJ0_charAt_5068e c h l1 l6) (kI fun h1 x2 => ck h1 l0 5 (cc (fX3_addSign c h1 l0 x2) (kV fun h3 => k70 h3 l0 l1 l3 l4 (l6 + (1 : Int32))))))
set_option maxHeartbeats 4000000 in
set_option maxRecDepth 100000 in
theorem sX3_layWord_98 (X : Cx) {h0 : Hp} (k70 : Hp → Option Nat → Option Nat → Int32 → Int32 → Int32 → Rs) (hk70 : ∀ (h : Hp) (l0 : Option Nat) (l1 : Option Nat) (l3 : Int32) (l4 : Int32) (l6 : Int32), Gd X mX3_layWord h0 (k70 h l0 l1 l3 l4 l6) h 70 [some (.inr (.inr l0)), some (.inr (.inr l1)), none, some (.inl l3), some (.inl l4), none, some (.inl l6)] []) (h : Hp) (l0 : Option Nat) (l1 : Option Nat) (l3 : Int32) (l4 : Int32) (l6 : Int32) : Gd X mX3_layWord h0 (fX3_layWord_98 X.2.2.2 k70 h l0 l1 l3 l4 l6) h 98 [some (.inr (.inr l0)), some (.inr (.inr l1)), none, some (.inl l3), some (.inl l4), none, some (.inl l6)] [] := by
  unfold fX3_layWord_98
  refine q_run tkX3_layWord 50 3 (pc' := 102) (L' := [some (.inr (.inr l0)), some (.inr (.inr l1)), none, some (.inl l3), some (.inl l4), none, some (.inl l6)]) (st' := [.inl l6, .inr (.inr l1), .inr (.inr l0)]) rfl ?_
  refine q_cv (r := l1) (ci := 0) (n := 1) (as := [.inl l6]) (st := [.inr (.inr l0)]) TJ0 4 (soJ0_charAt_5068e X h l1 l6) (tbm tkX3_layWord (i := 53) rfl) rfl rfl ceJ0_charAt_5068e wd_616 wd_617 wd_615 rfl (Nat.le_of_ble_eq_true rfl) (kI_gd (fun h1 x2 => ?_))
  refine q_cv (r := l0) (ci := 5) (n := 1) (as := [.inl x2]) (st := []) TX3 6 (soX3_addSign X h1 l0 x2) (tbm tkX3_layWord (i := 54) rfl) rfl rfl ceX3_addSign wd_636 wd_6 wd_634 rfl (Nat.le_of_ble_eq_true rfl) (kV_gd (fun h3 => ?_))
  refine q_run tkX3_layWord 55 2 (pc' := 70) (L' := [some (.inr (.inr l0)), some (.inr (.inr l1)), none, some (.inl l3), some (.inl l4), none, some (.inl (l6 + (1 : Int32)))]) (st' := []) rfl ?_
  exact hk70 h3 l0 l1 l3 l4 (l6 + (1 : Int32))
def fX3_layWord_114 (c : Nat → Option Nat) (h : Hp) : Rs := some (h, none)
set_option maxHeartbeats 4000000 in
set_option maxRecDepth 100000 in
theorem sX3_layWord_114 (X : Cx) {h0 : Hp} (h : Hp) : Gd X mX3_layWord h0 (fX3_layWord_114 X.2.2.2 h) h 114 [none, none, none, none, none, none, none] [] := by
  unfold fX3_layWord_114
  exact q_vret (tbm tkX3_layWord (i := 57) rfl) rfl
def fX3_layWord_70 (c : Nat → Option Nat) : Nat → Hp → Option Nat → Option Nat → Int32 → Int32 → Int32 → Rs
  | 0, _, _, _, _, _, _ => none
  | n + 1, h, l0, l1, l3, l4, l6 => if l6 < l3 then (ck h l1 0 (cc (fJ0_length_8abf5 c h l1) (kI fun h4 x5 => if l6 < x5 then (rdI h4 l0 5 4 (fun x6 => if x6 < l4 then (fX3_layWord_98 c (fX3_layWord_70 c n) h4 l0 l1 l3 l4 l6) else (ck h4 l0 5 (cc (fX3_endLine c h4 l0) (kV fun h7 => fX3_layWord_98 c (fX3_layWord_70 c n) h7 l0 l1 l3 l4 l6))))) else (fX3_layWord_114 c h4)))) else (fX3_layWord_114 c h)
set_option maxHeartbeats 4000000 in
set_option maxRecDepth 100000 in
theorem sX3_layWord_70 (X : Cx) {h0 : Hp} : ∀ (n : Nat) (h : Hp) (l0 : Option Nat) (l1 : Option Nat) (l3 : Int32) (l4 : Int32) (l6 : Int32), Gd X mX3_layWord h0 (fX3_layWord_70 X.2.2.2 n h l0 l1 l3 l4 l6) h 70 [some (.inr (.inr l0)), some (.inr (.inr l1)), none, some (.inl l3), some (.inl l4), none, some (.inl l6)] [] := by
  intro n
  induction n with
  | zero => intros; exact gd_none
  | succ n ih =>
    intro h l0 l1 l3 l4 l6
    unfold fX3_layWord_70
    refine q_run tkX3_layWord 37 2 (pc' := 73) (L' := [some (.inr (.inr l0)), some (.inr (.inr l1)), none, some (.inl l3), some (.inl l4), none, some (.inl l6)]) (st' := [.inl l3, .inl l6]) rfl ?_
    refine q_icmp_ge (tbm tkX3_layWord (i := 39) rfl) ?_ ?_
    · refine q_run tkX3_layWord 40 2 (pc' := 79) (L' := [some (.inr (.inr l0)), some (.inr (.inr l1)), none, some (.inl l3), some (.inl l4), none, some (.inl l6)]) (st' := [.inr (.inr l1), .inl l6]) rfl ?_
      refine q_cv (r := l1) (ci := 0) (n := 0) (as := []) (st := [.inl l6]) TJ0 4 (soJ0_length_8abf5 X h l1) (tbm tkX3_layWord (i := 42) rfl) rfl rfl ceJ0_length_8abf5 wd_608 wd_609 wd_607 rfl (Nat.le_of_ble_eq_true rfl) (kI_gd (fun h4 x5 => ?_))
      refine q_icmp_ge (tbm tkX3_layWord (i := 43) rfl) ?_ ?_
      · refine q_run tkX3_layWord 44 1 (pc' := 86) (L' := [some (.inr (.inr l0)), some (.inr (.inr l1)), none, some (.inl l3), some (.inl l4), none, some (.inl l6)]) (st' := [.inr (.inr l0)]) rfl ?_
        refine q_rdI RX3 TX3 6 (tbm tkX3_layWord (i := 45) rfl) rfl (Nat.le_of_ble_eq_true rfl) wd_288 (fun x6 => ?_)
        refine q_run tkX3_layWord 46 1 (pc' := 91) (L' := [some (.inr (.inr l0)), some (.inr (.inr l1)), none, some (.inl l3), some (.inl l4), none, some (.inl l6)]) (st' := [.inl l4, .inl x6]) rfl ?_
        refine q_icmp_lt (tbm tkX3_layWord (i := 47) rfl) ?_ ?_
        · exact sX3_layWord_98 X (fX3_layWord_70 X.2.2.2 n) ih h4 l0 l1 l3 l4 l6
        · refine q_run tkX3_layWord 48 1 (pc' := 95) (L' := [some (.inr (.inr l0)), some (.inr (.inr l1)), none, some (.inl l3), some (.inl l4), none, some (.inl l6)]) (st' := [.inr (.inr l0)]) rfl ?_
          refine q_cv (r := l0) (ci := 5) (n := 0) (as := []) (st := []) TX3 6 (soX3_endLine X h4 l0) (tbm tkX3_layWord (i := 49) rfl) rfl rfl ceX3_endLine wd_645 wd_8 wd_643 rfl (Nat.le_of_ble_eq_true rfl) (kV_gd (fun h7 => ?_))
          exact sX3_layWord_98 X (fX3_layWord_70 X.2.2.2 n) ih h7 l0 l1 l3 l4 l6
      · refine q_le (L' := [none, none, none, none, none, none, none]) (lvLe_n (lvLe_n (lvLe_n (lvLe_n (lvLe_n (lvLe_n (lvLe_n lvLe_0))))))) ?_
        exact sX3_layWord_114 X h4
    · refine q_le (L' := [none, none, none, none, none, none, none]) (lvLe_n (lvLe_n (lvLe_n (lvLe_n (lvLe_n (lvLe_n (lvLe_n lvLe_0))))))) ?_
      exact sX3_layWord_114 X h
def fX3_layWord_63 (c : Nat → Option Nat) (h : Hp) (l0 : Option Nat) (l1 : Option Nat) (l2 : Int32) (l3 : Int32) (l4 : Int32) : Rs := fX3_layWord_70 c FU h l0 l1 l3 l4 (mxI l2 (0 : Int32))
set_option maxHeartbeats 4000000 in
set_option maxRecDepth 100000 in
theorem sX3_layWord_63 (X : Cx) {h0 : Hp} (h : Hp) (l0 : Option Nat) (l1 : Option Nat) (l2 : Int32) (l3 : Int32) (l4 : Int32) : Gd X mX3_layWord h0 (fX3_layWord_63 X.2.2.2 h l0 l1 l2 l3 l4) h 63 [some (.inr (.inr l0)), some (.inr (.inr l1)), some (.inl l2), some (.inl l3), some (.inl l4), none, none] [] := by
  unfold fX3_layWord_63
  refine q_run tkX3_layWord 33 2 (pc' := 65) (L' := [some (.inr (.inr l0)), some (.inr (.inr l1)), some (.inl l2), some (.inl l3), some (.inl l4), none, none]) (st' := [.inl (0 : Int32), .inl l2]) rfl ?_
  refine q_mmax (tbm tkX3_layWord (i := 35) rfl) (Nat.le_of_ble_eq_true rfl) (Nat.le_of_ble_eq_true rfl) ⟨wd_656, wd_max⟩ ?_
  refine q_run tkX3_layWord 36 1 (pc' := 70) (L' := [some (.inr (.inr l0)), some (.inr (.inr l1)), some (.inl l2), some (.inl l3), some (.inl l4), none, some (.inl (mxI l2 (0 : Int32)))]) (st' := []) rfl ?_
  refine q_le (L' := [some (.inr (.inr l0)), some (.inr (.inr l1)), none, some (.inl l3), some (.inl l4), none, some (.inl (mxI l2 (0 : Int32)))]) (lvLe_s (lvLe_s (lvLe_n (lvLe_s (lvLe_s (lvLe_n (lvLe_s lvLe_0))))))) ?_
  exact sX3_layWord_70 X FU h l0 l1 l3 l4 (mxI l2 (0 : Int32))
def fX3_layWord_52 (c : Nat → Option Nat) (h : Hp) (l0 : Option Nat) (l1 : Option Nat) (l2 : Int32) (l3 : Int32) (l4 : Int32) : Rs := rdI h l0 5 4 (fun x8 => if 0 < x8 then (ck h l0 5 (cc (fX3_endLine c h l0) (kV fun h9 => fX3_layWord_63 c h9 l0 l1 l2 l3 l4))) else (fX3_layWord_63 c h l0 l1 l2 l3 l4))
set_option maxHeartbeats 4000000 in
set_option maxRecDepth 100000 in
theorem sX3_layWord_52 (X : Cx) {h0 : Hp} (h : Hp) (l0 : Option Nat) (l1 : Option Nat) (l2 : Int32) (l3 : Int32) (l4 : Int32) : Gd X mX3_layWord h0 (fX3_layWord_52 X.2.2.2 h l0 l1 l2 l3 l4) h 52 [some (.inr (.inr l0)), some (.inr (.inr l1)), some (.inl l2), some (.inl l3), some (.inl l4), none, none] [] := by
  unfold fX3_layWord_52
  refine q_run tkX3_layWord 28 1 (pc' := 53) (L' := [some (.inr (.inr l0)), some (.inr (.inr l1)), some (.inl l2), some (.inl l3), some (.inl l4), none, none]) (st' := [.inr (.inr l0)]) rfl ?_
  refine q_rdI RX3 TX3 6 (tbm tkX3_layWord (i := 29) rfl) rfl (Nat.le_of_ble_eq_true rfl) wd_288 (fun x8 => ?_)
  refine q_if_le (tbm tkX3_layWord (i := 30) rfl) ?_ ?_
  · refine q_run tkX3_layWord 31 1 (pc' := 60) (L' := [some (.inr (.inr l0)), some (.inr (.inr l1)), some (.inl l2), some (.inl l3), some (.inl l4), none, none]) (st' := [.inr (.inr l0)]) rfl ?_
    refine q_cv (r := l0) (ci := 5) (n := 0) (as := []) (st := []) TX3 6 (soX3_endLine X h l0) (tbm tkX3_layWord (i := 32) rfl) rfl rfl ceX3_endLine wd_645 wd_8 wd_643 rfl (Nat.le_of_ble_eq_true rfl) (kV_gd (fun h9 => ?_))
    exact sX3_layWord_63 X h9 l0 l1 l2 l3 l4
  · exact sX3_layWord_63 X h l0 l1 l2 l3 l4
def fX3_layWord_29 (c : Nat → Option Nat) (h : Hp) (l0 : Option Nat) (l1 : Option Nat) (l2 : Int32) (l3 : Int32) (l4 : Int32) (s0 : Int32) : Rs := rdI h l0 5 4 (fun x10 => if 0 < x10 then (if s0 = 0 then (fX3_layWord_52 c h l0 l1 l2 l3 l4) else (ck h l0 5 (cc (fX3_addSign c h l0 (32 : Int32)) (kV fun h11 => fX3_layWord_63 c h11 l0 l1 l2 l3 l4)))) else (fX3_layWord_52 c h l0 l1 l2 l3 l4))
set_option maxHeartbeats 4000000 in
set_option maxRecDepth 100000 in
theorem sX3_layWord_29 (X : Cx) {h0 : Hp} (h : Hp) (l0 : Option Nat) (l1 : Option Nat) (l2 : Int32) (l3 : Int32) (l4 : Int32) (s0 : Int32) : Gd X mX3_layWord h0 (fX3_layWord_29 X.2.2.2 h l0 l1 l2 l3 l4 s0) h 29 [some (.inr (.inr l0)), some (.inr (.inr l1)), some (.inl l2), some (.inl l3), some (.inl l4), none, none] [.inl s0] := by
  unfold fX3_layWord_29
  refine q_run tkX3_layWord 18 2 (pc' := 32) (L' := [some (.inr (.inr l0)), some (.inr (.inr l1)), some (.inl l2), some (.inl l3), some (.inl l4), some (.inl s0), none]) (st' := [.inr (.inr l0)]) rfl ?_
  refine q_rdI RX3 TX3 6 (tbm tkX3_layWord (i := 20) rfl) rfl (Nat.le_of_ble_eq_true rfl) wd_288 (fun x10 => ?_)
  refine q_if_le (tbm tkX3_layWord (i := 21) rfl) ?_ ?_
  · refine q_run tkX3_layWord 22 1 (pc' := 40) (L' := [some (.inr (.inr l0)), some (.inr (.inr l1)), some (.inl l2), some (.inl l3), some (.inl l4), some (.inl s0), none]) (st' := [.inl s0]) rfl ?_
    refine q_if_eq (tbm tkX3_layWord (i := 23) rfl) ?_ ?_
    · refine q_le (L' := [some (.inr (.inr l0)), some (.inr (.inr l1)), some (.inl l2), some (.inl l3), some (.inl l4), none, none]) (lvLe_s (lvLe_s (lvLe_s (lvLe_s (lvLe_s (lvLe_n (lvLe_n lvLe_0))))))) ?_
      exact sX3_layWord_52 X h l0 l1 l2 l3 l4
    · refine q_run tkX3_layWord 24 2 (pc' := 46) (L' := [some (.inr (.inr l0)), some (.inr (.inr l1)), some (.inl l2), some (.inl l3), some (.inl l4), some (.inl s0), none]) (st' := [.inl (32 : Int32), .inr (.inr l0)]) rfl ?_
      refine q_cv (r := l0) (ci := 5) (n := 1) (as := [.inl (32 : Int32)]) (st := []) TX3 6 (soX3_addSign X h l0 (32 : Int32)) (tbm tkX3_layWord (i := 26) rfl) rfl rfl ceX3_addSign wd_636 wd_6 wd_634 rfl (Nat.le_of_ble_eq_true rfl) (kV_gd (fun h11 => ?_))
      refine q_run tkX3_layWord 27 1 (pc' := 63) (L' := [some (.inr (.inr l0)), some (.inr (.inr l1)), some (.inl l2), some (.inl l3), some (.inl l4), some (.inl s0), none]) (st' := []) rfl ?_
      refine q_le (L' := [some (.inr (.inr l0)), some (.inr (.inr l1)), some (.inl l2), some (.inl l3), some (.inl l4), none, none]) (lvLe_s (lvLe_s (lvLe_s (lvLe_s (lvLe_s (lvLe_n (lvLe_n lvLe_0))))))) ?_
      exact sX3_layWord_63 X h11 l0 l1 l2 l3 l4
  · refine q_le (L' := [some (.inr (.inr l0)), some (.inr (.inr l1)), some (.inl l2), some (.inl l3), some (.inl l4), none, none]) (lvLe_s (lvLe_s (lvLe_s (lvLe_s (lvLe_s (lvLe_n (lvLe_n lvLe_0))))))) ?_
    exact sX3_layWord_52 X h l0 l1 l2 l3 l4
def fX3_layWord (c : Nat → Option Nat) (h : Hp) (a0 : Option Nat) (a1 : Option Nat) (a2 : Int32) (a3 : Int32) : Rs := rdI h a0 5 0 (fun x12 => rdI h a0 5 4 (fun x13 => if (x12 - (8 : Int32)) < (((x13 + (1 : Int32)) + a3) - a2) then (fX3_layWord_29 c h a0 a1 a2 a3 (x12 - (8 : Int32)) (0 : Int32)) else (fX3_layWord_29 c h a0 a1 a2 a3 (x12 - (8 : Int32)) (1 : Int32))))
set_option maxHeartbeats 4000000 in
set_option maxRecDepth 100000 in
theorem soX3_layWord (X : Cx) (h : Hp) (a0 : Option Nat) (a1 : Option Nat) (a2 : Int32) (a3 : Int32) : SO X mX3_layWord [.inr (.inr a0), .inr (.inr a1), .inl a2, .inl a3] h (fX3_layWord X.2.2.2 h a0 a1 a2 a3) := by
  refine so_of (by decide +kernel) (Nat.le_of_ble_eq_true rfl) ?_
  show Gd X mX3_layWord h (fX3_layWord X.2.2.2 h a0 a1 a2 a3) h 0 [some (.inr (.inr a0)), some (.inr (.inr a1)), some (.inl a2), some (.inl a3), none, none, none] []
  unfold fX3_layWord
  refine q_run tkX3_layWord 0 1 (pc' := 1) (L' := [some (.inr (.inr a0)), some (.inr (.inr a1)), some (.inl a2), some (.inl a3), none, none, none]) (st' := [.inr (.inr a0)]) rfl ?_
  refine q_rdI RX3 TX3 6 (tbm tkX3_layWord (i := 1) rfl) rfl (Nat.le_of_ble_eq_true rfl) wd_281 (fun x12 => ?_)
  refine q_run tkX3_layWord 2 4 (pc' := 10) (L' := [some (.inr (.inr a0)), some (.inr (.inr a1)), some (.inl a2), some (.inl a3), some (.inl (x12 - (8 : Int32))), none, none]) (st' := [.inr (.inr a0)]) rfl ?_
  refine q_rdI RX3 TX3 6 (tbm tkX3_layWord (i := 6) rfl) rfl (Nat.le_of_ble_eq_true rfl) wd_288 (fun x13 => ?_)
  refine q_run tkX3_layWord 7 7 (pc' := 21) (L' := [some (.inr (.inr a0)), some (.inr (.inr a1)), some (.inl a2), some (.inl a3), some (.inl (x12 - (8 : Int32))), none, none]) (st' := [.inl (x12 - (8 : Int32)), .inl (((x13 + (1 : Int32)) + a3) - a2)]) rfl ?_
  refine q_icmp_gt (tbm tkX3_layWord (i := 14) rfl) ?_ ?_
  · refine q_run tkX3_layWord 17 1 (pc' := 29) (L' := [some (.inr (.inr a0)), some (.inr (.inr a1)), some (.inl a2), some (.inl a3), some (.inl (x12 - (8 : Int32))), none, none]) (st' := [.inl (0 : Int32)]) rfl ?_
    exact sX3_layWord_29 X h a0 a1 a2 a3 (x12 - (8 : Int32)) (0 : Int32)
  · refine q_run tkX3_layWord 15 2 (pc' := 29) (L' := [some (.inr (.inr a0)), some (.inr (.inr a1)), some (.inl a2), some (.inl a3), some (.inl (x12 - (8 : Int32))), none, none]) (st' := [.inl (1 : Int32)]) rfl ?_
    exact sX3_layWord_29 X h a0 a1 a2 a3 (x12 - (8 : Int32)) (1 : Int32)
theorem ceX3_layWord : Ce mX3_layWord 3 := ⟨wd_80, wd_655, by decide +kernel, by decide +kernel, by decide +kernel⟩
/-- ReceiptRolls$Sheet.digitsOf -/
abbrev mX3_digitsOf : MI := (yX3_digitsOf, cX3_digitsOf, 3, some .int, 0)
def tbX3_digitsOf : List TE := [(0, .iconst 1, 1, 1, 0), (1, .istore_n 1, 1, 0, 0), (2, .ldc 125, 2, 0, 0), (4, .istore_n 2, 1, 0, 0), (5, .iload_n 2, 1, 0, 0), (6, .iconst 1, 1, 1, 0), (7, .if_icmp .le 19, 3, 0, 26), (10, .iload_n 0, 1, 0, 0), (11, .iload_n 2, 1, 0, 0), (12, .if_icmp .lt 6, 3, 0, 18), (15, .iinc 1 1, 3, 1, 0), (18, .iload_n 2, 1, 0, 0), (19, .bipush 10, 2, 10, 0), (21, .idiv, 1, 0, 0), (22, .istore_n 2, 1, 0, 0), (23, .goto (-18), 3, 0, 5), (26, .iload_n 1, 1, 0, 0), (27, .ireturn, 1, 0, 0)]
theorem tkX3_digitsOf : ∀ x ∈ tbX3_digitsOf, tbB cX3_digitsOf x = true := tb_all (by decide +kernel)
def fX3_digitsOf_18 (c : Nat → Option Nat) (k5 : Hp → Int32 → Int32 → Int32 → Rs) (h : Hp) (l0 : Int32) (l1 : Int32) (l2 : Int32) : Rs := dv (10 : Int32) (k5 h l0 l1 (l2 / (10 : Int32)))
set_option maxHeartbeats 4000000 in
set_option maxRecDepth 100000 in
theorem sX3_digitsOf_18 (X : Cx) {h0 : Hp} (k5 : Hp → Int32 → Int32 → Int32 → Rs) (hk5 : ∀ (h : Hp) (l0 : Int32) (l1 : Int32) (l2 : Int32), Gd X mX3_digitsOf h0 (k5 h l0 l1 l2) h 5 [some (.inl l0), some (.inl l1), some (.inl l2)] []) (h : Hp) (l0 : Int32) (l1 : Int32) (l2 : Int32) : Gd X mX3_digitsOf h0 (fX3_digitsOf_18 X.2.2.2 k5 h l0 l1 l2) h 18 [some (.inl l0), some (.inl l1), some (.inl l2)] [] := by
  unfold fX3_digitsOf_18
  refine q_run tkX3_digitsOf 11 2 (pc' := 21) (L' := [some (.inl l0), some (.inl l1), some (.inl l2)]) (st' := [.inl (10 : Int32), .inl l2]) rfl ?_
  refine q_div (tbm tkX3_digitsOf (i := 13) rfl) ?_
  refine q_run tkX3_digitsOf 14 2 (pc' := 5) (L' := [some (.inl l0), some (.inl l1), some (.inl (l2 / (10 : Int32)))]) (st' := []) rfl ?_
  exact hk5 h l0 l1 (l2 / (10 : Int32))
def fX3_digitsOf_5 (c : Nat → Option Nat) : Nat → Hp → Int32 → Int32 → Int32 → Rs
  | 0, _, _, _, _ => none
  | n + 1, h, l0, l1, l2 => if (1 : Int32) < l2 then (if l0 < l2 then (fX3_digitsOf_18 c (fX3_digitsOf_5 c n) h l0 l1 l2) else (fX3_digitsOf_18 c (fX3_digitsOf_5 c n) h l0 (l1 + (1 : Int32)) l2)) else (some (h, some (.inl l1)))
set_option maxHeartbeats 4000000 in
set_option maxRecDepth 100000 in
theorem sX3_digitsOf_5 (X : Cx) {h0 : Hp} : ∀ (n : Nat) (h : Hp) (l0 : Int32) (l1 : Int32) (l2 : Int32), Gd X mX3_digitsOf h0 (fX3_digitsOf_5 X.2.2.2 n h l0 l1 l2) h 5 [some (.inl l0), some (.inl l1), some (.inl l2)] [] := by
  intro n
  induction n with
  | zero => intros; exact gd_none
  | succ n ih =>
    intro h l0 l1 l2
    unfold fX3_digitsOf_5
    refine q_run tkX3_digitsOf 4 2 (pc' := 7) (L' := [some (.inl l0), some (.inl l1), some (.inl l2)]) (st' := [.inl (1 : Int32), .inl l2]) rfl ?_
    refine q_icmp_le (tbm tkX3_digitsOf (i := 6) rfl) ?_ ?_
    · refine q_run tkX3_digitsOf 7 2 (pc' := 12) (L' := [some (.inl l0), some (.inl l1), some (.inl l2)]) (st' := [.inl l2, .inl l0]) rfl ?_
      refine q_icmp_lt (tbm tkX3_digitsOf (i := 9) rfl) ?_ ?_
      · exact sX3_digitsOf_18 X (fX3_digitsOf_5 X.2.2.2 n) ih h l0 l1 l2
      · refine q_run tkX3_digitsOf 10 1 (pc' := 18) (L' := [some (.inl l0), some (.inl (l1 + (1 : Int32))), some (.inl l2)]) (st' := []) rfl ?_
        exact sX3_digitsOf_18 X (fX3_digitsOf_5 X.2.2.2 n) ih h l0 (l1 + (1 : Int32)) l2
    · refine q_run tkX3_digitsOf 16 1 (pc' := 27) (L' := [some (.inl l0), some (.inl l1), some (.inl l2)]) (st' := [.inl l1]) rfl ?_
      exact q_iret (tbm tkX3_digitsOf (i := 17) rfl) rfl
def fX3_digitsOf (c : Nat → Option Nat) (h : Hp) (a0 : Int32) : Rs := fX3_digitsOf_5 c FU h a0 (1 : Int32) (1000000000 : Int32)
set_option maxHeartbeats 4000000 in
set_option maxRecDepth 100000 in
theorem soX3_digitsOf (X : Cx) (h : Hp) (a0 : Int32) : SO X mX3_digitsOf [.inl a0] h (fX3_digitsOf X.2.2.2 h a0) := by
  refine so_of (by decide +kernel) (Nat.le_of_ble_eq_true rfl) ?_
  show Gd X mX3_digitsOf h (fX3_digitsOf X.2.2.2 h a0) h 0 [some (.inl a0), none, none] []
  unfold fX3_digitsOf
  refine q_run tkX3_digitsOf 0 2 (pc' := 2) (L' := [some (.inl a0), some (.inl (1 : Int32)), none]) (st' := []) rfl ?_
  refine q_ldc (w := (1000000000 : Int32)) (tbm tkX3_digitsOf (i := 2) rfl) wd_642 ?_
  refine q_run tkX3_digitsOf 3 1 (pc' := 5) (L' := [some (.inl a0), some (.inl (1 : Int32)), some (.inl (1000000000 : Int32))]) (st' := []) rfl ?_
  exact sX3_digitsOf_5 X FU h a0 (1 : Int32) (1000000000 : Int32)
theorem ceX3_digitsOf : Ce mX3_digitsOf 1 := ⟨wd_80, wd_667, by decide +kernel, by decide +kernel, by decide +kernel⟩
/-- ReceiptRolls$Sheet.addMoney -/
abbrev mX3_addMoney : MI := (yX3_addMoney, cX3_addMoney, 4, none, 2)
def tbX3_addMoney : List TE := [(0, .iload_n 1, 1, 0, 0), (1, .invokestatic 126, 3, 0, 0), (4, .bipush 100, 2, 100, 0), (6, .idiv, 1, 0, 0), (7, .istore_n 2, 1, 0, 0), (8, .iload_n 1, 1, 0, 0), (9, .invokestatic 126, 3, 0, 0), (12, .bipush 100, 2, 100, 0), (14, .irem, 1, 0, 0), (15, .istore_n 3, 1, 0, 0), (16, .aload_n 0, 1, 0, 0), (17, .aload_n 0, 1, 0, 0), (18, .getfield 84, 3, 0, 0), (21, .iload_n 2, 1, 0, 0), (22, .invokestatic 129, 3, 0, 0), (25, .isub, 1, 0, 0), (26, .iload_n 1, 1, 0, 0), (27, .ifCond .ge 7, 3, 0, 34), (30, .iconst 4, 1, 4, 0), (31, .goto 4, 3, 0, 35), (34, .iconst 3, 1, 3, 0), (35, .isub, 1, 0, 0), (36, .putfield 93, 3, 0, 0), (39, .iload_n 1, 1, 0, 0), (40, .ifCond .ge 9, 3, 0, 49), (43, .aload_n 0, 1, 0, 0), (44, .bipush 45, 2, 45, 0), (46, .invokevirtual 99, 3, 0, 0), (49, .aload_n 0, 1, 0, 0), (50, .iload_n 2, 1, 0, 0), (51, .invokevirtual 25, 3, 0, 0), (54, .aload_n 0, 1, 0, 0), (55, .bipush 46, 2, 46, 0), (57, .invokevirtual 99, 3, 0, 0), (60, .aload_n 0, 1, 0, 0), (61, .bipush 48, 2, 48, 0), (63, .iload_n 3, 1, 0, 0), (64, .bipush 10, 2, 10, 0), (66, .idiv, 1, 0, 0), (67, .iadd, 1, 0, 0), (68, .i2c, 1, 0, 0), (69, .invokevirtual 99, 3, 0, 0), (72, .aload_n 0, 1, 0, 0), (73, .bipush 48, 2, 48, 0), (75, .iload_n 3, 1, 0, 0), (76, .bipush 10, 2, 10, 0), (78, .irem, 1, 0, 0), (79, .iadd, 1, 0, 0), (80, .i2c, 1, 0, 0), (81, .invokevirtual 99, 3, 0, 0), (84, .return_, 1, 0, 0)]
theorem tkX3_addMoney : ∀ x ∈ tbX3_addMoney, tbB cX3_addMoney x = true := tb_all (by decide +kernel)
def fX3_addMoney_49 (c : Nat → Option Nat) (h : Hp) (l0 : Option Nat) (l2 : Int32) (l3 : Int32) : Rs := ck h l0 5 (cc (fX3_addNumber c h l0 l2) (kV fun h1 => ck h1 l0 5 (cc (fX3_addSign c h1 l0 (46 : Int32)) (kV fun h2 => dv (10 : Int32) (ck h2 l0 5 (cc (fX3_addSign c h2 l0 (chI ((48 : Int32) + (l3 / (10 : Int32))))) (kV fun h3 => dv (10 : Int32) (ck h3 l0 5 (cc (fX3_addSign c h3 l0 (chI ((48 : Int32) + (l3 - l3 / (10 : Int32) * (10 : Int32))))) (kV fun h4 => some (h4, none)))))))))))
set_option maxHeartbeats 4000000 in
set_option maxRecDepth 100000 in
theorem sX3_addMoney_49 (X : Cx) {h0 : Hp} (h : Hp) (l0 : Option Nat) (l2 : Int32) (l3 : Int32) : Gd X mX3_addMoney h0 (fX3_addMoney_49 X.2.2.2 h l0 l2 l3) h 49 [some (.inr (.inr l0)), none, some (.inl l2), some (.inl l3)] [] := by
  unfold fX3_addMoney_49
  refine q_run tkX3_addMoney 28 2 (pc' := 51) (L' := [some (.inr (.inr l0)), none, some (.inl l2), some (.inl l3)]) (st' := [.inl l2, .inr (.inr l0)]) rfl ?_
  refine q_cv (r := l0) (ci := 5) (n := 1) (as := [.inl l2]) (st := []) TX3 6 (soX3_addNumber X h l0 l2) (tbm tkX3_addMoney (i := 30) rfl) rfl rfl ceX3_addNumber wd_640 wd_7 wd_638 rfl (Nat.le_of_ble_eq_true rfl) (kV_gd (fun h1 => ?_))
  refine q_run tkX3_addMoney 31 2 (pc' := 57) (L' := [some (.inr (.inr l0)), none, some (.inl l2), some (.inl l3)]) (st' := [.inl (46 : Int32), .inr (.inr l0)]) rfl ?_
  refine q_cv (r := l0) (ci := 5) (n := 1) (as := [.inl (46 : Int32)]) (st := []) TX3 6 (soX3_addSign X h1 l0 (46 : Int32)) (tbm tkX3_addMoney (i := 33) rfl) rfl rfl ceX3_addSign wd_636 wd_6 wd_634 rfl (Nat.le_of_ble_eq_true rfl) (kV_gd (fun h2 => ?_))
  refine q_run tkX3_addMoney 34 4 (pc' := 66) (L' := [some (.inr (.inr l0)), none, some (.inl l2), some (.inl l3)]) (st' := [.inl (10 : Int32), .inl l3, .inl (48 : Int32), .inr (.inr l0)]) rfl ?_
  refine q_div (tbm tkX3_addMoney (i := 38) rfl) ?_
  refine q_run tkX3_addMoney 39 2 (pc' := 69) (L' := [some (.inr (.inr l0)), none, some (.inl l2), some (.inl l3)]) (st' := [.inl (chI ((48 : Int32) + (l3 / (10 : Int32)))), .inr (.inr l0)]) rfl ?_
  refine q_cv (r := l0) (ci := 5) (n := 1) (as := [.inl (chI ((48 : Int32) + (l3 / (10 : Int32))))]) (st := []) TX3 6 (soX3_addSign X h2 l0 (chI ((48 : Int32) + (l3 / (10 : Int32))))) (tbm tkX3_addMoney (i := 41) rfl) rfl rfl ceX3_addSign wd_636 wd_6 wd_634 rfl (Nat.le_of_ble_eq_true rfl) (kV_gd (fun h3 => ?_))
  refine q_run tkX3_addMoney 42 4 (pc' := 78) (L' := [some (.inr (.inr l0)), none, some (.inl l2), some (.inl l3)]) (st' := [.inl (10 : Int32), .inl l3, .inl (48 : Int32), .inr (.inr l0)]) rfl ?_
  refine q_rem (tbm tkX3_addMoney (i := 46) rfl) ?_
  refine q_run tkX3_addMoney 47 2 (pc' := 81) (L' := [some (.inr (.inr l0)), none, some (.inl l2), some (.inl l3)]) (st' := [.inl (chI ((48 : Int32) + (l3 - l3 / (10 : Int32) * (10 : Int32)))), .inr (.inr l0)]) rfl ?_
  refine q_cv (r := l0) (ci := 5) (n := 1) (as := [.inl (chI ((48 : Int32) + (l3 - l3 / (10 : Int32) * (10 : Int32))))]) (st := []) TX3 6 (soX3_addSign X h3 l0 (chI ((48 : Int32) + (l3 - l3 / (10 : Int32) * (10 : Int32))))) (tbm tkX3_addMoney (i := 49) rfl) rfl rfl ceX3_addSign wd_636 wd_6 wd_634 rfl (Nat.le_of_ble_eq_true rfl) (kV_gd (fun h4 => ?_))
  exact q_vret (tbm tkX3_addMoney (i := 50) rfl) rfl
def fX3_addMoney_35 (c : Nat → Option Nat) (h : Hp) (l0 : Option Nat) (l1 : Int32) (l2 : Int32) (l3 : Int32) (s0 : Option Nat) (s1 : Int32) (s2 : Int32) : Rs := wr h s0 5 4 (.inl (s1 - s2)) (fun h5 => if l1 < 0 then (ck h5 l0 5 (cc (fX3_addSign c h5 l0 (45 : Int32)) (kV fun h6 => fX3_addMoney_49 c h6 l0 l2 l3))) else (fX3_addMoney_49 c h5 l0 l2 l3))
set_option maxHeartbeats 4000000 in
set_option maxRecDepth 100000 in
theorem sX3_addMoney_35 (X : Cx) {h0 : Hp} (h : Hp) (l0 : Option Nat) (l1 : Int32) (l2 : Int32) (l3 : Int32) (s0 : Option Nat) (s1 : Int32) (s2 : Int32) : Gd X mX3_addMoney h0 (fX3_addMoney_35 X.2.2.2 h l0 l1 l2 l3 s0 s1 s2) h 35 [some (.inr (.inr l0)), some (.inl l1), some (.inl l2), some (.inl l3)] [.inl s2, .inl s1, .inr (.inr s0)] := by
  unfold fX3_addMoney_35
  refine q_run tkX3_addMoney 21 1 (pc' := 36) (L' := [some (.inr (.inr l0)), some (.inl l1), some (.inl l2), some (.inl l3)]) (st' := [.inl (s1 - s2), .inr (.inr s0)]) rfl ?_
  refine q_wr RX3 TX3 6 (tbm tkX3_addMoney (i := 22) rfl) rfl (Nat.le_of_ble_eq_true rfl) (Or.inl rfl) wd_288 (fun h5 => ?_)
  refine q_run tkX3_addMoney 23 1 (pc' := 40) (L' := [some (.inr (.inr l0)), some (.inl l1), some (.inl l2), some (.inl l3)]) (st' := [.inl l1]) rfl ?_
  refine q_if_ge (tbm tkX3_addMoney (i := 24) rfl) ?_ ?_
  · refine q_run tkX3_addMoney 25 2 (pc' := 46) (L' := [some (.inr (.inr l0)), some (.inl l1), some (.inl l2), some (.inl l3)]) (st' := [.inl (45 : Int32), .inr (.inr l0)]) rfl ?_
    refine q_cv (r := l0) (ci := 5) (n := 1) (as := [.inl (45 : Int32)]) (st := []) TX3 6 (soX3_addSign X h5 l0 (45 : Int32)) (tbm tkX3_addMoney (i := 27) rfl) rfl rfl ceX3_addSign wd_636 wd_6 wd_634 rfl (Nat.le_of_ble_eq_true rfl) (kV_gd (fun h6 => ?_))
    refine q_le (L' := [some (.inr (.inr l0)), none, some (.inl l2), some (.inl l3)]) (lvLe_s (lvLe_n (lvLe_s (lvLe_s lvLe_0)))) ?_
    exact sX3_addMoney_49 X h6 l0 l2 l3
  · refine q_le (L' := [some (.inr (.inr l0)), none, some (.inl l2), some (.inl l3)]) (lvLe_s (lvLe_n (lvLe_s (lvLe_s lvLe_0)))) ?_
    exact sX3_addMoney_49 X h5 l0 l2 l3
def fX3_addMoney (c : Nat → Option Nat) (h : Hp) (a0 : Option Nat) (a1 : Int32) : Rs := dv (100 : Int32) (dv (100 : Int32) (rdI h a0 5 0 (fun x7 => cc (fX3_digitsOf c h ((abI a1) / (100 : Int32))) (kI fun h8 x9 => if a1 < 0 then (fX3_addMoney_35 c h8 a0 a1 ((abI a1) / (100 : Int32)) ((abI a1) - (abI a1) / (100 : Int32) * (100 : Int32)) a0 (x7 - x9) (4 : Int32)) else (fX3_addMoney_35 c h8 a0 a1 ((abI a1) / (100 : Int32)) ((abI a1) - (abI a1) / (100 : Int32) * (100 : Int32)) a0 (x7 - x9) (3 : Int32))))))
set_option maxHeartbeats 4000000 in
set_option maxRecDepth 100000 in
theorem soX3_addMoney (X : Cx) (h : Hp) (a0 : Option Nat) (a1 : Int32) : SO X mX3_addMoney [.inr (.inr a0), .inl a1] h (fX3_addMoney X.2.2.2 h a0 a1) := by
  refine so_of (by decide +kernel) (Nat.le_of_ble_eq_true rfl) ?_
  show Gd X mX3_addMoney h (fX3_addMoney X.2.2.2 h a0 a1) h 0 [some (.inr (.inr a0)), some (.inl a1), none, none] []
  unfold fX3_addMoney
  refine q_run tkX3_addMoney 0 1 (pc' := 1) (L' := [some (.inr (.inr a0)), some (.inl a1), none, none]) (st' := [.inl a1]) rfl ?_
  refine q_mabs (tbm tkX3_addMoney (i := 1) rfl) (Nat.le_of_ble_eq_true rfl) (Nat.le_of_ble_eq_true rfl) ⟨wd_662, wd_abs⟩ ?_
  refine q_run tkX3_addMoney 2 1 (pc' := 6) (L' := [some (.inr (.inr a0)), some (.inl a1), none, none]) (st' := [.inl (100 : Int32), .inl (abI a1)]) rfl ?_
  refine q_div (tbm tkX3_addMoney (i := 3) rfl) ?_
  refine q_run tkX3_addMoney 4 2 (pc' := 9) (L' := [some (.inr (.inr a0)), some (.inl a1), some (.inl ((abI a1) / (100 : Int32))), none]) (st' := [.inl a1]) rfl ?_
  refine q_mabs (tbm tkX3_addMoney (i := 6) rfl) (Nat.le_of_ble_eq_true rfl) (Nat.le_of_ble_eq_true rfl) ⟨wd_662, wd_abs⟩ ?_
  refine q_run tkX3_addMoney 7 1 (pc' := 14) (L' := [some (.inr (.inr a0)), some (.inl a1), some (.inl ((abI a1) / (100 : Int32))), none]) (st' := [.inl (100 : Int32), .inl (abI a1)]) rfl ?_
  refine q_rem (tbm tkX3_addMoney (i := 8) rfl) ?_
  refine q_run tkX3_addMoney 9 3 (pc' := 18) (L' := [some (.inr (.inr a0)), some (.inl a1), some (.inl ((abI a1) / (100 : Int32))), some (.inl ((abI a1) - (abI a1) / (100 : Int32) * (100 : Int32)))]) (st' := [.inr (.inr a0), .inr (.inr a0)]) rfl ?_
  refine q_rdI RX3 TX3 6 (tbm tkX3_addMoney (i := 12) rfl) rfl (Nat.le_of_ble_eq_true rfl) wd_281 (fun x7 => ?_)
  refine q_run tkX3_addMoney 13 1 (pc' := 22) (L' := [some (.inr (.inr a0)), some (.inl a1), some (.inl ((abI a1) / (100 : Int32))), some (.inl ((abI a1) - (abI a1) / (100 : Int32) * (100 : Int32)))]) (st' := [.inl ((abI a1) / (100 : Int32)), .inl x7, .inr (.inr a0)]) rfl ?_
  refine q_cs (n := 1) (as := [.inl ((abI a1) / (100 : Int32))]) (st := [.inl x7, .inr (.inr a0)]) (soX3_digitsOf X h ((abI a1) / (100 : Int32))) (tbm tkX3_addMoney (i := 14) rfl) rfl ceX3_digitsOf wd_666 wd_665 rfl (Nat.le_of_ble_eq_true rfl) (kI_gd (fun h8 x9 => ?_))
  refine q_run tkX3_addMoney 15 2 (pc' := 27) (L' := [some (.inr (.inr a0)), some (.inl a1), some (.inl ((abI a1) / (100 : Int32))), some (.inl ((abI a1) - (abI a1) / (100 : Int32) * (100 : Int32)))]) (st' := [.inl a1, .inl (x7 - x9), .inr (.inr a0)]) rfl ?_
  refine q_if_ge (tbm tkX3_addMoney (i := 17) rfl) ?_ ?_
  · refine q_run tkX3_addMoney 18 2 (pc' := 35) (L' := [some (.inr (.inr a0)), some (.inl a1), some (.inl ((abI a1) / (100 : Int32))), some (.inl ((abI a1) - (abI a1) / (100 : Int32) * (100 : Int32)))]) (st' := [.inl (4 : Int32), .inl (x7 - x9), .inr (.inr a0)]) rfl ?_
    exact sX3_addMoney_35 X h8 a0 a1 ((abI a1) / (100 : Int32)) ((abI a1) - (abI a1) / (100 : Int32) * (100 : Int32)) a0 (x7 - x9) (4 : Int32)
  · refine q_run tkX3_addMoney 20 1 (pc' := 35) (L' := [some (.inr (.inr a0)), some (.inl a1), some (.inl ((abI a1) / (100 : Int32))), some (.inl ((abI a1) - (abI a1) / (100 : Int32) * (100 : Int32)))]) (st' := [.inl (3 : Int32), .inl (x7 - x9), .inr (.inr a0)]) rfl ?_
    exact sX3_addMoney_35 X h8 a0 a1 ((abI a1) / (100 : Int32)) ((abI a1) - (abI a1) / (100 : Int32) * (100 : Int32)) a0 (x7 - x9) (3 : Int32)
theorem ceX3_addMoney : Ce mX3_addMoney 1 := ⟨wd_80, wd_661, by decide +kernel, by decide +kernel, by decide +kernel⟩
/-- ReceiptRolls$Sheet.layItem -/
abbrev mX3_layItem : MI := (yX3_layItem, cX3_layItem, 5, none, 5)
def tbX3_layItem : List TE := [(0, .aload_n 0, 1, 0, 0), (1, .getfield 81, 3, 0, 0), (4, .istore_n 2, 1, 0, 0), (5, .aload_n 1, 1, 0, 0), (6, .getfield 96, 3, 0, 0), (9, .iconst 1, 1, 1, 0), (10, .if_icmp .le 17, 3, 0, 27), (13, .aload_n 0, 1, 0, 0), (14, .aload_n 1, 1, 0, 0), (15, .getfield 96, 3, 0, 0), (18, .invokevirtual 25, 3, 0, 0), (21, .aload_n 0, 1, 0, 0), (22, .bipush 120, 2, 120, 0), (24, .invokevirtual 99, 3, 0, 0), (27, .iconst 0, 1, 0, 0), (28, .istore_n 3, 1, 0, 0), (29, .iconst 0, 1, 0, 0), (30, .istore 4, 2, 0, 0), (32, .iload 4, 2, 0, 0), (34, .aload_n 1, 1, 0, 0), (35, .getfield 103, 3, 0, 0), (38, .invokevirtual 107, 3, 0, 0), (41, .if_icmp .gt 51, 3, 0, 92), (44, .iload 4, 2, 0, 0), (46, .aload_n 1, 1, 0, 0), (47, .getfield 103, 3, 0, 0), (50, .invokevirtual 107, 3, 0, 0), (53, .if_icmp .eq 17, 3, 0, 70), (56, .aload_n 1, 1, 0, 0), (57, .getfield 103, 3, 0, 0), (60, .iload 4, 2, 0, 0), (62, .invokevirtual 112, 3, 0, 0), (65, .bipush 95, 2, 95, 0), (67, .if_icmp .ne 19, 3, 0, 86), (70, .aload_n 0, 1, 0, 0), (71, .aload_n 1, 1, 0, 0), (72, .getfield 103, 3, 0, 0), (75, .iload_n 3, 1, 0, 0), (76, .iload 4, 2, 0, 0), (78, .invokevirtual 116, 3, 0, 0), (81, .iload 4, 2, 0, 0), (83, .iconst 1, 1, 1, 0), (84, .iadd, 1, 0, 0), (85, .istore_n 3, 1, 0, 0), (86, .iinc 4 1, 3, 1, 0), (89, .goto (-57), 3, 0, 32), (92, .iload_n 2, 1, 0, 0), (93, .aload_n 0, 1, 0, 0), (94, .getfield 87, 3, 0, 0), (97, .if_icmp .gt 19, 3, 0, 116), (100, .aload_n 0, 1, 0, 0), (101, .getfield 87, 3, 0, 0), (104, .aload_n 0, 1, 0, 0), (105, .getfield 81, 3, 0, 0), (108, .if_icmp .gt 8, 3, 0, 116), (111, .aload_n 0, 1, 0, 0), (112, .iload_n 2, 1, 0, 0), (113, .putfield 90, 3, 0, 0), (116, .aload_n 0, 1, 0, 0), (117, .aload_n 1, 1, 0, 0), (118, .invokevirtual 52, 3, 0, 0), (121, .invokevirtual 66, 3, 0, 0), (124, .aload_n 0, 1, 0, 0), (125, .invokevirtual 29, 3, 0, 0), (128, .return_, 1, 0, 0)]
theorem tkX3_layItem : ∀ x ∈ tbX3_layItem, tbB cX3_layItem x = true := tb_all (by decide +kernel)
def fX3_layItem_86 (c : Nat → Option Nat) (k32 : Hp → Option Nat → Option Nat → Int32 → Int32 → Int32 → Rs) (h : Hp) (l0 : Option Nat) (l1 : Option Nat) (l2 : Int32) (l3 : Int32) (l4 : Int32) : Rs := k32 h l0 l1 l2 l3 (l4 + (1 : Int32))
set_option maxHeartbeats 4000000 in
set_option maxRecDepth 100000 in
theorem sX3_layItem_86 (X : Cx) {h0 : Hp} (k32 : Hp → Option Nat → Option Nat → Int32 → Int32 → Int32 → Rs) (hk32 : ∀ (h : Hp) (l0 : Option Nat) (l1 : Option Nat) (l2 : Int32) (l3 : Int32) (l4 : Int32), Gd X mX3_layItem h0 (k32 h l0 l1 l2 l3 l4) h 32 [some (.inr (.inr l0)), some (.inr (.inr l1)), some (.inl l2), some (.inl l3), some (.inl l4)] []) (h : Hp) (l0 : Option Nat) (l1 : Option Nat) (l2 : Int32) (l3 : Int32) (l4 : Int32) : Gd X mX3_layItem h0 (fX3_layItem_86 X.2.2.2 k32 h l0 l1 l2 l3 l4) h 86 [some (.inr (.inr l0)), some (.inr (.inr l1)), some (.inl l2), some (.inl l3), some (.inl l4)] [] := by
  unfold fX3_layItem_86
  refine q_run tkX3_layItem 44 2 (pc' := 32) (L' := [some (.inr (.inr l0)), some (.inr (.inr l1)), some (.inl l2), some (.inl l3), some (.inl (l4 + (1 : Int32)))]) (st' := []) rfl ?_
  exact hk32 h l0 l1 l2 l3 (l4 + (1 : Int32))
def fX3_layItem_70 (c : Nat → Option Nat) (k32 : Hp → Option Nat → Option Nat → Int32 → Int32 → Int32 → Rs) (h : Hp) (l0 : Option Nat) (l1 : Option Nat) (l2 : Int32) (l3 : Int32) (l4 : Int32) : Rs := rdR h l1 3 0 (fun r1 => ck h l0 5 (cc (fX3_layWord c h l0 r1 l3 l4) (kV fun h2 => fX3_layItem_86 c k32 h2 l0 l1 l2 (l4 + (1 : Int32)) l4)))
set_option maxHeartbeats 4000000 in
set_option maxRecDepth 100000 in
theorem sX3_layItem_70 (X : Cx) {h0 : Hp} (k32 : Hp → Option Nat → Option Nat → Int32 → Int32 → Int32 → Rs) (hk32 : ∀ (h : Hp) (l0 : Option Nat) (l1 : Option Nat) (l2 : Int32) (l3 : Int32) (l4 : Int32), Gd X mX3_layItem h0 (k32 h l0 l1 l2 l3 l4) h 32 [some (.inr (.inr l0)), some (.inr (.inr l1)), some (.inl l2), some (.inl l3), some (.inl l4)] []) (h : Hp) (l0 : Option Nat) (l1 : Option Nat) (l2 : Int32) (l3 : Int32) (l4 : Int32) : Gd X mX3_layItem h0 (fX3_layItem_70 X.2.2.2 k32 h l0 l1 l2 l3 l4) h 70 [some (.inr (.inr l0)), some (.inr (.inr l1)), some (.inl l2), some (.inl l3), some (.inl l4)] [] := by
  unfold fX3_layItem_70
  refine q_run tkX3_layItem 34 2 (pc' := 72) (L' := [some (.inr (.inr l0)), some (.inr (.inr l1)), some (.inl l2), some (.inl l3), some (.inl l4)]) (st' := [.inr (.inr l1), .inr (.inr l0)]) rfl ?_
  refine q_rdR RX1 TX1 4 (tbm tkX3_layItem (i := 36) rfl) rfl (Nat.le_of_ble_eq_true rfl) wd_489 (fun r1 => ?_)
  refine q_run tkX3_layItem 37 2 (pc' := 78) (L' := [some (.inr (.inr l0)), some (.inr (.inr l1)), some (.inl l2), some (.inl l3), some (.inl l4)]) (st' := [.inl l4, .inl l3, .inr (.inr r1), .inr (.inr l0)]) rfl ?_
  refine q_cv (r := l0) (ci := 5) (n := 3) (as := [.inr (.inr r1), .inl l3, .inl l4]) (st := []) TX3 6 (soX3_layWord X h l0 r1 l3 l4) (tbm tkX3_layItem (i := 39) rfl) rfl rfl ceX3_layWord wd_654 wd_10 wd_652 rfl (Nat.le_of_ble_eq_true rfl) (kV_gd (fun h2 => ?_))
  refine q_run tkX3_layItem 40 4 (pc' := 86) (L' := [some (.inr (.inr l0)), some (.inr (.inr l1)), some (.inl l2), some (.inl (l4 + (1 : Int32))), some (.inl l4)]) (st' := []) rfl ?_
  exact sX3_layItem_86 X k32 hk32 h2 l0 l1 l2 (l4 + (1 : Int32)) l4
def fX3_layItem_116 (c : Nat → Option Nat) (h : Hp) (l0 : Option Nat) (l1 : Option Nat) : Rs := ck h l1 3 (cc (fX1_sum c h l1) (kI fun h3 x4 => ck h3 l0 5 (cc (fX3_addMoney c h3 l0 x4) (kV fun h5 => ck h5 l0 5 (cc (fX3_endLine c h5 l0) (kV fun h6 => some (h6, none)))))))
set_option maxHeartbeats 4000000 in
set_option maxRecDepth 100000 in
theorem sX3_layItem_116 (X : Cx) {h0 : Hp} (h : Hp) (l0 : Option Nat) (l1 : Option Nat) : Gd X mX3_layItem h0 (fX3_layItem_116 X.2.2.2 h l0 l1) h 116 [some (.inr (.inr l0)), some (.inr (.inr l1)), none, none, none] [] := by
  unfold fX3_layItem_116
  refine q_run tkX3_layItem 58 2 (pc' := 118) (L' := [some (.inr (.inr l0)), some (.inr (.inr l1)), none, none, none]) (st' := [.inr (.inr l1), .inr (.inr l0)]) rfl ?_
  refine q_cv (r := l1) (ci := 3) (n := 0) (as := []) (st := [.inr (.inr l0)]) TX1 4 (soX1_sum X h l1) (tbm tkX3_layItem (i := 60) rfl) rfl rfl ceX1_sum wd_576 wd_577 wd_657 rfl (Nat.le_of_ble_eq_true rfl) (kI_gd (fun h3 x4 => ?_))
  refine q_cv (r := l0) (ci := 5) (n := 1) (as := [.inl x4]) (st := []) TX3 6 (soX3_addMoney X h3 l0 x4) (tbm tkX3_layItem (i := 61) rfl) rfl rfl ceX3_addMoney wd_660 wd_11 wd_658 rfl (Nat.le_of_ble_eq_true rfl) (kV_gd (fun h5 => ?_))
  refine q_run tkX3_layItem 62 1 (pc' := 125) (L' := [some (.inr (.inr l0)), some (.inr (.inr l1)), none, none, none]) (st' := [.inr (.inr l0)]) rfl ?_
  refine q_cv (r := l0) (ci := 5) (n := 0) (as := []) (st := []) TX3 6 (soX3_endLine X h5 l0) (tbm tkX3_layItem (i := 63) rfl) rfl rfl ceX3_endLine wd_645 wd_8 wd_643 rfl (Nat.le_of_ble_eq_true rfl) (kV_gd (fun h6 => ?_))
  exact q_vret (tbm tkX3_layItem (i := 64) rfl) rfl
def fX3_layItem_32 (c : Nat → Option Nat) : Nat → Hp → Option Nat → Option Nat → Int32 → Int32 → Int32 → Rs
  | 0, _, _, _, _, _, _ => none
  | n + 1, h, l0, l1, l2, l3, l4 => rdR h l1 3 0 (fun r7 => ck h r7 0 (cc (fJ0_length_8abf5 c h r7) (kI fun h8 x9 => if x9 < l4 then (rdI h8 l0 5 3 (fun x10 => if x10 < l2 then (fX3_layItem_116 c h8 l0 l1) else (rdI h8 l0 5 3 (fun x11 => rdI h8 l0 5 1 (fun x12 => if x12 < x11 then (fX3_layItem_116 c h8 l0 l1) else (wr h8 l0 5 2 (.inl l2) (fun h13 => fX3_layItem_116 c h13 l0 l1))))))) else (rdR h8 l1 3 0 (fun r14 => ck h8 r14 0 (cc (fJ0_length_8abf5 c h8 r14) (kI fun h15 x16 => if l4 = x16 then (fX3_layItem_70 c (fX3_layItem_32 c n) h15 l0 l1 l2 l3 l4) else (rdR h15 l1 3 0 (fun r17 => ck h15 r17 0 (cc (fJ0_charAt_5068e c h15 r17 l4) (kI fun h18 x19 => if x19 = (95 : Int32) then (fX3_layItem_70 c (fX3_layItem_32 c n) h18 l0 l1 l2 l3 l4) else (fX3_layItem_86 c (fX3_layItem_32 c n) h18 l0 l1 l2 l3 l4))))))))))))
set_option maxHeartbeats 4000000 in
set_option maxRecDepth 100000 in
theorem sX3_layItem_32 (X : Cx) {h0 : Hp} : ∀ (n : Nat) (h : Hp) (l0 : Option Nat) (l1 : Option Nat) (l2 : Int32) (l3 : Int32) (l4 : Int32), Gd X mX3_layItem h0 (fX3_layItem_32 X.2.2.2 n h l0 l1 l2 l3 l4) h 32 [some (.inr (.inr l0)), some (.inr (.inr l1)), some (.inl l2), some (.inl l3), some (.inl l4)] [] := by
  intro n
  induction n with
  | zero => intros; exact gd_none
  | succ n ih =>
    intro h l0 l1 l2 l3 l4
    unfold fX3_layItem_32
    refine q_run tkX3_layItem 18 2 (pc' := 35) (L' := [some (.inr (.inr l0)), some (.inr (.inr l1)), some (.inl l2), some (.inl l3), some (.inl l4)]) (st' := [.inr (.inr l1), .inl l4]) rfl ?_
    refine q_rdR RX1 TX1 4 (tbm tkX3_layItem (i := 20) rfl) rfl (Nat.le_of_ble_eq_true rfl) wd_489 (fun r7 => ?_)
    refine q_cv (r := r7) (ci := 0) (n := 0) (as := []) (st := [.inl l4]) TJ0 4 (soJ0_length_8abf5 X h r7) (tbm tkX3_layItem (i := 21) rfl) rfl rfl ceJ0_length_8abf5 wd_608 wd_609 wd_607 rfl (Nat.le_of_ble_eq_true rfl) (kI_gd (fun h8 x9 => ?_))
    refine q_icmp_gt (tbm tkX3_layItem (i := 22) rfl) ?_ ?_
    · refine q_run tkX3_layItem 46 2 (pc' := 94) (L' := [some (.inr (.inr l0)), some (.inr (.inr l1)), some (.inl l2), some (.inl l3), some (.inl l4)]) (st' := [.inr (.inr l0), .inl l2]) rfl ?_
      refine q_rdI RX3 TX3 6 (tbm tkX3_layItem (i := 48) rfl) rfl (Nat.le_of_ble_eq_true rfl) wd_287 (fun x10 => ?_)
      refine q_icmp_gt (tbm tkX3_layItem (i := 49) rfl) ?_ ?_
      · refine q_le (L' := [some (.inr (.inr l0)), some (.inr (.inr l1)), none, none, none]) (lvLe_s (lvLe_s (lvLe_n (lvLe_n (lvLe_n lvLe_0))))) ?_
        exact sX3_layItem_116 X h8 l0 l1
      · refine q_run tkX3_layItem 50 1 (pc' := 101) (L' := [some (.inr (.inr l0)), some (.inr (.inr l1)), some (.inl l2), some (.inl l3), some (.inl l4)]) (st' := [.inr (.inr l0)]) rfl ?_
        refine q_rdI RX3 TX3 6 (tbm tkX3_layItem (i := 51) rfl) rfl (Nat.le_of_ble_eq_true rfl) wd_287 (fun x11 => ?_)
        refine q_run tkX3_layItem 52 1 (pc' := 105) (L' := [some (.inr (.inr l0)), some (.inr (.inr l1)), some (.inl l2), some (.inl l3), some (.inl l4)]) (st' := [.inr (.inr l0), .inl x11]) rfl ?_
        refine q_rdI RX3 TX3 6 (tbm tkX3_layItem (i := 53) rfl) rfl (Nat.le_of_ble_eq_true rfl) wd_283 (fun x12 => ?_)
        refine q_icmp_gt (tbm tkX3_layItem (i := 54) rfl) ?_ ?_
        · refine q_le (L' := [some (.inr (.inr l0)), some (.inr (.inr l1)), none, none, none]) (lvLe_s (lvLe_s (lvLe_n (lvLe_n (lvLe_n lvLe_0))))) ?_
          exact sX3_layItem_116 X h8 l0 l1
        · refine q_run tkX3_layItem 55 2 (pc' := 113) (L' := [some (.inr (.inr l0)), some (.inr (.inr l1)), some (.inl l2), some (.inl l3), some (.inl l4)]) (st' := [.inl l2, .inr (.inr l0)]) rfl ?_
          refine q_wr RX3 TX3 6 (tbm tkX3_layItem (i := 57) rfl) rfl (Nat.le_of_ble_eq_true rfl) (Or.inl rfl) wd_285 (fun h13 => ?_)
          refine q_le (L' := [some (.inr (.inr l0)), some (.inr (.inr l1)), none, none, none]) (lvLe_s (lvLe_s (lvLe_n (lvLe_n (lvLe_n lvLe_0))))) ?_
          exact sX3_layItem_116 X h13 l0 l1
    · refine q_run tkX3_layItem 23 2 (pc' := 47) (L' := [some (.inr (.inr l0)), some (.inr (.inr l1)), some (.inl l2), some (.inl l3), some (.inl l4)]) (st' := [.inr (.inr l1), .inl l4]) rfl ?_
      refine q_rdR RX1 TX1 4 (tbm tkX3_layItem (i := 25) rfl) rfl (Nat.le_of_ble_eq_true rfl) wd_489 (fun r14 => ?_)
      refine q_cv (r := r14) (ci := 0) (n := 0) (as := []) (st := [.inl l4]) TJ0 4 (soJ0_length_8abf5 X h8 r14) (tbm tkX3_layItem (i := 26) rfl) rfl rfl ceJ0_length_8abf5 wd_608 wd_609 wd_607 rfl (Nat.le_of_ble_eq_true rfl) (kI_gd (fun h15 x16 => ?_))
      refine q_icmp_eq (tbm tkX3_layItem (i := 27) rfl) ?_ ?_
      · exact sX3_layItem_70 X (fX3_layItem_32 X.2.2.2 n) ih h15 l0 l1 l2 l3 l4
      · refine q_run tkX3_layItem 28 1 (pc' := 57) (L' := [some (.inr (.inr l0)), some (.inr (.inr l1)), some (.inl l2), some (.inl l3), some (.inl l4)]) (st' := [.inr (.inr l1)]) rfl ?_
        refine q_rdR RX1 TX1 4 (tbm tkX3_layItem (i := 29) rfl) rfl (Nat.le_of_ble_eq_true rfl) wd_489 (fun r17 => ?_)
        refine q_run tkX3_layItem 30 1 (pc' := 62) (L' := [some (.inr (.inr l0)), some (.inr (.inr l1)), some (.inl l2), some (.inl l3), some (.inl l4)]) (st' := [.inl l4, .inr (.inr r17)]) rfl ?_
        refine q_cv (r := r17) (ci := 0) (n := 1) (as := [.inl l4]) (st := []) TJ0 4 (soJ0_charAt_5068e X h15 r17 l4) (tbm tkX3_layItem (i := 31) rfl) rfl rfl ceJ0_charAt_5068e wd_616 wd_617 wd_615 rfl (Nat.le_of_ble_eq_true rfl) (kI_gd (fun h18 x19 => ?_))
        refine q_run tkX3_layItem 32 1 (pc' := 67) (L' := [some (.inr (.inr l0)), some (.inr (.inr l1)), some (.inl l2), some (.inl l3), some (.inl l4)]) (st' := [.inl (95 : Int32), .inl x19]) rfl ?_
        refine q_icmp_ne (tbm tkX3_layItem (i := 33) rfl) ?_ ?_
        · exact sX3_layItem_70 X (fX3_layItem_32 X.2.2.2 n) ih h18 l0 l1 l2 l3 l4
        · exact sX3_layItem_86 X (fX3_layItem_32 X.2.2.2 n) ih h18 l0 l1 l2 l3 l4
def fX3_layItem_27 (c : Nat → Option Nat) (h : Hp) (l0 : Option Nat) (l1 : Option Nat) (l2 : Int32) : Rs := fX3_layItem_32 c FU h l0 l1 l2 (0 : Int32) (0 : Int32)
set_option maxHeartbeats 4000000 in
set_option maxRecDepth 100000 in
theorem sX3_layItem_27 (X : Cx) {h0 : Hp} (h : Hp) (l0 : Option Nat) (l1 : Option Nat) (l2 : Int32) : Gd X mX3_layItem h0 (fX3_layItem_27 X.2.2.2 h l0 l1 l2) h 27 [some (.inr (.inr l0)), some (.inr (.inr l1)), some (.inl l2), none, none] [] := by
  unfold fX3_layItem_27
  refine q_run tkX3_layItem 14 4 (pc' := 32) (L' := [some (.inr (.inr l0)), some (.inr (.inr l1)), some (.inl l2), some (.inl (0 : Int32)), some (.inl (0 : Int32))]) (st' := []) rfl ?_
  exact sX3_layItem_32 X FU h l0 l1 l2 (0 : Int32) (0 : Int32)
def fX3_layItem (c : Nat → Option Nat) (h : Hp) (a0 : Option Nat) (a1 : Option Nat) : Rs := rdI h a0 5 1 (fun x20 => rdI h a1 3 1 (fun x21 => if (1 : Int32) < x21 then (rdI h a1 3 1 (fun x22 => ck h a0 5 (cc (fX3_addNumber c h a0 x22) (kV fun h23 => ck h23 a0 5 (cc (fX3_addSign c h23 a0 (120 : Int32)) (kV fun h24 => fX3_layItem_27 c h24 a0 a1 x20)))))) else (fX3_layItem_27 c h a0 a1 x20)))
set_option maxHeartbeats 4000000 in
set_option maxRecDepth 100000 in
theorem soX3_layItem (X : Cx) (h : Hp) (a0 : Option Nat) (a1 : Option Nat) : SO X mX3_layItem [.inr (.inr a0), .inr (.inr a1)] h (fX3_layItem X.2.2.2 h a0 a1) := by
  refine so_of (by decide +kernel) (Nat.le_of_ble_eq_true rfl) ?_
  show Gd X mX3_layItem h (fX3_layItem X.2.2.2 h a0 a1) h 0 [some (.inr (.inr a0)), some (.inr (.inr a1)), none, none, none] []
  unfold fX3_layItem
  refine q_run tkX3_layItem 0 1 (pc' := 1) (L' := [some (.inr (.inr a0)), some (.inr (.inr a1)), none, none, none]) (st' := [.inr (.inr a0)]) rfl ?_
  refine q_rdI RX3 TX3 6 (tbm tkX3_layItem (i := 1) rfl) rfl (Nat.le_of_ble_eq_true rfl) wd_283 (fun x20 => ?_)
  refine q_run tkX3_layItem 2 2 (pc' := 6) (L' := [some (.inr (.inr a0)), some (.inr (.inr a1)), some (.inl x20), none, none]) (st' := [.inr (.inr a1)]) rfl ?_
  refine q_rdI RX1 TX1 4 (tbm tkX3_layItem (i := 4) rfl) rfl (Nat.le_of_ble_eq_true rfl) wd_492 (fun x21 => ?_)
  refine q_run tkX3_layItem 5 1 (pc' := 10) (L' := [some (.inr (.inr a0)), some (.inr (.inr a1)), some (.inl x20), none, none]) (st' := [.inl (1 : Int32), .inl x21]) rfl ?_
  refine q_icmp_le (tbm tkX3_layItem (i := 6) rfl) ?_ ?_
  · refine q_run tkX3_layItem 7 2 (pc' := 15) (L' := [some (.inr (.inr a0)), some (.inr (.inr a1)), some (.inl x20), none, none]) (st' := [.inr (.inr a1), .inr (.inr a0)]) rfl ?_
    refine q_rdI RX1 TX1 4 (tbm tkX3_layItem (i := 9) rfl) rfl (Nat.le_of_ble_eq_true rfl) wd_492 (fun x22 => ?_)
    refine q_cv (r := a0) (ci := 5) (n := 1) (as := [.inl x22]) (st := []) TX3 6 (soX3_addNumber X h a0 x22) (tbm tkX3_layItem (i := 10) rfl) rfl rfl ceX3_addNumber wd_640 wd_7 wd_638 rfl (Nat.le_of_ble_eq_true rfl) (kV_gd (fun h23 => ?_))
    refine q_run tkX3_layItem 11 2 (pc' := 24) (L' := [some (.inr (.inr a0)), some (.inr (.inr a1)), some (.inl x20), none, none]) (st' := [.inl (120 : Int32), .inr (.inr a0)]) rfl ?_
    refine q_cv (r := a0) (ci := 5) (n := 1) (as := [.inl (120 : Int32)]) (st := []) TX3 6 (soX3_addSign X h23 a0 (120 : Int32)) (tbm tkX3_layItem (i := 13) rfl) rfl rfl ceX3_addSign wd_636 wd_6 wd_634 rfl (Nat.le_of_ble_eq_true rfl) (kV_gd (fun h24 => ?_))
    exact sX3_layItem_27 X h24 a0 a1 x20
  · exact sX3_layItem_27 X h a0 a1 x20
theorem ceX3_layItem : Ce mX3_layItem 1 := ⟨wd_80, wd_651, by decide +kernel, by decide +kernel, by decide +kernel⟩
/-- ReceiptRolls$Sheet.layTold -/
abbrev mX3_layTold : MI := (yX3_layTold, cX3_layTold, 4, none, 5)
def tbX3_layTold : List TE := [(0, .aload_n 0, 1, 0, 0), (1, .aload_n 1, 1, 0, 0), (2, .invokevirtual 21, 3, 0, 0), (5, .aload_n 0, 1, 0, 0), (6, .iload_n 2, 1, 0, 0), (7, .invokevirtual 25, 3, 0, 0), (10, .aload_n 0, 1, 0, 0), (11, .iload_n 3, 1, 0, 0), (12, .invokevirtual 66, 3, 0, 0), (15, .aload_n 0, 1, 0, 0), (16, .invokevirtual 29, 3, 0, 0), (19, .return_, 1, 0, 0)]
theorem tkX3_layTold : ∀ x ∈ tbX3_layTold, tbB cX3_layTold x = true := tb_all (by decide +kernel)
def fX3_layTold (c : Nat → Option Nat) (h : Hp) (a0 : Option Nat) (a1 : Option Nat) (a2 : Int32) (a3 : Int32) : Rs := ck h a0 5 (cc (fX3_addText c h a0 a1) (kV fun h1 => ck h1 a0 5 (cc (fX3_addNumber c h1 a0 a2) (kV fun h2 => ck h2 a0 5 (cc (fX3_addMoney c h2 a0 a3) (kV fun h3 => ck h3 a0 5 (cc (fX3_endLine c h3 a0) (kV fun h4 => some (h4, none)))))))))
set_option maxHeartbeats 4000000 in
set_option maxRecDepth 100000 in
theorem soX3_layTold (X : Cx) (h : Hp) (a0 : Option Nat) (a1 : Option Nat) (a2 : Int32) (a3 : Int32) : SO X mX3_layTold [.inr (.inr a0), .inr (.inr a1), .inl a2, .inl a3] h (fX3_layTold X.2.2.2 h a0 a1 a2 a3) := by
  refine so_of (by decide +kernel) (Nat.le_of_ble_eq_true rfl) ?_
  show Gd X mX3_layTold h (fX3_layTold X.2.2.2 h a0 a1 a2 a3) h 0 [some (.inr (.inr a0)), some (.inr (.inr a1)), some (.inl a2), some (.inl a3)] []
  unfold fX3_layTold
  refine q_run tkX3_layTold 0 2 (pc' := 2) (L' := [some (.inr (.inr a0)), some (.inr (.inr a1)), some (.inl a2), some (.inl a3)]) (st' := [.inr (.inr a1), .inr (.inr a0)]) rfl ?_
  refine q_cv (r := a0) (ci := 5) (n := 1) (as := [.inr (.inr a1)]) (st := []) TX3 6 (soX3_addText X h a0 a1) (tbm tkX3_layTold (i := 2) rfl) rfl rfl ceX3_addText wd_605 wd_5 wd_603 rfl (Nat.le_of_ble_eq_true rfl) (kV_gd (fun h1 => ?_))
  refine q_run tkX3_layTold 3 2 (pc' := 7) (L' := [some (.inr (.inr a0)), some (.inr (.inr a1)), some (.inl a2), some (.inl a3)]) (st' := [.inl a2, .inr (.inr a0)]) rfl ?_
  refine q_cv (r := a0) (ci := 5) (n := 1) (as := [.inl a2]) (st := []) TX3 6 (soX3_addNumber X h1 a0 a2) (tbm tkX3_layTold (i := 5) rfl) rfl rfl ceX3_addNumber wd_640 wd_7 wd_638 rfl (Nat.le_of_ble_eq_true rfl) (kV_gd (fun h2 => ?_))
  refine q_run tkX3_layTold 6 2 (pc' := 12) (L' := [some (.inr (.inr a0)), some (.inr (.inr a1)), some (.inl a2), some (.inl a3)]) (st' := [.inl a3, .inr (.inr a0)]) rfl ?_
  refine q_cv (r := a0) (ci := 5) (n := 1) (as := [.inl a3]) (st := []) TX3 6 (soX3_addMoney X h2 a0 a3) (tbm tkX3_layTold (i := 8) rfl) rfl rfl ceX3_addMoney wd_660 wd_11 wd_658 rfl (Nat.le_of_ble_eq_true rfl) (kV_gd (fun h3 => ?_))
  refine q_run tkX3_layTold 9 1 (pc' := 16) (L' := [some (.inr (.inr a0)), some (.inr (.inr a1)), some (.inl a2), some (.inl a3)]) (st' := [.inr (.inr a0)]) rfl ?_
  refine q_cv (r := a0) (ci := 5) (n := 0) (as := []) (st := []) TX3 6 (soX3_endLine X h3 a0) (tbm tkX3_layTold (i := 10) rfl) rfl rfl ceX3_endLine wd_645 wd_8 wd_643 rfl (Nat.le_of_ble_eq_true rfl) (kV_gd (fun h4 => ?_))
  exact q_vret (tbm tkX3_layTold (i := 11) rfl) rfl
theorem ceX3_layTold : Ce mX3_layTold 3 := ⟨wd_80, wd_672, by decide +kernel, by decide +kernel, by decide +kernel⟩
/-- ReceiptRolls$Receipt.totalWithout -/
abbrev mX2_totalWithout : MI := (yX2_totalWithout, cX2_totalWithout, 5, some .int, 1)
def tbX2_totalWithout : List TE := [(0, .iconst 0, 1, 0, 0), (1, .istore_n 2, 1, 0, 0), (2, .iconst 0, 1, 0, 0), (3, .istore_n 3, 1, 0, 0), (4, .iload_n 3, 1, 0, 0), (5, .aload_n 0, 1, 0, 0), (6, .getfield 49, 3, 0, 0), (9, .if_icmp .ge 37, 3, 0, 46), (12, .aload_n 0, 1, 0, 0), (13, .iload_n 3, 1, 0, 0), (14, .invokevirtual 71, 3, 0, 0), (17, .astore 4, 2, 0, 0), (19, .aload 4, 2, 0, 0), (21, .ifnull 19, 3, 0, 40), (24, .iload_n 1, 1, 0, 0), (25, .iload_n 3, 1, 0, 0), (26, .ishr, 1, 0, 0), (27, .iconst 1, 1, 1, 0), (28, .iand, 1, 0, 0), (29, .ifCond .ne 11, 3, 0, 40), (32, .iload_n 2, 1, 0, 0), (33, .aload 4, 2, 0, 0), (35, .invokevirtual 75, 3, 0, 0), (38, .iadd, 1, 0, 0), (39, .istore_n 2, 1, 0, 0), (40, .iinc 3 1, 3, 1, 0), (43, .goto (-39), 3, 0, 4), (46, .iload_n 2, 1, 0, 0), (47, .ireturn, 1, 0, 0)]
theorem tkX2_totalWithout : ∀ x ∈ tbX2_totalWithout, tbB cX2_totalWithout x = true := tb_all (by decide +kernel)
def fX2_totalWithout_40 (c : Nat → Option Nat) (k4 : Hp → Option Nat → Int32 → Int32 → Int32 → Rs) (h : Hp) (l0 : Option Nat) (l1 : Int32) (l2 : Int32) (l3 : Int32) : Rs := k4 h l0 l1 l2 (l3 + (1 : Int32))
set_option maxHeartbeats 4000000 in
set_option maxRecDepth 100000 in
theorem sX2_totalWithout_40 (X : Cx) {h0 : Hp} (k4 : Hp → Option Nat → Int32 → Int32 → Int32 → Rs) (hk4 : ∀ (h : Hp) (l0 : Option Nat) (l1 : Int32) (l2 : Int32) (l3 : Int32), Gd X mX2_totalWithout h0 (k4 h l0 l1 l2 l3) h 4 [some (.inr (.inr l0)), some (.inl l1), some (.inl l2), some (.inl l3), none] []) (h : Hp) (l0 : Option Nat) (l1 : Int32) (l2 : Int32) (l3 : Int32) : Gd X mX2_totalWithout h0 (fX2_totalWithout_40 X.2.2.2 k4 h l0 l1 l2 l3) h 40 [some (.inr (.inr l0)), some (.inl l1), some (.inl l2), some (.inl l3), none] [] := by
  unfold fX2_totalWithout_40
  refine q_run tkX2_totalWithout 25 2 (pc' := 4) (L' := [some (.inr (.inr l0)), some (.inl l1), some (.inl l2), some (.inl (l3 + (1 : Int32))), none]) (st' := []) rfl ?_
  exact hk4 h l0 l1 l2 (l3 + (1 : Int32))
def fX2_totalWithout_4 (c : Nat → Option Nat) : Nat → Hp → Option Nat → Int32 → Int32 → Int32 → Rs
  | 0, _, _, _, _, _ => none
  | n + 1, h, l0, l1, l2, l3 => rdI h l0 4 9 (fun x1 => if l3 < x1 then (ck h l0 4 (cc (fX2_itemAt c h l0 l3) (kR fun h2 r3 => ifN r3 (fX2_totalWithout_40 c (fX2_totalWithout_4 c n) h2 l0 l1 l2 l3) (if ((shrI l1 l3) &&& (1 : Int32)) = 0 then (ck h2 r3 3 (cc (fX1_sum c h2 r3) (kI fun h4 x5 => fX2_totalWithout_40 c (fX2_totalWithout_4 c n) h4 l0 l1 (l2 + x5) l3))) else (fX2_totalWithout_40 c (fX2_totalWithout_4 c n) h2 l0 l1 l2 l3))))) else (some (h, some (.inl l2))))
set_option maxHeartbeats 4000000 in
set_option maxRecDepth 100000 in
theorem sX2_totalWithout_4 (X : Cx) {h0 : Hp} : ∀ (n : Nat) (h : Hp) (l0 : Option Nat) (l1 : Int32) (l2 : Int32) (l3 : Int32), Gd X mX2_totalWithout h0 (fX2_totalWithout_4 X.2.2.2 n h l0 l1 l2 l3) h 4 [some (.inr (.inr l0)), some (.inl l1), some (.inl l2), some (.inl l3), none] [] := by
  intro n
  induction n with
  | zero => intros; exact gd_none
  | succ n ih =>
    intro h l0 l1 l2 l3
    unfold fX2_totalWithout_4
    refine q_run tkX2_totalWithout 4 2 (pc' := 6) (L' := [some (.inr (.inr l0)), some (.inl l1), some (.inl l2), some (.inl l3), none]) (st' := [.inr (.inr l0), .inl l3]) rfl ?_
    refine q_rdI RX2 TX2 14 (tbm tkX2_totalWithout (i := 6) rfl) rfl (Nat.le_of_ble_eq_true rfl) wd_136 (fun x1 => ?_)
    refine q_icmp_ge (tbm tkX2_totalWithout (i := 7) rfl) ?_ ?_
    · refine q_run tkX2_totalWithout 8 2 (pc' := 14) (L' := [some (.inr (.inr l0)), some (.inl l1), some (.inl l2), some (.inl l3), none]) (st' := [.inl l3, .inr (.inr l0)]) rfl ?_
      refine q_cv (r := l0) (ci := 4) (n := 1) (as := [.inl l3]) (st := []) TX2 14 (soX2_itemAt X h l0 l3) (tbm tkX2_totalWithout (i := 10) rfl) rfl rfl ceX2_itemAt wd_564 wd_565 wd_682 rfl (Nat.le_of_ble_eq_true rfl) (kR_gd (fun h2 r3 => ?_))
      refine q_run tkX2_totalWithout 11 2 (pc' := 21) (L' := [some (.inr (.inr l0)), some (.inl l1), some (.inl l2), some (.inl l3), some (.inr (.inr r3))]) (st' := [.inr (.inr r3)]) rfl ?_
      refine q_ifnull (tbm tkX2_totalWithout (i := 13) rfl) ?_ ?_
      · refine q_le (L' := [some (.inr (.inr l0)), some (.inl l1), some (.inl l2), some (.inl l3), none]) (lvLe_s (lvLe_s (lvLe_s (lvLe_s (lvLe_n lvLe_0))))) ?_
        exact sX2_totalWithout_40 X (fX2_totalWithout_4 X.2.2.2 n) ih h2 l0 l1 l2 l3
      · refine q_run tkX2_totalWithout 14 5 (pc' := 29) (L' := [some (.inr (.inr l0)), some (.inl l1), some (.inl l2), some (.inl l3), some (.inr (.inr r3))]) (st' := [.inl ((shrI l1 l3) &&& (1 : Int32))]) rfl ?_
        refine q_if_ne (tbm tkX2_totalWithout (i := 19) rfl) ?_ ?_
        · refine q_run tkX2_totalWithout 20 2 (pc' := 35) (L' := [some (.inr (.inr l0)), some (.inl l1), some (.inl l2), some (.inl l3), some (.inr (.inr r3))]) (st' := [.inr (.inr r3), .inl l2]) rfl ?_
          refine q_cv (r := r3) (ci := 3) (n := 0) (as := []) (st := [.inl l2]) TX1 4 (soX1_sum X h2 r3) (tbm tkX2_totalWithout (i := 22) rfl) rfl rfl ceX1_sum wd_576 wd_577 wd_683 rfl (Nat.le_of_ble_eq_true rfl) (kI_gd (fun h4 x5 => ?_))
          refine q_run tkX2_totalWithout 23 2 (pc' := 40) (L' := [some (.inr (.inr l0)), some (.inl l1), some (.inl (l2 + x5)), some (.inl l3), some (.inr (.inr r3))]) (st' := []) rfl ?_
          refine q_le (L' := [some (.inr (.inr l0)), some (.inl l1), some (.inl (l2 + x5)), some (.inl l3), none]) (lvLe_s (lvLe_s (lvLe_s (lvLe_s (lvLe_n lvLe_0))))) ?_
          exact sX2_totalWithout_40 X (fX2_totalWithout_4 X.2.2.2 n) ih h4 l0 l1 (l2 + x5) l3
        · refine q_le (L' := [some (.inr (.inr l0)), some (.inl l1), some (.inl l2), some (.inl l3), none]) (lvLe_s (lvLe_s (lvLe_s (lvLe_s (lvLe_n lvLe_0))))) ?_
          exact sX2_totalWithout_40 X (fX2_totalWithout_4 X.2.2.2 n) ih h2 l0 l1 l2 l3
    · refine q_run tkX2_totalWithout 27 1 (pc' := 47) (L' := [some (.inr (.inr l0)), some (.inl l1), some (.inl l2), some (.inl l3), none]) (st' := [.inl l2]) rfl ?_
      exact q_iret (tbm tkX2_totalWithout (i := 28) rfl) rfl
def fX2_totalWithout (c : Nat → Option Nat) (h : Hp) (a0 : Option Nat) (a1 : Int32) : Rs := fX2_totalWithout_4 c FU h a0 a1 (0 : Int32) (0 : Int32)
set_option maxHeartbeats 4000000 in
set_option maxRecDepth 100000 in
theorem soX2_totalWithout (X : Cx) (h : Hp) (a0 : Option Nat) (a1 : Int32) : SO X mX2_totalWithout [.inr (.inr a0), .inl a1] h (fX2_totalWithout X.2.2.2 h a0 a1) := by
  refine so_of (by decide +kernel) (Nat.le_of_ble_eq_true rfl) ?_
  show Gd X mX2_totalWithout h (fX2_totalWithout X.2.2.2 h a0 a1) h 0 [some (.inr (.inr a0)), some (.inl a1), none, none, none] []
  unfold fX2_totalWithout
  refine q_run tkX2_totalWithout 0 4 (pc' := 4) (L' := [some (.inr (.inr a0)), some (.inl a1), some (.inl (0 : Int32)), some (.inl (0 : Int32)), none]) (st' := []) rfl ?_
  exact sX2_totalWithout_4 X FU h a0 a1 (0 : Int32) (0 : Int32)
theorem ceX2_totalWithout : Ce mX2_totalWithout 1 := ⟨wd_74, wd_681, by decide +kernel, by decide +kernel, by decide +kernel⟩
/-- ReceiptRolls$Receipt.total -/
abbrev mX2_total : MI := (yX2_total, cX2_total, 1, some .int, 2)
def tbX2_total : List TE := [(0, .aload_n 0, 1, 0, 0), (1, .aload_n 0, 1, 0, 0), (2, .getfield 55, 3, 0, 0), (5, .invokevirtual 68, 3, 0, 0), (8, .ireturn, 1, 0, 0)]
theorem tkX2_total : ∀ x ∈ tbX2_total, tbB cX2_total x = true := tb_all (by decide +kernel)
def fX2_total (c : Nat → Option Nat) (h : Hp) (a0 : Option Nat) : Rs := rdI h a0 4 11 (fun x1 => ck h a0 4 (cc (fX2_totalWithout c h a0 x1) (kI fun h2 x3 => some (h2, some (.inl x3)))))
set_option maxHeartbeats 4000000 in
set_option maxRecDepth 100000 in
theorem soX2_total (X : Cx) (h : Hp) (a0 : Option Nat) : SO X mX2_total [.inr (.inr a0)] h (fX2_total X.2.2.2 h a0) := by
  refine so_of (by decide +kernel) (Nat.le_of_ble_eq_true rfl) ?_
  show Gd X mX2_total h (fX2_total X.2.2.2 h a0) h 0 [some (.inr (.inr a0))] []
  unfold fX2_total
  refine q_run tkX2_total 0 2 (pc' := 2) (L' := [some (.inr (.inr a0))]) (st' := [.inr (.inr a0), .inr (.inr a0)]) rfl ?_
  refine q_rdI RX2 TX2 14 (tbm tkX2_total (i := 2) rfl) rfl (Nat.le_of_ble_eq_true rfl) wd_140 (fun x1 => ?_)
  refine q_cv (r := a0) (ci := 4) (n := 1) (as := [.inl x1]) (st := []) TX2 14 (soX2_totalWithout X h a0 x1) (tbm tkX2_total (i := 3) rfl) rfl rfl ceX2_totalWithout wd_679 wd_680 wd_678 rfl (Nat.le_of_ble_eq_true rfl) (kI_gd (fun h2 x3 => ?_))
  exact q_iret (tbm tkX2_total (i := 4) rfl) rfl
theorem ceX2_total : Ce mX2_total 0 := ⟨wd_74, wd_677, by decide +kernel, by decide +kernel, by decide +kernel⟩
/-- ReceiptRolls$Receipt.sumTaxed -/
abbrev mX2_sumTaxed : MI := (yX2_sumTaxed, cX2_sumTaxed, 5, some .int, 1)
def tbX2_sumTaxed : List TE := [(0, .iconst 0, 1, 0, 0), (1, .istore_n 2, 1, 0, 0), (2, .iconst 0, 1, 0, 0), (3, .istore_n 3, 1, 0, 0), (4, .iload_n 3, 1, 0, 0), (5, .aload_n 0, 1, 0, 0), (6, .getfield 49, 3, 0, 0), (9, .if_icmp .ge 46, 3, 0, 55), (12, .aload_n 0, 1, 0, 0), (13, .iload_n 3, 1, 0, 0), (14, .invokevirtual 71, 3, 0, 0), (17, .astore 4, 2, 0, 0), (19, .aload 4, 2, 0, 0), (21, .ifnull 28, 3, 0, 49), (24, .aload 4, 2, 0, 0), (26, .getfield 79, 3, 0, 0), (29, .iload_n 1, 1, 0, 0), (30, .if_icmp .ne 19, 3, 0, 49), (33, .aload_n 0, 1, 0, 0), (34, .iload_n 3, 1, 0, 0), (35, .invokevirtual 82, 3, 0, 0), (38, .ifCond .ne 11, 3, 0, 49), (41, .iload_n 2, 1, 0, 0), (42, .aload 4, 2, 0, 0), (44, .invokevirtual 75, 3, 0, 0), (47, .iadd, 1, 0, 0), (48, .istore_n 2, 1, 0, 0), (49, .iinc 3 1, 3, 1, 0), (52, .goto (-48), 3, 0, 4), (55, .iload_n 2, 1, 0, 0), (56, .ireturn, 1, 0, 0)]
theorem tkX2_sumTaxed : ∀ x ∈ tbX2_sumTaxed, tbB cX2_sumTaxed x = true := tb_all (by decide +kernel)
def fX2_sumTaxed_49 (c : Nat → Option Nat) (k4 : Hp → Option Nat → Int32 → Int32 → Int32 → Rs) (h : Hp) (l0 : Option Nat) (l1 : Int32) (l2 : Int32) (l3 : Int32) : Rs := k4 h l0 l1 l2 (l3 + (1 : Int32))
set_option maxHeartbeats 4000000 in
set_option maxRecDepth 100000 in
theorem sX2_sumTaxed_49 (X : Cx) {h0 : Hp} (k4 : Hp → Option Nat → Int32 → Int32 → Int32 → Rs) (hk4 : ∀ (h : Hp) (l0 : Option Nat) (l1 : Int32) (l2 : Int32) (l3 : Int32), Gd X mX2_sumTaxed h0 (k4 h l0 l1 l2 l3) h 4 [some (.inr (.inr l0)), some (.inl l1), some (.inl l2), some (.inl l3), none] []) (h : Hp) (l0 : Option Nat) (l1 : Int32) (l2 : Int32) (l3 : Int32) : Gd X mX2_sumTaxed h0 (fX2_sumTaxed_49 X.2.2.2 k4 h l0 l1 l2 l3) h 49 [some (.inr (.inr l0)), some (.inl l1), some (.inl l2), some (.inl l3), none] [] := by
  unfold fX2_sumTaxed_49
  refine q_run tkX2_sumTaxed 27 2 (pc' := 4) (L' := [some (.inr (.inr l0)), some (.inl l1), some (.inl l2), some (.inl (l3 + (1 : Int32))), none]) (st' := []) rfl ?_
  exact hk4 h l0 l1 l2 (l3 + (1 : Int32))
def fX2_sumTaxed_4 (c : Nat → Option Nat) : Nat → Hp → Option Nat → Int32 → Int32 → Int32 → Rs
  | 0, _, _, _, _, _ => none
  | n + 1, h, l0, l1, l2, l3 => rdI h l0 4 9 (fun x1 => if l3 < x1 then (ck h l0 4 (cc (fX2_itemAt c h l0 l3) (kR fun h2 r3 => ifN r3 (fX2_sumTaxed_49 c (fX2_sumTaxed_4 c n) h2 l0 l1 l2 l3) (rdI h2 r3 3 3 (fun x4 => if x4 = l1 then (ck h2 l0 4 (cc (fX2_isStruck c h2 l0 l3) (kI fun h5 x6 => if x6 = 0 then (ck h5 r3 3 (cc (fX1_sum c h5 r3) (kI fun h7 x8 => fX2_sumTaxed_49 c (fX2_sumTaxed_4 c n) h7 l0 l1 (l2 + x8) l3))) else (fX2_sumTaxed_49 c (fX2_sumTaxed_4 c n) h5 l0 l1 l2 l3)))) else (fX2_sumTaxed_49 c (fX2_sumTaxed_4 c n) h2 l0 l1 l2 l3)))))) else (some (h, some (.inl l2))))
set_option maxHeartbeats 4000000 in
set_option maxRecDepth 100000 in
theorem sX2_sumTaxed_4 (X : Cx) {h0 : Hp} : ∀ (n : Nat) (h : Hp) (l0 : Option Nat) (l1 : Int32) (l2 : Int32) (l3 : Int32), Gd X mX2_sumTaxed h0 (fX2_sumTaxed_4 X.2.2.2 n h l0 l1 l2 l3) h 4 [some (.inr (.inr l0)), some (.inl l1), some (.inl l2), some (.inl l3), none] [] := by
  intro n
  induction n with
  | zero => intros; exact gd_none
  | succ n ih =>
    intro h l0 l1 l2 l3
    unfold fX2_sumTaxed_4
    refine q_run tkX2_sumTaxed 4 2 (pc' := 6) (L' := [some (.inr (.inr l0)), some (.inl l1), some (.inl l2), some (.inl l3), none]) (st' := [.inr (.inr l0), .inl l3]) rfl ?_
    refine q_rdI RX2 TX2 14 (tbm tkX2_sumTaxed (i := 6) rfl) rfl (Nat.le_of_ble_eq_true rfl) wd_136 (fun x1 => ?_)
    refine q_icmp_ge (tbm tkX2_sumTaxed (i := 7) rfl) ?_ ?_
    · refine q_run tkX2_sumTaxed 8 2 (pc' := 14) (L' := [some (.inr (.inr l0)), some (.inl l1), some (.inl l2), some (.inl l3), none]) (st' := [.inl l3, .inr (.inr l0)]) rfl ?_
      refine q_cv (r := l0) (ci := 4) (n := 1) (as := [.inl l3]) (st := []) TX2 14 (soX2_itemAt X h l0 l3) (tbm tkX2_sumTaxed (i := 10) rfl) rfl rfl ceX2_itemAt wd_564 wd_565 wd_682 rfl (Nat.le_of_ble_eq_true rfl) (kR_gd (fun h2 r3 => ?_))
      refine q_run tkX2_sumTaxed 11 2 (pc' := 21) (L' := [some (.inr (.inr l0)), some (.inl l1), some (.inl l2), some (.inl l3), some (.inr (.inr r3))]) (st' := [.inr (.inr r3)]) rfl ?_
      refine q_ifnull (tbm tkX2_sumTaxed (i := 13) rfl) ?_ ?_
      · refine q_le (L' := [some (.inr (.inr l0)), some (.inl l1), some (.inl l2), some (.inl l3), none]) (lvLe_s (lvLe_s (lvLe_s (lvLe_s (lvLe_n lvLe_0))))) ?_
        exact sX2_sumTaxed_49 X (fX2_sumTaxed_4 X.2.2.2 n) ih h2 l0 l1 l2 l3
      · refine q_run tkX2_sumTaxed 14 1 (pc' := 26) (L' := [some (.inr (.inr l0)), some (.inl l1), some (.inl l2), some (.inl l3), some (.inr (.inr r3))]) (st' := [.inr (.inr r3)]) rfl ?_
        refine q_rdI RX1 TX1 4 (tbm tkX2_sumTaxed (i := 15) rfl) rfl (Nat.le_of_ble_eq_true rfl) wd_498 (fun x4 => ?_)
        refine q_run tkX2_sumTaxed 16 1 (pc' := 30) (L' := [some (.inr (.inr l0)), some (.inl l1), some (.inl l2), some (.inl l3), some (.inr (.inr r3))]) (st' := [.inl l1, .inl x4]) rfl ?_
        refine q_icmp_ne (tbm tkX2_sumTaxed (i := 17) rfl) ?_ ?_
        · refine q_run tkX2_sumTaxed 18 2 (pc' := 35) (L' := [some (.inr (.inr l0)), some (.inl l1), some (.inl l2), some (.inl l3), some (.inr (.inr r3))]) (st' := [.inl l3, .inr (.inr l0)]) rfl ?_
          refine q_cv (r := l0) (ci := 4) (n := 1) (as := [.inl l3]) (st := []) TX2 14 (soX2_isStruck X h2 l0 l3) (tbm tkX2_sumTaxed (i := 20) rfl) rfl rfl ceX2_isStruck wd_568 wd_569 wd_689 rfl (Nat.le_of_ble_eq_true rfl) (kI_gd (fun h5 x6 => ?_))
          refine q_if_ne (tbm tkX2_sumTaxed (i := 21) rfl) ?_ ?_
          · refine q_run tkX2_sumTaxed 22 2 (pc' := 44) (L' := [some (.inr (.inr l0)), some (.inl l1), some (.inl l2), some (.inl l3), some (.inr (.inr r3))]) (st' := [.inr (.inr r3), .inl l2]) rfl ?_
            refine q_cv (r := r3) (ci := 3) (n := 0) (as := []) (st := [.inl l2]) TX1 4 (soX1_sum X h5 r3) (tbm tkX2_sumTaxed (i := 24) rfl) rfl rfl ceX1_sum wd_576 wd_577 wd_683 rfl (Nat.le_of_ble_eq_true rfl) (kI_gd (fun h7 x8 => ?_))
            refine q_run tkX2_sumTaxed 25 2 (pc' := 49) (L' := [some (.inr (.inr l0)), some (.inl l1), some (.inl (l2 + x8)), some (.inl l3), some (.inr (.inr r3))]) (st' := []) rfl ?_
            refine q_le (L' := [some (.inr (.inr l0)), some (.inl l1), some (.inl (l2 + x8)), some (.inl l3), none]) (lvLe_s (lvLe_s (lvLe_s (lvLe_s (lvLe_n lvLe_0))))) ?_
            exact sX2_sumTaxed_49 X (fX2_sumTaxed_4 X.2.2.2 n) ih h7 l0 l1 (l2 + x8) l3
          · refine q_le (L' := [some (.inr (.inr l0)), some (.inl l1), some (.inl l2), some (.inl l3), none]) (lvLe_s (lvLe_s (lvLe_s (lvLe_s (lvLe_n lvLe_0))))) ?_
            exact sX2_sumTaxed_49 X (fX2_sumTaxed_4 X.2.2.2 n) ih h5 l0 l1 l2 l3
        · refine q_le (L' := [some (.inr (.inr l0)), some (.inl l1), some (.inl l2), some (.inl l3), none]) (lvLe_s (lvLe_s (lvLe_s (lvLe_s (lvLe_n lvLe_0))))) ?_
          exact sX2_sumTaxed_49 X (fX2_sumTaxed_4 X.2.2.2 n) ih h2 l0 l1 l2 l3
    · refine q_run tkX2_sumTaxed 29 1 (pc' := 56) (L' := [some (.inr (.inr l0)), some (.inl l1), some (.inl l2), some (.inl l3), none]) (st' := [.inl l2]) rfl ?_
      exact q_iret (tbm tkX2_sumTaxed (i := 30) rfl) rfl
def fX2_sumTaxed (c : Nat → Option Nat) (h : Hp) (a0 : Option Nat) (a1 : Int32) : Rs := fX2_sumTaxed_4 c FU h a0 a1 (0 : Int32) (0 : Int32)
set_option maxHeartbeats 4000000 in
set_option maxRecDepth 100000 in
theorem soX2_sumTaxed (X : Cx) (h : Hp) (a0 : Option Nat) (a1 : Int32) : SO X mX2_sumTaxed [.inr (.inr a0), .inl a1] h (fX2_sumTaxed X.2.2.2 h a0 a1) := by
  refine so_of (by decide +kernel) (Nat.le_of_ble_eq_true rfl) ?_
  show Gd X mX2_sumTaxed h (fX2_sumTaxed X.2.2.2 h a0 a1) h 0 [some (.inr (.inr a0)), some (.inl a1), none, none, none] []
  unfold fX2_sumTaxed
  refine q_run tkX2_sumTaxed 0 4 (pc' := 4) (L' := [some (.inr (.inr a0)), some (.inl a1), some (.inl (0 : Int32)), some (.inl (0 : Int32)), none]) (st' := []) rfl ?_
  exact sX2_sumTaxed_4 X FU h a0 a1 (0 : Int32) (0 : Int32)
theorem ceX2_sumTaxed : Ce mX2_sumTaxed 1 := ⟨wd_74, wd_688, by decide +kernel, by decide +kernel, by decide +kernel⟩
/-- ReceiptRolls$Receipt.taxOf -/
abbrev mX2_taxOf : MI := (yX2_taxOf, cX2_taxOf, 4, some .int, 2)
def tbX2_taxOf : List TE := [(0, .iload_n 1, 1, 0, 0), (1, .ifCond .lt 11, 3, 0, 12), (4, .iload_n 1, 1, 0, 0), (5, .getstatic 86, 3, 0, 0), (8, .arraylength, 1, 0, 0), (9, .if_icmp .lt 5, 3, 0, 14), (12, .iconst 0, 1, 0, 0), (13, .ireturn, 1, 0, 0), (14, .getstatic 86, 3, 0, 0), (17, .iload_n 1, 1, 0, 0), (18, .iaload, 1, 0, 0), (19, .istore_n 2, 1, 0, 0), (20, .iconst 2, 1, 2, 0), (21, .bipush 100, 2, 100, 0), (23, .iload_n 2, 1, 0, 0), (24, .iadd, 1, 0, 0), (25, .imul, 1, 0, 0), (26, .istore_n 3, 1, 0, 0), (27, .iload_n 3, 1, 0, 0), (28, .ifCond .gt 7, 3, 0, 35), (31, .iconst 0, 1, 0, 0), (32, .goto 19, 3, 0, 51), (35, .iconst 2, 1, 2, 0), (36, .aload_n 0, 1, 0, 0), (37, .iload_n 1, 1, 0, 0), (38, .invokevirtual 89, 3, 0, 0), (41, .imul, 1, 0, 0), (42, .iload_n 2, 1, 0, 0), (43, .imul, 1, 0, 0), (44, .bipush 100, 2, 100, 0), (46, .iadd, 1, 0, 0), (47, .iload_n 2, 1, 0, 0), (48, .iadd, 1, 0, 0), (49, .iload_n 3, 1, 0, 0), (50, .idiv, 1, 0, 0), (51, .ireturn, 1, 0, 0)]
theorem tkX2_taxOf : ∀ x ∈ tbX2_taxOf, tbB cX2_taxOf x = true := tb_all (by decide +kernel)
def fX2_taxOf_51 (c : Nat → Option Nat) (h : Hp) (s0 : Int32) : Rs := some (h, some (.inl s0))
set_option maxHeartbeats 4000000 in
set_option maxRecDepth 100000 in
theorem sX2_taxOf_51 (X : Cx) {h0 : Hp} (h : Hp) (s0 : Int32) : Gd X mX2_taxOf h0 (fX2_taxOf_51 X.2.2.2 h s0) h 51 [none, none, none, none] [.inl s0] := by
  unfold fX2_taxOf_51
  exact q_iret (tbm tkX2_taxOf (i := 35) rfl) rfl
def fX2_taxOf_12 (c : Nat → Option Nat) (h : Hp) : Rs := some (h, some (.inl (0 : Int32)))
set_option maxHeartbeats 4000000 in
set_option maxRecDepth 100000 in
theorem sX2_taxOf_12 (X : Cx) {h0 : Hp} (h : Hp) : Gd X mX2_taxOf h0 (fX2_taxOf_12 X.2.2.2 h) h 12 [none, none, none, none] [] := by
  unfold fX2_taxOf_12
  refine q_run tkX2_taxOf 6 1 (pc' := 13) (L' := [none, none, none, none]) (st' := [.inl (0 : Int32)]) rfl ?_
  exact q_iret (tbm tkX2_taxOf (i := 7) rfl) rfl
def fX2_taxOf (c : Nat → Option Nat) (h : Hp) (a0 : Option Nat) (a1 : Int32) : Rs := if a1 < 0 then (fX2_taxOf_12 c h) else (lenA h (c 2) (fun x1 => if a1 < x1 then (aldI h (c 2) [0, 10] a1 (fun x2 => if 0 < ((2 : Int32) * ((100 : Int32) + x2)) then (ck h a0 4 (cc (fX2_sumTaxed c h a0 a1) (kI fun h3 x4 => dv ((2 : Int32) * ((100 : Int32) + x2)) (fX2_taxOf_51 c h3 ((((((2 : Int32) * x4) * x2) + (100 : Int32)) + x2) / ((2 : Int32) * ((100 : Int32) + x2))))))) else (fX2_taxOf_51 c h (0 : Int32)))) else (fX2_taxOf_12 c h)))
set_option maxHeartbeats 4000000 in
set_option maxRecDepth 100000 in
theorem soX2_taxOf (X : Cx) (h : Hp) (a0 : Option Nat) (a1 : Int32) : SO X mX2_taxOf [.inr (.inr a0), .inl a1] h (fX2_taxOf X.2.2.2 h a0 a1) := by
  refine so_of (by decide +kernel) (Nat.le_of_ble_eq_true rfl) ?_
  show Gd X mX2_taxOf h (fX2_taxOf X.2.2.2 h a0 a1) h 0 [some (.inr (.inr a0)), some (.inl a1), none, none] []
  unfold fX2_taxOf
  refine q_run tkX2_taxOf 0 1 (pc' := 1) (L' := [some (.inr (.inr a0)), some (.inl a1), none, none]) (st' := [.inl a1]) rfl ?_
  refine q_if_lt (tbm tkX2_taxOf (i := 1) rfl) ?_ ?_
  · refine q_le (L' := [none, none, none, none]) (lvLe_n (lvLe_n (lvLe_n (lvLe_n lvLe_0)))) ?_
    exact sX2_taxOf_12 X h
  · refine q_run tkX2_taxOf 2 1 (pc' := 5) (L' := [some (.inr (.inr a0)), some (.inl a1), none, none]) (st' := [.inl a1]) rfl ?_
    refine q_gsN (w := .inr (.inr (X.2.2.2 2))) (tbm tkX2_taxOf (i := 3) rfl) e_z2 e_nX2 ?_
    refine q_alen (tbm tkX2_taxOf (i := 4) rfl) (fun x1 => ?_)
    refine q_icmp_lt (tbm tkX2_taxOf (i := 5) rfl) ?_ ?_
    · refine q_gsN (w := .inr (.inr (X.2.2.2 2))) (tbm tkX2_taxOf (i := 8) rfl) e_z2 e_nX2 ?_
      refine q_run tkX2_taxOf 9 1 (pc' := 18) (L' := [some (.inr (.inr a0)), some (.inl a1), none, none]) (st' := [.inl a1, .inr (.inr (X.2.2.2 2))]) rfl ?_
      refine q_iaload (tbm tkX2_taxOf (i := 10) rfl) (fun x2 => ?_)
      refine q_run tkX2_taxOf 11 8 (pc' := 28) (L' := [some (.inr (.inr a0)), some (.inl a1), some (.inl x2), some (.inl ((2 : Int32) * ((100 : Int32) + x2)))]) (st' := [.inl ((2 : Int32) * ((100 : Int32) + x2))]) rfl ?_
      refine q_if_gt (tbm tkX2_taxOf (i := 19) rfl) ?_ ?_
      · refine q_run tkX2_taxOf 22 3 (pc' := 38) (L' := [some (.inr (.inr a0)), some (.inl a1), some (.inl x2), some (.inl ((2 : Int32) * ((100 : Int32) + x2)))]) (st' := [.inl a1, .inr (.inr a0), .inl (2 : Int32)]) rfl ?_
        refine q_cv (r := a0) (ci := 4) (n := 1) (as := [.inl a1]) (st := [.inl (2 : Int32)]) TX2 14 (soX2_sumTaxed X h a0 a1) (tbm tkX2_taxOf (i := 25) rfl) rfl rfl ceX2_sumTaxed wd_686 wd_687 wd_696 rfl (Nat.le_of_ble_eq_true rfl) (kI_gd (fun h3 x4 => ?_))
        refine q_run tkX2_taxOf 26 8 (pc' := 50) (L' := [some (.inr (.inr a0)), some (.inl a1), some (.inl x2), some (.inl ((2 : Int32) * ((100 : Int32) + x2)))]) (st' := [.inl ((2 : Int32) * ((100 : Int32) + x2)), .inl (((((2 : Int32) * x4) * x2) + (100 : Int32)) + x2)]) rfl ?_
        refine q_div (tbm tkX2_taxOf (i := 34) rfl) ?_
        refine q_le (L' := [none, none, none, none]) (lvLe_n (lvLe_n (lvLe_n (lvLe_n lvLe_0)))) ?_
        exact sX2_taxOf_51 X h3 ((((((2 : Int32) * x4) * x2) + (100 : Int32)) + x2) / ((2 : Int32) * ((100 : Int32) + x2)))
      · refine q_run tkX2_taxOf 20 2 (pc' := 51) (L' := [some (.inr (.inr a0)), some (.inl a1), some (.inl x2), some (.inl ((2 : Int32) * ((100 : Int32) + x2)))]) (st' := [.inl (0 : Int32)]) rfl ?_
        refine q_le (L' := [none, none, none, none]) (lvLe_n (lvLe_n (lvLe_n (lvLe_n lvLe_0)))) ?_
        exact sX2_taxOf_51 X h (0 : Int32)
    · refine q_le (L' := [none, none, none, none]) (lvLe_n (lvLe_n (lvLe_n (lvLe_n lvLe_0)))) ?_
      exact sX2_taxOf_12 X h
theorem ceX2_taxOf : Ce mX2_taxOf 1 := ⟨wd_74, wd_694, by decide +kernel, by decide +kernel, by decide +kernel⟩
/-- ReceiptRolls$Sheet.lay -/
abbrev mX3_lay : MI := (yX3_lay, cX3_lay, 8, some .int, 6)
def tbX3_lay : List TE := [(0, .aload_n 0, 1, 0, 0), (1, .iload_n 3, 1, 0, 0), (2, .iload 4, 2, 0, 0), (4, .invokevirtual 15, 3, 0, 0), (7, .aload_n 0, 1, 0, 0), (8, .ldc 19, 2, 0, 0), (10, .invokevirtual 21, 3, 0, 0), (13, .aload_n 0, 1, 0, 0), (14, .iload_n 2, 1, 0, 0), (15, .invokevirtual 25, 3, 0, 0), (18, .aload_n 0, 1, 0, 0), (19, .invokevirtual 29, 3, 0, 0), (22, .iconst 0, 1, 0, 0), (23, .istore 5, 2, 0, 0), (25, .iload 5, 2, 0, 0), (27, .aload_n 1, 1, 0, 0), (28, .getfield 32, 3, 0, 0), (31, .if_icmp .ge 82, 3, 0, 113), (34, .iload 5, 2, 0, 0), (36, .aload_n 1, 1, 0, 0), (37, .getfield 38, 3, 0, 0), (40, .arraylength, 1, 0, 0), (41, .if_icmp .ge 72, 3, 0, 113), (44, .aload_n 1, 1, 0, 0), (45, .getfield 38, 3, 0, 0), (48, .iload 5, 2, 0, 0), (50, .iaload, 1, 0, 0), (51, .istore 6, 2, 0, 0), (53, .aload_n 1, 1, 0, 0), (54, .iload 6, 2, 0, 0), (56, .bipush 12, 2, 12, 0), (58, .irem, 1, 0, 0), (59, .invokevirtual 42, 3, 0, 0), (62, .astore 7, 2, 0, 0), (64, .aload 7, 2, 0, 0), (66, .ifnull 19, 3, 0, 85), (69, .iload 6, 2, 0, 0), (71, .bipush 12, 2, 12, 0), (73, .if_icmp .ge 12, 3, 0, 85), (76, .aload_n 0, 1, 0, 0), (77, .aload 7, 2, 0, 0), (79, .invokevirtual 46, 3, 0, 0), (82, .goto 25, 3, 0, 107), (85, .aload 7, 2, 0, 0), (87, .ifnull 20, 3, 0, 107), (90, .aload_n 0, 1, 0, 0), (91, .ldc 50, 2, 0, 0), (93, .iload 6, 2, 0, 0), (95, .bipush 12, 2, 12, 0), (97, .irem, 1, 0, 0), (98, .aload 7, 2, 0, 0), (100, .invokevirtual 52, 3, 0, 0), (103, .ineg, 1, 0, 0), (104, .invokevirtual 58, 3, 0, 0), (107, .iinc 5 1, 3, 1, 0), (110, .goto (-85), 3, 0, 25), (113, .aload_n 0, 1, 0, 0), (114, .ldc 62, 2, 0, 0), (116, .invokevirtual 21, 3, 0, 0), (119, .aload_n 0, 1, 0, 0), (120, .aload_n 1, 1, 0, 0), (121, .invokevirtual 63, 3, 0, 0), (124, .invokevirtual 66, 3, 0, 0), (127, .aload_n 0, 1, 0, 0), (128, .invokevirtual 29, 3, 0, 0), (131, .iconst 1, 1, 1, 0), (132, .istore 5, 2, 0, 0), (134, .iload 5, 2, 0, 0), (136, .getstatic 69, 3, 0, 0), (139, .arraylength, 1, 0, 0), (140, .if_icmp .ge 36, 3, 0, 176), (143, .aload_n 1, 1, 0, 0), (144, .iload 5, 2, 0, 0), (146, .invokevirtual 72, 3, 0, 0), (149, .ifCond .le 21, 3, 0, 170), (152, .aload_n 0, 1, 0, 0), (153, .ldc 76, 2, 0, 0), (155, .getstatic 69, 3, 0, 0), (158, .iload 5, 2, 0, 0), (160, .iaload, 1, 0, 0), (161, .aload_n 1, 1, 0, 0), (162, .iload 5, 2, 0, 0), (164, .invokevirtual 78, 3, 0, 0), (167, .invokevirtual 58, 3, 0, 0), (170, .iinc 5 1, 3, 1, 0), (173, .goto (-39), 3, 0, 134), (176, .aload_n 0, 1, 0, 0), (177, .getfield 81, 3, 0, 0), (180, .ireturn, 1, 0, 0)]
theorem tkX3_lay : ∀ x ∈ tbX3_lay, tbB cX3_lay x = true := tb_all (by decide +kernel)
def fX3_lay_107 (c : Nat → Option Nat) (k25 : Hp → Option Nat → Option Nat → Int32 → Rs) (h : Hp) (l0 : Option Nat) (l1 : Option Nat) (l5 : Int32) : Rs := k25 h l0 l1 (l5 + (1 : Int32))
set_option maxHeartbeats 4000000 in
set_option maxRecDepth 100000 in
theorem sX3_lay_107 (X : Cx) {h0 : Hp} (k25 : Hp → Option Nat → Option Nat → Int32 → Rs) (hk25 : ∀ (h : Hp) (l0 : Option Nat) (l1 : Option Nat) (l5 : Int32), Gd X mX3_lay h0 (k25 h l0 l1 l5) h 25 [some (.inr (.inr l0)), some (.inr (.inr l1)), none, none, none, some (.inl l5), none, none] []) (h : Hp) (l0 : Option Nat) (l1 : Option Nat) (l5 : Int32) : Gd X mX3_lay h0 (fX3_lay_107 X.2.2.2 k25 h l0 l1 l5) h 107 [some (.inr (.inr l0)), some (.inr (.inr l1)), none, none, none, some (.inl l5), none, none] [] := by
  unfold fX3_lay_107
  refine q_run tkX3_lay 54 2 (pc' := 25) (L' := [some (.inr (.inr l0)), some (.inr (.inr l1)), none, none, none, some (.inl (l5 + (1 : Int32))), none, none]) (st' := []) rfl ?_
  exact hk25 h l0 l1 (l5 + (1 : Int32))
def fX3_lay_85 (c : Nat → Option Nat) (k25 : Hp → Option Nat → Option Nat → Int32 → Rs) (h : Hp) (l0 : Option Nat) (l1 : Option Nat) (l5 : Int32) (l6 : Int32) (l7 : Option Nat) : Rs := ifN l7 (fX3_lay_107 c k25 h l0 l1 l5) (dv (12 : Int32) (ck h l7 3 (cc (fX1_sum c h l7) (kI fun h1 x2 => ck h1 l0 5 (cc (fX3_layTold c h1 l0 (c 5) (l6 - l6 / (12 : Int32) * (12 : Int32)) (-x2)) (kV fun h3 => fX3_lay_107 c k25 h3 l0 l1 l5))))))
set_option maxHeartbeats 4000000 in
set_option maxRecDepth 100000 in
theorem sX3_lay_85 (X : Cx) {h0 : Hp} (k25 : Hp → Option Nat → Option Nat → Int32 → Rs) (hk25 : ∀ (h : Hp) (l0 : Option Nat) (l1 : Option Nat) (l5 : Int32), Gd X mX3_lay h0 (k25 h l0 l1 l5) h 25 [some (.inr (.inr l0)), some (.inr (.inr l1)), none, none, none, some (.inl l5), none, none] []) (h : Hp) (l0 : Option Nat) (l1 : Option Nat) (l5 : Int32) (l6 : Int32) (l7 : Option Nat) : Gd X mX3_lay h0 (fX3_lay_85 X.2.2.2 k25 h l0 l1 l5 l6 l7) h 85 [some (.inr (.inr l0)), some (.inr (.inr l1)), none, none, none, some (.inl l5), some (.inl l6), some (.inr (.inr l7))] [] := by
  unfold fX3_lay_85
  refine q_run tkX3_lay 43 1 (pc' := 87) (L' := [some (.inr (.inr l0)), some (.inr (.inr l1)), none, none, none, some (.inl l5), some (.inl l6), some (.inr (.inr l7))]) (st' := [.inr (.inr l7)]) rfl ?_
  refine q_ifnull (tbm tkX3_lay (i := 44) rfl) ?_ ?_
  · refine q_le (L' := [some (.inr (.inr l0)), some (.inr (.inr l1)), none, none, none, some (.inl l5), none, none]) (lvLe_s (lvLe_s (lvLe_n (lvLe_n (lvLe_n (lvLe_s (lvLe_n (lvLe_n lvLe_0)))))))) ?_
    exact sX3_lay_107 X k25 hk25 h l0 l1 l5
  · refine q_run tkX3_lay 45 1 (pc' := 91) (L' := [some (.inr (.inr l0)), some (.inr (.inr l1)), none, none, none, some (.inl l5), some (.inl l6), some (.inr (.inr l7))]) (st' := [.inr (.inr l0)]) rfl ?_
    refine q_ldcS (i := 5) (tx := "void ") (tbm tkX3_lay (i := 46) rfl) e_s5 ?_
    refine q_run tkX3_lay 47 2 (pc' := 97) (L' := [some (.inr (.inr l0)), some (.inr (.inr l1)), none, none, none, some (.inl l5), some (.inl l6), some (.inr (.inr l7))]) (st' := [.inl (12 : Int32), .inl l6, .inr (.inr (X.2.2.2 5)), .inr (.inr l0)]) rfl ?_
    refine q_rem (tbm tkX3_lay (i := 49) rfl) ?_
    refine q_run tkX3_lay 50 1 (pc' := 100) (L' := [some (.inr (.inr l0)), some (.inr (.inr l1)), none, none, none, some (.inl l5), some (.inl l6), some (.inr (.inr l7))]) (st' := [.inr (.inr l7), .inl (l6 - l6 / (12 : Int32) * (12 : Int32)), .inr (.inr (X.2.2.2 5)), .inr (.inr l0)]) rfl ?_
    refine q_cv (r := l7) (ci := 3) (n := 0) (as := []) (st := [.inl (l6 - l6 / (12 : Int32) * (12 : Int32)), .inr (.inr (X.2.2.2 5)), .inr (.inr l0)]) TX1 4 (soX1_sum X h l7) (tbm tkX3_lay (i := 51) rfl) rfl rfl ceX1_sum wd_576 wd_577 wd_657 rfl (Nat.le_of_ble_eq_true rfl) (kI_gd (fun h1 x2 => ?_))
    refine q_run tkX3_lay 52 1 (pc' := 104) (L' := [some (.inr (.inr l0)), some (.inr (.inr l1)), none, none, none, some (.inl l5), some (.inl l6), some (.inr (.inr l7))]) (st' := [.inl (-x2), .inl (l6 - l6 / (12 : Int32) * (12 : Int32)), .inr (.inr (X.2.2.2 5)), .inr (.inr l0)]) rfl ?_
    refine q_cv (r := l0) (ci := 5) (n := 3) (as := [.inr (.inr (X.2.2.2 5)), .inl (l6 - l6 / (12 : Int32) * (12 : Int32)), .inl (-x2)]) (st := []) TX3 6 (soX3_layTold X h1 l0 (X.2.2.2 5) (l6 - l6 / (12 : Int32) * (12 : Int32)) (-x2)) (tbm tkX3_lay (i := 53) rfl) rfl rfl ceX3_layTold wd_671 wd_12 wd_669 rfl (Nat.le_of_ble_eq_true rfl) (kV_gd (fun h3 => ?_))
    refine q_le (L' := [some (.inr (.inr l0)), some (.inr (.inr l1)), none, none, none, some (.inl l5), none, none]) (lvLe_s (lvLe_s (lvLe_n (lvLe_n (lvLe_n (lvLe_s (lvLe_n (lvLe_n lvLe_0)))))))) ?_
    exact sX3_lay_107 X k25 hk25 h3 l0 l1 l5
def fX3_lay_170 (c : Nat → Option Nat) (k134 : Hp → Option Nat → Option Nat → Int32 → Rs) (h : Hp) (l0 : Option Nat) (l1 : Option Nat) (l5 : Int32) : Rs := k134 h l0 l1 (l5 + (1 : Int32))
set_option maxHeartbeats 4000000 in
set_option maxRecDepth 100000 in
theorem sX3_lay_170 (X : Cx) {h0 : Hp} (k134 : Hp → Option Nat → Option Nat → Int32 → Rs) (hk134 : ∀ (h : Hp) (l0 : Option Nat) (l1 : Option Nat) (l5 : Int32), Gd X mX3_lay h0 (k134 h l0 l1 l5) h 134 [some (.inr (.inr l0)), some (.inr (.inr l1)), none, none, none, some (.inl l5), none, none] []) (h : Hp) (l0 : Option Nat) (l1 : Option Nat) (l5 : Int32) : Gd X mX3_lay h0 (fX3_lay_170 X.2.2.2 k134 h l0 l1 l5) h 170 [some (.inr (.inr l0)), some (.inr (.inr l1)), none, none, none, some (.inl l5), none, none] [] := by
  unfold fX3_lay_170
  refine q_run tkX3_lay 84 2 (pc' := 134) (L' := [some (.inr (.inr l0)), some (.inr (.inr l1)), none, none, none, some (.inl (l5 + (1 : Int32))), none, none]) (st' := []) rfl ?_
  exact hk134 h l0 l1 (l5 + (1 : Int32))
def fX3_lay_134 (c : Nat → Option Nat) : Nat → Hp → Option Nat → Option Nat → Int32 → Rs
  | 0, _, _, _, _ => none
  | n + 1, h, l0, l1, l5 => lenA h (c 2) (fun x4 => if l5 < x4 then (ck h l1 4 (cc (fX2_sumTaxed c h l1 l5) (kI fun h5 x6 => if 0 < x6 then (aldI h5 (c 2) [0, 10] l5 (fun x7 => ck h5 l1 4 (cc (fX2_taxOf c h5 l1 l5) (kI fun h8 x9 => ck h8 l0 5 (cc (fX3_layTold c h8 l0 (c 7) x7 x9) (kV fun h10 => fX3_lay_170 c (fX3_lay_134 c n) h10 l0 l1 l5)))))) else (fX3_lay_170 c (fX3_lay_134 c n) h5 l0 l1 l5)))) else (rdI h l0 5 1 (fun x11 => some (h, some (.inl x11)))))
set_option maxHeartbeats 4000000 in
set_option maxRecDepth 100000 in
theorem sX3_lay_134 (X : Cx) {h0 : Hp} : ∀ (n : Nat) (h : Hp) (l0 : Option Nat) (l1 : Option Nat) (l5 : Int32), Gd X mX3_lay h0 (fX3_lay_134 X.2.2.2 n h l0 l1 l5) h 134 [some (.inr (.inr l0)), some (.inr (.inr l1)), none, none, none, some (.inl l5), none, none] [] := by
  intro n
  induction n with
  | zero => intros; exact gd_none
  | succ n ih =>
    intro h l0 l1 l5
    unfold fX3_lay_134
    refine q_run tkX3_lay 67 1 (pc' := 136) (L' := [some (.inr (.inr l0)), some (.inr (.inr l1)), none, none, none, some (.inl l5), none, none]) (st' := [.inl l5]) rfl ?_
    refine q_gsN (w := .inr (.inr (X.2.2.2 2))) (tbm tkX3_lay (i := 68) rfl) e_z2 e_nX3 ?_
    refine q_alen (tbm tkX3_lay (i := 69) rfl) (fun x4 => ?_)
    refine q_icmp_ge (tbm tkX3_lay (i := 70) rfl) ?_ ?_
    · refine q_run tkX3_lay 71 2 (pc' := 146) (L' := [some (.inr (.inr l0)), some (.inr (.inr l1)), none, none, none, some (.inl l5), none, none]) (st' := [.inl l5, .inr (.inr l1)]) rfl ?_
      refine q_cv (r := l1) (ci := 4) (n := 1) (as := [.inl l5]) (st := []) TX2 14 (soX2_sumTaxed X h l1 l5) (tbm tkX3_lay (i := 73) rfl) rfl rfl ceX2_sumTaxed wd_686 wd_687 wd_685 rfl (Nat.le_of_ble_eq_true rfl) (kI_gd (fun h5 x6 => ?_))
      refine q_if_le (tbm tkX3_lay (i := 74) rfl) ?_ ?_
      · refine q_run tkX3_lay 75 1 (pc' := 153) (L' := [some (.inr (.inr l0)), some (.inr (.inr l1)), none, none, none, some (.inl l5), none, none]) (st' := [.inr (.inr l0)]) rfl ?_
        refine q_ldcS (i := 7) (tx := "tax ") (tbm tkX3_lay (i := 76) rfl) e_s7 ?_
        refine q_gsN (w := .inr (.inr (X.2.2.2 2))) (tbm tkX3_lay (i := 77) rfl) e_z2 e_nX3 ?_
        refine q_run tkX3_lay 78 1 (pc' := 160) (L' := [some (.inr (.inr l0)), some (.inr (.inr l1)), none, none, none, some (.inl l5), none, none]) (st' := [.inl l5, .inr (.inr (X.2.2.2 2)), .inr (.inr (X.2.2.2 7)), .inr (.inr l0)]) rfl ?_
        refine q_iaload (tbm tkX3_lay (i := 79) rfl) (fun x7 => ?_)
        refine q_run tkX3_lay 80 2 (pc' := 164) (L' := [some (.inr (.inr l0)), some (.inr (.inr l1)), none, none, none, some (.inl l5), none, none]) (st' := [.inl l5, .inr (.inr l1), .inl x7, .inr (.inr (X.2.2.2 7)), .inr (.inr l0)]) rfl ?_
        refine q_cv (r := l1) (ci := 4) (n := 1) (as := [.inl l5]) (st := [.inl x7, .inr (.inr (X.2.2.2 7)), .inr (.inr l0)]) TX2 14 (soX2_taxOf X h5 l1 l5) (tbm tkX3_lay (i := 82) rfl) rfl rfl ceX2_taxOf wd_692 wd_693 wd_691 rfl (Nat.le_of_ble_eq_true rfl) (kI_gd (fun h8 x9 => ?_))
        refine q_cv (r := l0) (ci := 5) (n := 3) (as := [.inr (.inr (X.2.2.2 7)), .inl x7, .inl x9]) (st := []) TX3 6 (soX3_layTold X h8 l0 (X.2.2.2 7) x7 x9) (tbm tkX3_lay (i := 83) rfl) rfl rfl ceX3_layTold wd_671 wd_12 wd_669 rfl (Nat.le_of_ble_eq_true rfl) (kV_gd (fun h10 => ?_))
        exact sX3_lay_170 X (fX3_lay_134 X.2.2.2 n) ih h10 l0 l1 l5
      · exact sX3_lay_170 X (fX3_lay_134 X.2.2.2 n) ih h5 l0 l1 l5
    · refine q_run tkX3_lay 86 1 (pc' := 177) (L' := [some (.inr (.inr l0)), some (.inr (.inr l1)), none, none, none, some (.inl l5), none, none]) (st' := [.inr (.inr l0)]) rfl ?_
      refine q_rdI RX3 TX3 6 (tbm tkX3_lay (i := 87) rfl) rfl (Nat.le_of_ble_eq_true rfl) wd_283 (fun x11 => ?_)
      exact q_iret (tbm tkX3_lay (i := 88) rfl) rfl
def fX3_lay_113 (c : Nat → Option Nat) (h : Hp) (l0 : Option Nat) (l1 : Option Nat) : Rs := ck h l0 5 (cc (fX3_addText c h l0 (c 6)) (kV fun h12 => ck h12 l1 4 (cc (fX2_total c h12 l1) (kI fun h13 x14 => ck h13 l0 5 (cc (fX3_addMoney c h13 l0 x14) (kV fun h15 => ck h15 l0 5 (cc (fX3_endLine c h15 l0) (kV fun h16 => fX3_lay_134 c FU h16 l0 l1 (1 : Int32)))))))))
set_option maxHeartbeats 4000000 in
set_option maxRecDepth 100000 in
theorem sX3_lay_113 (X : Cx) {h0 : Hp} (h : Hp) (l0 : Option Nat) (l1 : Option Nat) : Gd X mX3_lay h0 (fX3_lay_113 X.2.2.2 h l0 l1) h 113 [some (.inr (.inr l0)), some (.inr (.inr l1)), none, none, none, none, none, none] [] := by
  unfold fX3_lay_113
  refine q_run tkX3_lay 56 1 (pc' := 114) (L' := [some (.inr (.inr l0)), some (.inr (.inr l1)), none, none, none, none, none, none]) (st' := [.inr (.inr l0)]) rfl ?_
  refine q_ldcS (i := 6) (tx := "sum") (tbm tkX3_lay (i := 57) rfl) e_s6 ?_
  refine q_cv (r := l0) (ci := 5) (n := 1) (as := [.inr (.inr (X.2.2.2 6))]) (st := []) TX3 6 (soX3_addText X h l0 (X.2.2.2 6)) (tbm tkX3_lay (i := 58) rfl) rfl rfl ceX3_addText wd_605 wd_5 wd_603 rfl (Nat.le_of_ble_eq_true rfl) (kV_gd (fun h12 => ?_))
  refine q_run tkX3_lay 59 2 (pc' := 121) (L' := [some (.inr (.inr l0)), some (.inr (.inr l1)), none, none, none, none, none, none]) (st' := [.inr (.inr l1), .inr (.inr l0)]) rfl ?_
  refine q_cv (r := l1) (ci := 4) (n := 0) (as := []) (st := [.inr (.inr l0)]) TX2 14 (soX2_total X h12 l1) (tbm tkX3_lay (i := 61) rfl) rfl rfl ceX2_total wd_675 wd_676 wd_674 rfl (Nat.le_of_ble_eq_true rfl) (kI_gd (fun h13 x14 => ?_))
  refine q_cv (r := l0) (ci := 5) (n := 1) (as := [.inl x14]) (st := []) TX3 6 (soX3_addMoney X h13 l0 x14) (tbm tkX3_lay (i := 62) rfl) rfl rfl ceX3_addMoney wd_660 wd_11 wd_658 rfl (Nat.le_of_ble_eq_true rfl) (kV_gd (fun h15 => ?_))
  refine q_run tkX3_lay 63 1 (pc' := 128) (L' := [some (.inr (.inr l0)), some (.inr (.inr l1)), none, none, none, none, none, none]) (st' := [.inr (.inr l0)]) rfl ?_
  refine q_cv (r := l0) (ci := 5) (n := 0) (as := []) (st := []) TX3 6 (soX3_endLine X h15 l0) (tbm tkX3_lay (i := 64) rfl) rfl rfl ceX3_endLine wd_645 wd_8 wd_643 rfl (Nat.le_of_ble_eq_true rfl) (kV_gd (fun h16 => ?_))
  refine q_run tkX3_lay 65 2 (pc' := 134) (L' := [some (.inr (.inr l0)), some (.inr (.inr l1)), none, none, none, some (.inl (1 : Int32)), none, none]) (st' := []) rfl ?_
  exact sX3_lay_134 X FU h16 l0 l1 (1 : Int32)
def fX3_lay_25 (c : Nat → Option Nat) : Nat → Hp → Option Nat → Option Nat → Int32 → Rs
  | 0, _, _, _, _ => none
  | n + 1, h, l0, l1, l5 => rdI h l1 4 10 (fun x17 => if l5 < x17 then (rdR h l1 4 13 (fun r18 => lenA h r18 (fun x19 => if l5 < x19 then (rdR h l1 4 13 (fun r20 => aldI h r20 [0, 10] l5 (fun x21 => dv (12 : Int32) (ck h l1 4 (cc (fX2_itemAt c h l1 (x21 - x21 / (12 : Int32) * (12 : Int32))) (kR fun h22 r23 => ifN r23 (fX3_lay_85 c (fX3_lay_25 c n) h22 l0 l1 l5 x21 r23) (if x21 < (12 : Int32) then (ck h22 l0 5 (cc (fX3_layItem c h22 l0 r23) (kV fun h24 => fX3_lay_107 c (fX3_lay_25 c n) h24 l0 l1 l5))) else (fX3_lay_85 c (fX3_lay_25 c n) h22 l0 l1 l5 x21 r23)))))))) else (fX3_lay_113 c h l0 l1)))) else (fX3_lay_113 c h l0 l1))
set_option maxHeartbeats 4000000 in
set_option maxRecDepth 100000 in
theorem sX3_lay_25 (X : Cx) {h0 : Hp} : ∀ (n : Nat) (h : Hp) (l0 : Option Nat) (l1 : Option Nat) (l5 : Int32), Gd X mX3_lay h0 (fX3_lay_25 X.2.2.2 n h l0 l1 l5) h 25 [some (.inr (.inr l0)), some (.inr (.inr l1)), none, none, none, some (.inl l5), none, none] [] := by
  intro n
  induction n with
  | zero => intros; exact gd_none
  | succ n ih =>
    intro h l0 l1 l5
    unfold fX3_lay_25
    refine q_run tkX3_lay 14 2 (pc' := 28) (L' := [some (.inr (.inr l0)), some (.inr (.inr l1)), none, none, none, some (.inl l5), none, none]) (st' := [.inr (.inr l1), .inl l5]) rfl ?_
    refine q_rdI RX2 TX2 14 (tbm tkX3_lay (i := 16) rfl) rfl (Nat.le_of_ble_eq_true rfl) wd_138 (fun x17 => ?_)
    refine q_icmp_ge (tbm tkX3_lay (i := 17) rfl) ?_ ?_
    · refine q_run tkX3_lay 18 2 (pc' := 37) (L' := [some (.inr (.inr l0)), some (.inr (.inr l1)), none, none, none, some (.inl l5), none, none]) (st' := [.inr (.inr l1), .inl l5]) rfl ?_
      refine q_rdR RX2 TX2 14 (tbm tkX3_lay (i := 20) rfl) rfl (Nat.le_of_ble_eq_true rfl) wd_144 (fun r18 => ?_)
      refine q_alen (tbm tkX3_lay (i := 21) rfl) (fun x19 => ?_)
      refine q_icmp_ge (tbm tkX3_lay (i := 22) rfl) ?_ ?_
      · refine q_run tkX3_lay 23 1 (pc' := 45) (L' := [some (.inr (.inr l0)), some (.inr (.inr l1)), none, none, none, some (.inl l5), none, none]) (st' := [.inr (.inr l1)]) rfl ?_
        refine q_rdR RX2 TX2 14 (tbm tkX3_lay (i := 24) rfl) rfl (Nat.le_of_ble_eq_true rfl) wd_144 (fun r20 => ?_)
        refine q_run tkX3_lay 25 1 (pc' := 50) (L' := [some (.inr (.inr l0)), some (.inr (.inr l1)), none, none, none, some (.inl l5), none, none]) (st' := [.inl l5, .inr (.inr r20)]) rfl ?_
        refine q_iaload (tbm tkX3_lay (i := 26) rfl) (fun x21 => ?_)
        refine q_run tkX3_lay 27 4 (pc' := 58) (L' := [some (.inr (.inr l0)), some (.inr (.inr l1)), none, none, none, some (.inl l5), some (.inl x21), none]) (st' := [.inl (12 : Int32), .inl x21, .inr (.inr l1)]) rfl ?_
        refine q_rem (tbm tkX3_lay (i := 31) rfl) ?_
        refine q_cv (r := l1) (ci := 4) (n := 1) (as := [.inl (x21 - x21 / (12 : Int32) * (12 : Int32))]) (st := []) TX2 14 (soX2_itemAt X h l1 (x21 - x21 / (12 : Int32) * (12 : Int32))) (tbm tkX3_lay (i := 32) rfl) rfl rfl ceX2_itemAt wd_564 wd_565 wd_647 rfl (Nat.le_of_ble_eq_true rfl) (kR_gd (fun h22 r23 => ?_))
        refine q_run tkX3_lay 33 2 (pc' := 66) (L' := [some (.inr (.inr l0)), some (.inr (.inr l1)), none, none, none, some (.inl l5), some (.inl x21), some (.inr (.inr r23))]) (st' := [.inr (.inr r23)]) rfl ?_
        refine q_ifnull (tbm tkX3_lay (i := 35) rfl) ?_ ?_
        · exact sX3_lay_85 X (fX3_lay_25 X.2.2.2 n) ih h22 l0 l1 l5 x21 r23
        · refine q_run tkX3_lay 36 2 (pc' := 73) (L' := [some (.inr (.inr l0)), some (.inr (.inr l1)), none, none, none, some (.inl l5), some (.inl x21), some (.inr (.inr r23))]) (st' := [.inl (12 : Int32), .inl x21]) rfl ?_
          refine q_icmp_ge (tbm tkX3_lay (i := 38) rfl) ?_ ?_
          · refine q_run tkX3_lay 39 2 (pc' := 79) (L' := [some (.inr (.inr l0)), some (.inr (.inr l1)), none, none, none, some (.inl l5), some (.inl x21), some (.inr (.inr r23))]) (st' := [.inr (.inr r23), .inr (.inr l0)]) rfl ?_
            refine q_cv (r := l0) (ci := 5) (n := 1) (as := [.inr (.inr r23)]) (st := []) TX3 6 (soX3_layItem X h22 l0 r23) (tbm tkX3_lay (i := 41) rfl) rfl rfl ceX3_layItem wd_650 wd_9 wd_648 rfl (Nat.le_of_ble_eq_true rfl) (kV_gd (fun h24 => ?_))
            refine q_run tkX3_lay 42 1 (pc' := 107) (L' := [some (.inr (.inr l0)), some (.inr (.inr l1)), none, none, none, some (.inl l5), some (.inl x21), some (.inr (.inr r23))]) (st' := []) rfl ?_
            refine q_le (L' := [some (.inr (.inr l0)), some (.inr (.inr l1)), none, none, none, some (.inl l5), none, none]) (lvLe_s (lvLe_s (lvLe_n (lvLe_n (lvLe_n (lvLe_s (lvLe_n (lvLe_n lvLe_0)))))))) ?_
            exact sX3_lay_107 X (fX3_lay_25 X.2.2.2 n) ih h24 l0 l1 l5
          · exact sX3_lay_85 X (fX3_lay_25 X.2.2.2 n) ih h22 l0 l1 l5 x21 r23
      · refine q_le (L' := [some (.inr (.inr l0)), some (.inr (.inr l1)), none, none, none, none, none, none]) (lvLe_s (lvLe_s (lvLe_n (lvLe_n (lvLe_n (lvLe_n (lvLe_n (lvLe_n lvLe_0)))))))) ?_
        exact sX3_lay_113 X h l0 l1
    · refine q_le (L' := [some (.inr (.inr l0)), some (.inr (.inr l1)), none, none, none, none, none, none]) (lvLe_s (lvLe_s (lvLe_n (lvLe_n (lvLe_n (lvLe_n (lvLe_n (lvLe_n lvLe_0)))))))) ?_
      exact sX3_lay_113 X h l0 l1
def fX3_lay (c : Nat → Option Nat) (h : Hp) (a0 : Option Nat) (a1 : Option Nat) (a2 : Int32) (a3 : Int32) (a4 : Int32) : Rs := ck h a0 5 (cc (fX3_begin c h a0 a3 a4) (kV fun h25 => ck h25 a0 5 (cc (fX3_addText c h25 a0 (c 4)) (kV fun h26 => ck h26 a0 5 (cc (fX3_addNumber c h26 a0 a2) (kV fun h27 => ck h27 a0 5 (cc (fX3_endLine c h27 a0) (kV fun h28 => fX3_lay_25 c FU h28 a0 a1 (0 : Int32)))))))))
set_option maxHeartbeats 4000000 in
set_option maxRecDepth 100000 in
theorem soX3_lay (X : Cx) (h : Hp) (a0 : Option Nat) (a1 : Option Nat) (a2 : Int32) (a3 : Int32) (a4 : Int32) : SO X mX3_lay [.inr (.inr a0), .inr (.inr a1), .inl a2, .inl a3, .inl a4] h (fX3_lay X.2.2.2 h a0 a1 a2 a3 a4) := by
  refine so_of (by decide +kernel) (Nat.le_of_ble_eq_true rfl) ?_
  show Gd X mX3_lay h (fX3_lay X.2.2.2 h a0 a1 a2 a3 a4) h 0 [some (.inr (.inr a0)), some (.inr (.inr a1)), some (.inl a2), some (.inl a3), some (.inl a4), none, none, none] []
  unfold fX3_lay
  refine q_run tkX3_lay 0 3 (pc' := 4) (L' := [some (.inr (.inr a0)), some (.inr (.inr a1)), some (.inl a2), some (.inl a3), some (.inl a4), none, none, none]) (st' := [.inl a4, .inl a3, .inr (.inr a0)]) rfl ?_
  refine q_cv (r := a0) (ci := 5) (n := 2) (as := [.inl a3, .inl a4]) (st := []) TX3 6 (soX3_begin X h a0 a3 a4) (tbm tkX3_lay (i := 3) rfl) rfl rfl ceX3_begin wd_600 wd_4 wd_598 rfl (Nat.le_of_ble_eq_true rfl) (kV_gd (fun h25 => ?_))
  refine q_run tkX3_lay 4 1 (pc' := 8) (L' := [some (.inr (.inr a0)), some (.inr (.inr a1)), some (.inl a2), some (.inl a3), some (.inl a4), none, none, none]) (st' := [.inr (.inr a0)]) rfl ?_
  refine q_ldcS (i := 4) (tx := "#") (tbm tkX3_lay (i := 5) rfl) e_s4 ?_
  refine q_cv (r := a0) (ci := 5) (n := 1) (as := [.inr (.inr (X.2.2.2 4))]) (st := []) TX3 6 (soX3_addText X h25 a0 (X.2.2.2 4)) (tbm tkX3_lay (i := 6) rfl) rfl rfl ceX3_addText wd_605 wd_5 wd_603 rfl (Nat.le_of_ble_eq_true rfl) (kV_gd (fun h26 => ?_))
  refine q_run tkX3_lay 7 2 (pc' := 15) (L' := [some (.inr (.inr a0)), some (.inr (.inr a1)), some (.inl a2), some (.inl a3), some (.inl a4), none, none, none]) (st' := [.inl a2, .inr (.inr a0)]) rfl ?_
  refine q_cv (r := a0) (ci := 5) (n := 1) (as := [.inl a2]) (st := []) TX3 6 (soX3_addNumber X h26 a0 a2) (tbm tkX3_lay (i := 9) rfl) rfl rfl ceX3_addNumber wd_640 wd_7 wd_638 rfl (Nat.le_of_ble_eq_true rfl) (kV_gd (fun h27 => ?_))
  refine q_run tkX3_lay 10 1 (pc' := 19) (L' := [some (.inr (.inr a0)), some (.inr (.inr a1)), some (.inl a2), some (.inl a3), some (.inl a4), none, none, none]) (st' := [.inr (.inr a0)]) rfl ?_
  refine q_cv (r := a0) (ci := 5) (n := 0) (as := []) (st := []) TX3 6 (soX3_endLine X h27 a0) (tbm tkX3_lay (i := 11) rfl) rfl rfl ceX3_endLine wd_645 wd_8 wd_643 rfl (Nat.le_of_ble_eq_true rfl) (kV_gd (fun h28 => ?_))
  refine q_run tkX3_lay 12 2 (pc' := 25) (L' := [some (.inr (.inr a0)), some (.inr (.inr a1)), some (.inl a2), some (.inl a3), some (.inl a4), some (.inl (0 : Int32)), none, none]) (st' := []) rfl ?_
  refine q_le (L' := [some (.inr (.inr a0)), some (.inr (.inr a1)), none, none, none, some (.inl (0 : Int32)), none, none]) (lvLe_s (lvLe_s (lvLe_n (lvLe_n (lvLe_n (lvLe_s (lvLe_n (lvLe_n lvLe_0)))))))) ?_
  exact sX3_lay_25 X FU h28 a0 a1 (0 : Int32)
theorem ceX3_lay : Ce mX3_lay 4 := ⟨wd_80, wd_597, by decide +kernel, by decide +kernel, by decide +kernel⟩
/-- ReceiptRolls$Receipt.closeAs -/
abbrev mX2_closeAs : MI := (yX2_closeAs, cX2_closeAs, 6, none, 0)
def tbX2_closeAs : List TE := [(0, .aload_n 0, 1, 0, 0), (1, .iload_n 1, 1, 0, 0), (2, .putfield 21, 3, 0, 0), (5, .aload_n 0, 1, 0, 0), (6, .iload_n 2, 1, 0, 0), (7, .putfield 25, 3, 0, 0), (10, .aload_n 0, 1, 0, 0), (11, .iload_n 3, 1, 0, 0), (12, .putfield 28, 3, 0, 0), (15, .aload_n 0, 1, 0, 0), (16, .iconst 0, 1, 0, 0), (17, .putfield 31, 3, 0, 0), (20, .aload_n 0, 1, 0, 0), (21, .iload 4, 2, 0, 0), (23, .putfield 34, 3, 0, 0), (26, .aload_n 0, 1, 0, 0), (27, .iload 5, 2, 0, 0), (29, .putfield 37, 3, 0, 0), (32, .aload_n 0, 1, 0, 0), (33, .iconst 0, 1, 0, 0), (34, .putfield 40, 3, 0, 0), (37, .return_, 1, 0, 0)]
theorem tkX2_closeAs : ∀ x ∈ tbX2_closeAs, tbB cX2_closeAs x = true := tb_all (by decide +kernel)
def fX2_closeAs (c : Nat → Option Nat) (h : Hp) (a0 : Option Nat) (a1 : Int32) (a2 : Int32) (a3 : Int32) (a4 : Int32) (a5 : Int32) : Rs := wr h a0 4 0 (.inl a1) (fun h1 => wr h1 a0 4 1 (.inl a2) (fun h2 => wr h2 a0 4 2 (.inl a3) (fun h3 => wr h3 a0 4 3 (.inl (0 : Int32)) (fun h4 => wr h4 a0 4 4 (.inl a4) (fun h5 => wr h5 a0 4 5 (.inl a5) (fun h6 => wr h6 a0 4 6 (.inl (0 : Int32)) (fun h7 => some (h7, none))))))))
set_option maxHeartbeats 4000000 in
set_option maxRecDepth 100000 in
theorem soX2_closeAs (X : Cx) (h : Hp) (a0 : Option Nat) (a1 : Int32) (a2 : Int32) (a3 : Int32) (a4 : Int32) (a5 : Int32) : SO X mX2_closeAs [.inr (.inr a0), .inl a1, .inl a2, .inl a3, .inl a4, .inl a5] h (fX2_closeAs X.2.2.2 h a0 a1 a2 a3 a4 a5) := by
  refine so_of (by decide +kernel) (Nat.le_of_ble_eq_true rfl) ?_
  show Gd X mX2_closeAs h (fX2_closeAs X.2.2.2 h a0 a1 a2 a3 a4 a5) h 0 [some (.inr (.inr a0)), some (.inl a1), some (.inl a2), some (.inl a3), some (.inl a4), some (.inl a5)] []
  unfold fX2_closeAs
  refine q_run tkX2_closeAs 0 2 (pc' := 2) (L' := [some (.inr (.inr a0)), some (.inl a1), some (.inl a2), some (.inl a3), some (.inl a4), some (.inl a5)]) (st' := [.inl a1, .inr (.inr a0)]) rfl ?_
  refine q_wr RX2 TX2 14 (tbm tkX2_closeAs (i := 2) rfl) rfl (Nat.le_of_ble_eq_true rfl) (Or.inl rfl) wd_113 (fun h1 => ?_)
  refine q_run tkX2_closeAs 3 2 (pc' := 7) (L' := [some (.inr (.inr a0)), some (.inl a1), some (.inl a2), some (.inl a3), some (.inl a4), some (.inl a5)]) (st' := [.inl a2, .inr (.inr a0)]) rfl ?_
  refine q_wr RX2 TX2 14 (tbm tkX2_closeAs (i := 5) rfl) rfl (Nat.le_of_ble_eq_true rfl) (Or.inl rfl) wd_116 (fun h2 => ?_)
  refine q_run tkX2_closeAs 6 2 (pc' := 12) (L' := [some (.inr (.inr a0)), some (.inl a1), some (.inl a2), some (.inl a3), some (.inl a4), some (.inl a5)]) (st' := [.inl a3, .inr (.inr a0)]) rfl ?_
  refine q_wr RX2 TX2 14 (tbm tkX2_closeAs (i := 8) rfl) rfl (Nat.le_of_ble_eq_true rfl) (Or.inl rfl) wd_118 (fun h3 => ?_)
  refine q_run tkX2_closeAs 9 2 (pc' := 17) (L' := [some (.inr (.inr a0)), some (.inl a1), some (.inl a2), some (.inl a3), some (.inl a4), some (.inl a5)]) (st' := [.inl (0 : Int32), .inr (.inr a0)]) rfl ?_
  refine q_wr RX2 TX2 14 (tbm tkX2_closeAs (i := 11) rfl) rfl (Nat.le_of_ble_eq_true rfl) (Or.inl rfl) wd_120 (fun h4 => ?_)
  refine q_run tkX2_closeAs 12 2 (pc' := 23) (L' := [some (.inr (.inr a0)), some (.inl a1), some (.inl a2), some (.inl a3), some (.inl a4), some (.inl a5)]) (st' := [.inl a4, .inr (.inr a0)]) rfl ?_
  refine q_wr RX2 TX2 14 (tbm tkX2_closeAs (i := 14) rfl) rfl (Nat.le_of_ble_eq_true rfl) (Or.inl rfl) wd_123 (fun h5 => ?_)
  refine q_run tkX2_closeAs 15 2 (pc' := 29) (L' := [some (.inr (.inr a0)), some (.inl a1), some (.inl a2), some (.inl a3), some (.inl a4), some (.inl a5)]) (st' := [.inl a5, .inr (.inr a0)]) rfl ?_
  refine q_wr RX2 TX2 14 (tbm tkX2_closeAs (i := 17) rfl) rfl (Nat.le_of_ble_eq_true rfl) (Or.inl rfl) wd_125 (fun h6 => ?_)
  refine q_run tkX2_closeAs 18 2 (pc' := 34) (L' := [some (.inr (.inr a0)), some (.inl a1), some (.inl a2), some (.inl a3), some (.inl a4), some (.inl a5)]) (st' := [.inl (0 : Int32), .inr (.inr a0)]) rfl ?_
  refine q_wr RX2 TX2 14 (tbm tkX2_closeAs (i := 20) rfl) rfl (Nat.le_of_ble_eq_true rfl) (Or.inl rfl) wd_128 (fun h7 => ?_)
  exact q_vret (tbm tkX2_closeAs (i := 21) rfl) rfl
theorem ceX2_closeAs : Ce mX2_closeAs 5 := ⟨wd_74, wd_702, by decide +kernel, by decide +kernel, by decide +kernel⟩
/-- ReceiptRolls$Receipt.clear -/
abbrev mX2_clear : MI := (yX2_clear, cX2_clear, 1, none, 0)
def tbX2_clear : List TE := [(0, .aload_n 0, 1, 0, 0), (1, .iconst 0, 1, 0, 0), (2, .putfield 21, 3, 0, 0), (5, .aload_n 0, 1, 0, 0), (6, .iconst 0, 1, 0, 0), (7, .putfield 49, 3, 0, 0), (10, .aload_n 0, 1, 0, 0), (11, .iconst 0, 1, 0, 0), (12, .putfield 52, 3, 0, 0), (15, .aload_n 0, 1, 0, 0), (16, .iconst 0, 1, 0, 0), (17, .putfield 55, 3, 0, 0), (20, .return_, 1, 0, 0)]
theorem tkX2_clear : ∀ x ∈ tbX2_clear, tbB cX2_clear x = true := tb_all (by decide +kernel)
def fX2_clear (c : Nat → Option Nat) (h : Hp) (a0 : Option Nat) : Rs := wr h a0 4 0 (.inl (0 : Int32)) (fun h1 => wr h1 a0 4 9 (.inl (0 : Int32)) (fun h2 => wr h2 a0 4 10 (.inl (0 : Int32)) (fun h3 => wr h3 a0 4 11 (.inl (0 : Int32)) (fun h4 => some (h4, none)))))
set_option maxHeartbeats 4000000 in
set_option maxRecDepth 100000 in
theorem soX2_clear (X : Cx) (h : Hp) (a0 : Option Nat) : SO X mX2_clear [.inr (.inr a0)] h (fX2_clear X.2.2.2 h a0) := by
  refine so_of (by decide +kernel) (Nat.le_of_ble_eq_true rfl) ?_
  show Gd X mX2_clear h (fX2_clear X.2.2.2 h a0) h 0 [some (.inr (.inr a0))] []
  unfold fX2_clear
  refine q_run tkX2_clear 0 2 (pc' := 2) (L' := [some (.inr (.inr a0))]) (st' := [.inl (0 : Int32), .inr (.inr a0)]) rfl ?_
  refine q_wr RX2 TX2 14 (tbm tkX2_clear (i := 2) rfl) rfl (Nat.le_of_ble_eq_true rfl) (Or.inl rfl) wd_113 (fun h1 => ?_)
  refine q_run tkX2_clear 3 2 (pc' := 7) (L' := [some (.inr (.inr a0))]) (st' := [.inl (0 : Int32), .inr (.inr a0)]) rfl ?_
  refine q_wr RX2 TX2 14 (tbm tkX2_clear (i := 5) rfl) rfl (Nat.le_of_ble_eq_true rfl) (Or.inl rfl) wd_136 (fun h2 => ?_)
  refine q_run tkX2_clear 6 2 (pc' := 12) (L' := [some (.inr (.inr a0))]) (st' := [.inl (0 : Int32), .inr (.inr a0)]) rfl ?_
  refine q_wr RX2 TX2 14 (tbm tkX2_clear (i := 8) rfl) rfl (Nat.le_of_ble_eq_true rfl) (Or.inl rfl) wd_139 (fun h3 => ?_)
  refine q_run tkX2_clear 9 2 (pc' := 17) (L' := [some (.inr (.inr a0))]) (st' := [.inl (0 : Int32), .inr (.inr a0)]) rfl ?_
  refine q_wr RX2 TX2 14 (tbm tkX2_clear (i := 11) rfl) rfl (Nat.le_of_ble_eq_true rfl) (Or.inl rfl) wd_140 (fun h4 => ?_)
  exact q_vret (tbm tkX2_clear (i := 12) rfl) rfl
theorem ceX2_clear : Ce mX2_clear 0 := ⟨wd_74, wd_706, by decide +kernel, by decide +kernel, by decide +kernel⟩
/-- ReceiptRolls$State.places -/
abbrev mX4_places : MI := (yX4_places, cX4_places, 1, some .int, 0)
def tbX4_places : List TE := [(0, .aload_n 0, 1, 0, 0), (1, .getfield 28, 3, 0, 0), (4, .arraylength, 1, 0, 0), (5, .ireturn, 1, 0, 0)]
theorem tkX4_places : ∀ x ∈ tbX4_places, tbB cX4_places x = true := tb_all (by decide +kernel)
def fX4_places (c : Nat → Option Nat) (h : Hp) (a0 : Option Nat) : Rs := rdR h a0 6 12 (fun r1 => lenA h r1 (fun x2 => some (h, some (.inl x2))))
set_option maxHeartbeats 4000000 in
set_option maxRecDepth 100000 in
theorem soX4_places (X : Cx) (h : Hp) (a0 : Option Nat) : SO X mX4_places [.inr (.inr a0)] h (fX4_places X.2.2.2 h a0) := by
  refine so_of (by decide +kernel) (Nat.le_of_ble_eq_true rfl) ?_
  show Gd X mX4_places h (fX4_places X.2.2.2 h a0) h 0 [some (.inr (.inr a0))] []
  unfold fX4_places
  refine q_run tkX4_places 0 1 (pc' := 1) (L' := [some (.inr (.inr a0))]) (st' := [.inr (.inr a0)]) rfl ?_
  refine q_rdR RX4 TX4 13 (tbm tkX4_places (i := 1) rfl) rfl (Nat.le_of_ble_eq_true rfl) wd_197 (fun r1 => ?_)
  refine q_alen (tbm tkX4_places (i := 2) rfl) (fun x2 => ?_)
  exact q_iret (tbm tkX4_places (i := 3) rfl) rfl
theorem ceX4_places : Ce mX4_places 0 := ⟨wd_73, wd_718, by decide +kernel, by decide +kernel, by decide +kernel⟩
/-- ReceiptRolls$State.placeAt -/
abbrev mX4_placeAt : MI := (yX4_placeAt, cX4_placeAt, 3, some (.object "ReceiptRolls$Receipt"), 0)
def tbX4_placeAt : List TE := [(0, .iload_n 1, 1, 0, 0), (1, .ifCond .lt 12, 3, 0, 13), (4, .iload_n 1, 1, 0, 0), (5, .aload_n 0, 1, 0, 0), (6, .getfield 28, 3, 0, 0), (9, .arraylength, 1, 0, 0), (10, .if_icmp .lt 5, 3, 0, 15), (13, .aconst_null, 1, 0, 0), (14, .areturn, 1, 0, 0), (15, .aload_n 0, 1, 0, 0), (16, .getfield 28, 3, 0, 0), (19, .iload_n 1, 1, 0, 0), (20, .aaload, 1, 0, 0), (21, .astore_n 2, 1, 0, 0), (22, .aload_n 2, 1, 0, 0), (23, .ifnull 10, 3, 0, 33), (26, .aload_n 2, 1, 0, 0), (27, .getfield 68, 3, 0, 0), (30, .ifCond .ne 7, 3, 0, 37), (33, .aconst_null, 1, 0, 0), (34, .goto 4, 3, 0, 38), (37, .aload_n 2, 1, 0, 0), (38, .areturn, 1, 0, 0)]
theorem tkX4_placeAt : ∀ x ∈ tbX4_placeAt, tbB cX4_placeAt x = true := tb_all (by decide +kernel)
def fX4_placeAt_38 (c : Nat → Option Nat) (h : Hp) (s0 : Option Nat) : Rs := some (h, some (.inr (.inr s0)))
set_option maxHeartbeats 4000000 in
set_option maxRecDepth 100000 in
theorem sX4_placeAt_38 (X : Cx) {h0 : Hp} (h : Hp) (s0 : Option Nat) : Gd X mX4_placeAt h0 (fX4_placeAt_38 X.2.2.2 h s0) h 38 [none, none, none] [.inr (.inr s0)] := by
  unfold fX4_placeAt_38
  exact q_aret (tbm tkX4_placeAt (i := 22) rfl) rfl (Or.inl ⟨_, rfl⟩)
def fX4_placeAt_33 (c : Nat → Option Nat) (h : Hp) : Rs := fX4_placeAt_38 c h none
set_option maxHeartbeats 4000000 in
set_option maxRecDepth 100000 in
theorem sX4_placeAt_33 (X : Cx) {h0 : Hp} (h : Hp) : Gd X mX4_placeAt h0 (fX4_placeAt_33 X.2.2.2 h) h 33 [none, none, none] [] := by
  unfold fX4_placeAt_33
  refine q_run tkX4_placeAt 19 2 (pc' := 38) (L' := [none, none, none]) (st' := [.inr (.inr none)]) rfl ?_
  exact sX4_placeAt_38 X h none
def fX4_placeAt_13 (c : Nat → Option Nat) (h : Hp) : Rs := some (h, some (.inr (.inr none)))
set_option maxHeartbeats 4000000 in
set_option maxRecDepth 100000 in
theorem sX4_placeAt_13 (X : Cx) {h0 : Hp} (h : Hp) : Gd X mX4_placeAt h0 (fX4_placeAt_13 X.2.2.2 h) h 13 [none, none, none] [] := by
  unfold fX4_placeAt_13
  refine q_run tkX4_placeAt 7 1 (pc' := 14) (L' := [none, none, none]) (st' := [.inr (.inr none)]) rfl ?_
  exact q_aret (tbm tkX4_placeAt (i := 8) rfl) rfl (Or.inl ⟨_, rfl⟩)
def fX4_placeAt (c : Nat → Option Nat) (h : Hp) (a0 : Option Nat) (a1 : Int32) : Rs := if a1 < 0 then (fX4_placeAt_13 c h) else (rdR h a0 6 12 (fun r1 => lenA h r1 (fun x2 => if a1 < x2 then (rdR h a0 6 12 (fun r3 => aldR h r3 a1 (fun r4 => ifN r4 (fX4_placeAt_33 c h) (rdI h r4 4 0 (fun x5 => if x5 = 0 then (fX4_placeAt_33 c h) else (fX4_placeAt_38 c h r4)))))) else (fX4_placeAt_13 c h))))
set_option maxHeartbeats 4000000 in
set_option maxRecDepth 100000 in
theorem soX4_placeAt (X : Cx) (h : Hp) (a0 : Option Nat) (a1 : Int32) : SO X mX4_placeAt [.inr (.inr a0), .inl a1] h (fX4_placeAt X.2.2.2 h a0 a1) := by
  refine so_of (by decide +kernel) (Nat.le_of_ble_eq_true rfl) ?_
  show Gd X mX4_placeAt h (fX4_placeAt X.2.2.2 h a0 a1) h 0 [some (.inr (.inr a0)), some (.inl a1), none] []
  unfold fX4_placeAt
  refine q_run tkX4_placeAt 0 1 (pc' := 1) (L' := [some (.inr (.inr a0)), some (.inl a1), none]) (st' := [.inl a1]) rfl ?_
  refine q_if_lt (tbm tkX4_placeAt (i := 1) rfl) ?_ ?_
  · refine q_le (L' := [none, none, none]) (lvLe_n (lvLe_n (lvLe_n lvLe_0))) ?_
    exact sX4_placeAt_13 X h
  · refine q_run tkX4_placeAt 2 2 (pc' := 6) (L' := [some (.inr (.inr a0)), some (.inl a1), none]) (st' := [.inr (.inr a0), .inl a1]) rfl ?_
    refine q_rdR RX4 TX4 13 (tbm tkX4_placeAt (i := 4) rfl) rfl (Nat.le_of_ble_eq_true rfl) wd_197 (fun r1 => ?_)
    refine q_alen (tbm tkX4_placeAt (i := 5) rfl) (fun x2 => ?_)
    refine q_icmp_lt (tbm tkX4_placeAt (i := 6) rfl) ?_ ?_
    · refine q_run tkX4_placeAt 9 1 (pc' := 16) (L' := [some (.inr (.inr a0)), some (.inl a1), none]) (st' := [.inr (.inr a0)]) rfl ?_
      refine q_rdR RX4 TX4 13 (tbm tkX4_placeAt (i := 10) rfl) rfl (Nat.le_of_ble_eq_true rfl) wd_197 (fun r3 => ?_)
      refine q_run tkX4_placeAt 11 1 (pc' := 20) (L' := [some (.inr (.inr a0)), some (.inl a1), none]) (st' := [.inl a1, .inr (.inr r3)]) rfl ?_
      refine q_aaload (tbm tkX4_placeAt (i := 12) rfl) (fun r4 => ?_)
      refine q_run tkX4_placeAt 13 2 (pc' := 23) (L' := [some (.inr (.inr a0)), some (.inl a1), some (.inr (.inr r4))]) (st' := [.inr (.inr r4)]) rfl ?_
      refine q_ifnull (tbm tkX4_placeAt (i := 15) rfl) ?_ ?_
      · refine q_le (L' := [none, none, none]) (lvLe_n (lvLe_n (lvLe_n lvLe_0))) ?_
        exact sX4_placeAt_33 X h
      · refine q_run tkX4_placeAt 16 1 (pc' := 27) (L' := [some (.inr (.inr a0)), some (.inl a1), some (.inr (.inr r4))]) (st' := [.inr (.inr r4)]) rfl ?_
        refine q_rdI RX2 TX2 14 (tbm tkX4_placeAt (i := 17) rfl) rfl (Nat.le_of_ble_eq_true rfl) wd_114 (fun x5 => ?_)
        refine q_if_ne (tbm tkX4_placeAt (i := 18) rfl) ?_ ?_
        · refine q_le (L' := [none, none, none]) (lvLe_n (lvLe_n (lvLe_n lvLe_0))) ?_
          exact sX4_placeAt_33 X h
        · refine q_run tkX4_placeAt 21 1 (pc' := 38) (L' := [some (.inr (.inr a0)), some (.inl a1), some (.inr (.inr r4))]) (st' := [.inr (.inr r4)]) rfl ?_
          refine q_le (L' := [none, none, none]) (lvLe_n (lvLe_n (lvLe_n lvLe_0))) ?_
          exact sX4_placeAt_38 X h r4
    · refine q_le (L' := [none, none, none]) (lvLe_n (lvLe_n (lvLe_n lvLe_0))) ?_
      exact sX4_placeAt_13 X h
theorem ceX4_placeAt : Ce mX4_placeAt 1 := ⟨wd_73, wd_722, by decide +kernel, by decide +kernel, by decide +kernel⟩
/-- ReceiptRolls$State.known -/
abbrev mX4_known : MI := (yX4_known, cX4_known, 4, some (.object "ReceiptRolls$Receipt"), 1)
def tbX4_known : List TE := [(0, .iconst 0, 1, 0, 0), (1, .istore_n 2, 1, 0, 0), (2, .iload_n 2, 1, 0, 0), (3, .aload_n 0, 1, 0, 0), (4, .invokevirtual 71, 3, 0, 0), (7, .if_icmp .ge 29, 3, 0, 36), (10, .aload_n 0, 1, 0, 0), (11, .iload_n 2, 1, 0, 0), (12, .invokevirtual 75, 3, 0, 0), (15, .astore_n 3, 1, 0, 0), (16, .aload_n 3, 1, 0, 0), (17, .ifnull 13, 3, 0, 30), (20, .aload_n 3, 1, 0, 0), (21, .getfield 68, 3, 0, 0), (24, .iload_n 1, 1, 0, 0), (25, .if_icmp .ne 5, 3, 0, 30), (28, .aload_n 3, 1, 0, 0), (29, .areturn, 1, 0, 0), (30, .iinc 2 1, 3, 1, 0), (33, .goto (-31), 3, 0, 2), (36, .aconst_null, 1, 0, 0), (37, .areturn, 1, 0, 0)]
theorem tkX4_known : ∀ x ∈ tbX4_known, tbB cX4_known x = true := tb_all (by decide +kernel)
def fX4_known_30 (c : Nat → Option Nat) (k2 : Hp → Option Nat → Int32 → Int32 → Rs) (h : Hp) (l0 : Option Nat) (l1 : Int32) (l2 : Int32) : Rs := k2 h l0 l1 (l2 + (1 : Int32))
set_option maxHeartbeats 4000000 in
set_option maxRecDepth 100000 in
theorem sX4_known_30 (X : Cx) {h0 : Hp} (k2 : Hp → Option Nat → Int32 → Int32 → Rs) (hk2 : ∀ (h : Hp) (l0 : Option Nat) (l1 : Int32) (l2 : Int32), Gd X mX4_known h0 (k2 h l0 l1 l2) h 2 [some (.inr (.inr l0)), some (.inl l1), some (.inl l2), none] []) (h : Hp) (l0 : Option Nat) (l1 : Int32) (l2 : Int32) : Gd X mX4_known h0 (fX4_known_30 X.2.2.2 k2 h l0 l1 l2) h 30 [some (.inr (.inr l0)), some (.inl l1), some (.inl l2), none] [] := by
  unfold fX4_known_30
  refine q_run tkX4_known 18 2 (pc' := 2) (L' := [some (.inr (.inr l0)), some (.inl l1), some (.inl (l2 + (1 : Int32))), none]) (st' := []) rfl ?_
  exact hk2 h l0 l1 (l2 + (1 : Int32))
def fX4_known_2 (c : Nat → Option Nat) : Nat → Hp → Option Nat → Int32 → Int32 → Rs
  | 0, _, _, _, _ => none
  | n + 1, h, l0, l1, l2 => ck h l0 6 (cc (fX4_places c h l0) (kI fun h1 x2 => if l2 < x2 then (ck h1 l0 6 (cc (fX4_placeAt c h1 l0 l2) (kR fun h3 r4 => ifN r4 (fX4_known_30 c (fX4_known_2 c n) h3 l0 l1 l2) (rdI h3 r4 4 0 (fun x5 => if x5 = l1 then (some (h3, some (.inr (.inr r4)))) else (fX4_known_30 c (fX4_known_2 c n) h3 l0 l1 l2)))))) else (some (h1, some (.inr (.inr none))))))
set_option maxHeartbeats 4000000 in
set_option maxRecDepth 100000 in
theorem sX4_known_2 (X : Cx) {h0 : Hp} : ∀ (n : Nat) (h : Hp) (l0 : Option Nat) (l1 : Int32) (l2 : Int32), Gd X mX4_known h0 (fX4_known_2 X.2.2.2 n h l0 l1 l2) h 2 [some (.inr (.inr l0)), some (.inl l1), some (.inl l2), none] [] := by
  intro n
  induction n with
  | zero => intros; exact gd_none
  | succ n ih =>
    intro h l0 l1 l2
    unfold fX4_known_2
    refine q_run tkX4_known 2 2 (pc' := 4) (L' := [some (.inr (.inr l0)), some (.inl l1), some (.inl l2), none]) (st' := [.inr (.inr l0), .inl l2]) rfl ?_
    refine q_cv (r := l0) (ci := 6) (n := 0) (as := []) (st := [.inl l2]) TX4 13 (soX4_places X h l0) (tbm tkX4_known (i := 4) rfl) rfl rfl ceX4_places wd_716 wd_717 wd_715 rfl (Nat.le_of_ble_eq_true rfl) (kI_gd (fun h1 x2 => ?_))
    refine q_icmp_ge (tbm tkX4_known (i := 5) rfl) ?_ ?_
    · refine q_run tkX4_known 6 2 (pc' := 12) (L' := [some (.inr (.inr l0)), some (.inl l1), some (.inl l2), none]) (st' := [.inl l2, .inr (.inr l0)]) rfl ?_
      refine q_cv (r := l0) (ci := 6) (n := 1) (as := [.inl l2]) (st := []) TX4 13 (soX4_placeAt X h1 l0 l2) (tbm tkX4_known (i := 8) rfl) rfl rfl ceX4_placeAt wd_720 wd_721 wd_719 rfl (Nat.le_of_ble_eq_true rfl) (kR_gd (fun h3 r4 => ?_))
      refine q_run tkX4_known 9 2 (pc' := 17) (L' := [some (.inr (.inr l0)), some (.inl l1), some (.inl l2), some (.inr (.inr r4))]) (st' := [.inr (.inr r4)]) rfl ?_
      refine q_ifnull (tbm tkX4_known (i := 11) rfl) ?_ ?_
      · refine q_le (L' := [some (.inr (.inr l0)), some (.inl l1), some (.inl l2), none]) (lvLe_s (lvLe_s (lvLe_s (lvLe_n lvLe_0)))) ?_
        exact sX4_known_30 X (fX4_known_2 X.2.2.2 n) ih h3 l0 l1 l2
      · refine q_run tkX4_known 12 1 (pc' := 21) (L' := [some (.inr (.inr l0)), some (.inl l1), some (.inl l2), some (.inr (.inr r4))]) (st' := [.inr (.inr r4)]) rfl ?_
        refine q_rdI RX2 TX2 14 (tbm tkX4_known (i := 13) rfl) rfl (Nat.le_of_ble_eq_true rfl) wd_114 (fun x5 => ?_)
        refine q_run tkX4_known 14 1 (pc' := 25) (L' := [some (.inr (.inr l0)), some (.inl l1), some (.inl l2), some (.inr (.inr r4))]) (st' := [.inl l1, .inl x5]) rfl ?_
        refine q_icmp_ne (tbm tkX4_known (i := 15) rfl) ?_ ?_
        · refine q_run tkX4_known 16 1 (pc' := 29) (L' := [some (.inr (.inr l0)), some (.inl l1), some (.inl l2), some (.inr (.inr r4))]) (st' := [.inr (.inr r4)]) rfl ?_
          exact q_aret (tbm tkX4_known (i := 17) rfl) rfl (Or.inl ⟨_, rfl⟩)
        · refine q_le (L' := [some (.inr (.inr l0)), some (.inl l1), some (.inl l2), none]) (lvLe_s (lvLe_s (lvLe_s (lvLe_n lvLe_0)))) ?_
          exact sX4_known_30 X (fX4_known_2 X.2.2.2 n) ih h3 l0 l1 l2
    · refine q_run tkX4_known 20 1 (pc' := 37) (L' := [some (.inr (.inr l0)), some (.inl l1), some (.inl l2), none]) (st' := [.inr (.inr none)]) rfl ?_
      exact q_aret (tbm tkX4_known (i := 21) rfl) rfl (Or.inl ⟨_, rfl⟩)
def fX4_known (c : Nat → Option Nat) (h : Hp) (a0 : Option Nat) (a1 : Int32) : Rs := fX4_known_2 c FU h a0 a1 (0 : Int32)
set_option maxHeartbeats 4000000 in
set_option maxRecDepth 100000 in
theorem soX4_known (X : Cx) (h : Hp) (a0 : Option Nat) (a1 : Int32) : SO X mX4_known [.inr (.inr a0), .inl a1] h (fX4_known X.2.2.2 h a0 a1) := by
  refine so_of (by decide +kernel) (Nat.le_of_ble_eq_true rfl) ?_
  show Gd X mX4_known h (fX4_known X.2.2.2 h a0 a1) h 0 [some (.inr (.inr a0)), some (.inl a1), none, none] []
  unfold fX4_known
  refine q_run tkX4_known 0 2 (pc' := 2) (L' := [some (.inr (.inr a0)), some (.inl a1), some (.inl (0 : Int32)), none]) (st' := []) rfl ?_
  exact sX4_known_2 X FU h a0 a1 (0 : Int32)
theorem ceX4_known : Ce mX4_known 1 := ⟨wd_73, wd_714, by decide +kernel, by decide +kernel, by decide +kernel⟩
/-- ReceiptRolls$Receipt.isAheadOf -/
abbrev mX2_isAheadOf : MI := (yX2_isAheadOf, cX2_isAheadOf, 2, some .boolean, 0)
def tbX2_isAheadOf : List TE := [(0, .aload_n 0, 1, 0, 0), (1, .getfield 31, 3, 0, 0), (4, .aload_n 1, 1, 0, 0), (5, .getfield 31, 3, 0, 0), (8, .if_icmp .eq 17, 3, 0, 25), (11, .aload_n 0, 1, 0, 0), (12, .getfield 31, 3, 0, 0), (15, .iconst 1, 1, 1, 0), (16, .if_icmp .ne 7, 3, 0, 23), (19, .iconst 1, 1, 1, 0), (20, .goto 4, 3, 0, 24), (23, .iconst 0, 1, 0, 0), (24, .ireturn, 1, 0, 0), (25, .aload_n 0, 1, 0, 0), (26, .getfield 28, 3, 0, 0), (29, .aload_n 1, 1, 0, 0), (30, .getfield 28, 3, 0, 0), (33, .if_icmp .eq 22, 3, 0, 55), (36, .aload_n 0, 1, 0, 0), (37, .getfield 28, 3, 0, 0), (40, .aload_n 1, 1, 0, 0), (41, .getfield 28, 3, 0, 0), (44, .if_icmp .le 7, 3, 0, 51), (47, .iconst 1, 1, 1, 0), (48, .goto 23, 3, 0, 71), (51, .iconst 0, 1, 0, 0), (52, .goto 19, 3, 0, 71), (55, .aload_n 0, 1, 0, 0), (56, .getfield 21, 3, 0, 0), (59, .aload_n 1, 1, 0, 0), (60, .getfield 21, 3, 0, 0), (63, .if_icmp .ge 7, 3, 0, 70), (66, .iconst 1, 1, 1, 0), (67, .goto 4, 3, 0, 71), (70, .iconst 0, 1, 0, 0), (71, .ireturn, 1, 0, 0)]
theorem tkX2_isAheadOf : ∀ x ∈ tbX2_isAheadOf, tbB cX2_isAheadOf x = true := tb_all (by decide +kernel)
def fX2_isAheadOf_24 (c : Nat → Option Nat) (h : Hp) (s0 : Int32) : Rs := rtI .boolean h s0
set_option maxHeartbeats 4000000 in
set_option maxRecDepth 100000 in
theorem sX2_isAheadOf_24 (X : Cx) {h0 : Hp} (h : Hp) (s0 : Int32) : Gd X mX2_isAheadOf h0 (fX2_isAheadOf_24 X.2.2.2 h s0) h 24 [none, none] [.inl s0] := by
  unfold fX2_isAheadOf_24
  exact q_zret (tbm tkX2_isAheadOf (i := 12) rfl) rfl
def fX2_isAheadOf_71 (c : Nat → Option Nat) (h : Hp) (s0 : Int32) : Rs := rtI .boolean h s0
set_option maxHeartbeats 4000000 in
set_option maxRecDepth 100000 in
theorem sX2_isAheadOf_71 (X : Cx) {h0 : Hp} (h : Hp) (s0 : Int32) : Gd X mX2_isAheadOf h0 (fX2_isAheadOf_71 X.2.2.2 h s0) h 71 [none, none] [.inl s0] := by
  unfold fX2_isAheadOf_71
  exact q_zret (tbm tkX2_isAheadOf (i := 35) rfl) rfl
def fX2_isAheadOf (c : Nat → Option Nat) (h : Hp) (a0 : Option Nat) (a1 : Option Nat) : Rs := rdI h a0 4 3 (fun x1 => rdI h a1 4 3 (fun x2 => if x1 = x2 then (rdI h a0 4 2 (fun x3 => rdI h a1 4 2 (fun x4 => if x3 = x4 then (rdI h a0 4 0 (fun x5 => rdI h a1 4 0 (fun x6 => if x5 < x6 then (fX2_isAheadOf_71 c h (1 : Int32)) else (fX2_isAheadOf_71 c h (0 : Int32))))) else (rdI h a0 4 2 (fun x7 => rdI h a1 4 2 (fun x8 => if x8 < x7 then (fX2_isAheadOf_71 c h (1 : Int32)) else (fX2_isAheadOf_71 c h (0 : Int32)))))))) else (rdI h a0 4 3 (fun x9 => if x9 = (1 : Int32) then (fX2_isAheadOf_24 c h (1 : Int32)) else (fX2_isAheadOf_24 c h (0 : Int32))))))
set_option maxHeartbeats 4000000 in
set_option maxRecDepth 100000 in
theorem soX2_isAheadOf (X : Cx) (h : Hp) (a0 : Option Nat) (a1 : Option Nat) : SO X mX2_isAheadOf [.inr (.inr a0), .inr (.inr a1)] h (fX2_isAheadOf X.2.2.2 h a0 a1) := by
  refine so_of (by decide +kernel) (Nat.le_of_ble_eq_true rfl) ?_
  show Gd X mX2_isAheadOf h (fX2_isAheadOf X.2.2.2 h a0 a1) h 0 [some (.inr (.inr a0)), some (.inr (.inr a1))] []
  unfold fX2_isAheadOf
  refine q_run tkX2_isAheadOf 0 1 (pc' := 1) (L' := [some (.inr (.inr a0)), some (.inr (.inr a1))]) (st' := [.inr (.inr a0)]) rfl ?_
  refine q_rdI RX2 TX2 14 (tbm tkX2_isAheadOf (i := 1) rfl) rfl (Nat.le_of_ble_eq_true rfl) wd_120 (fun x1 => ?_)
  refine q_run tkX2_isAheadOf 2 1 (pc' := 5) (L' := [some (.inr (.inr a0)), some (.inr (.inr a1))]) (st' := [.inr (.inr a1), .inl x1]) rfl ?_
  refine q_rdI RX2 TX2 14 (tbm tkX2_isAheadOf (i := 3) rfl) rfl (Nat.le_of_ble_eq_true rfl) wd_120 (fun x2 => ?_)
  refine q_icmp_eq (tbm tkX2_isAheadOf (i := 4) rfl) ?_ ?_
  · refine q_run tkX2_isAheadOf 13 1 (pc' := 26) (L' := [some (.inr (.inr a0)), some (.inr (.inr a1))]) (st' := [.inr (.inr a0)]) rfl ?_
    refine q_rdI RX2 TX2 14 (tbm tkX2_isAheadOf (i := 14) rfl) rfl (Nat.le_of_ble_eq_true rfl) wd_118 (fun x3 => ?_)
    refine q_run tkX2_isAheadOf 15 1 (pc' := 30) (L' := [some (.inr (.inr a0)), some (.inr (.inr a1))]) (st' := [.inr (.inr a1), .inl x3]) rfl ?_
    refine q_rdI RX2 TX2 14 (tbm tkX2_isAheadOf (i := 16) rfl) rfl (Nat.le_of_ble_eq_true rfl) wd_118 (fun x4 => ?_)
    refine q_icmp_eq (tbm tkX2_isAheadOf (i := 17) rfl) ?_ ?_
    · refine q_run tkX2_isAheadOf 27 1 (pc' := 56) (L' := [some (.inr (.inr a0)), some (.inr (.inr a1))]) (st' := [.inr (.inr a0)]) rfl ?_
      refine q_rdI RX2 TX2 14 (tbm tkX2_isAheadOf (i := 28) rfl) rfl (Nat.le_of_ble_eq_true rfl) wd_113 (fun x5 => ?_)
      refine q_run tkX2_isAheadOf 29 1 (pc' := 60) (L' := [some (.inr (.inr a0)), some (.inr (.inr a1))]) (st' := [.inr (.inr a1), .inl x5]) rfl ?_
      refine q_rdI RX2 TX2 14 (tbm tkX2_isAheadOf (i := 30) rfl) rfl (Nat.le_of_ble_eq_true rfl) wd_113 (fun x6 => ?_)
      refine q_icmp_ge (tbm tkX2_isAheadOf (i := 31) rfl) ?_ ?_
      · refine q_run tkX2_isAheadOf 32 2 (pc' := 71) (L' := [some (.inr (.inr a0)), some (.inr (.inr a1))]) (st' := [.inl (1 : Int32)]) rfl ?_
        refine q_le (L' := [none, none]) (lvLe_n (lvLe_n lvLe_0)) ?_
        exact sX2_isAheadOf_71 X h (1 : Int32)
      · refine q_run tkX2_isAheadOf 34 1 (pc' := 71) (L' := [some (.inr (.inr a0)), some (.inr (.inr a1))]) (st' := [.inl (0 : Int32)]) rfl ?_
        refine q_le (L' := [none, none]) (lvLe_n (lvLe_n lvLe_0)) ?_
        exact sX2_isAheadOf_71 X h (0 : Int32)
    · refine q_run tkX2_isAheadOf 18 1 (pc' := 37) (L' := [some (.inr (.inr a0)), some (.inr (.inr a1))]) (st' := [.inr (.inr a0)]) rfl ?_
      refine q_rdI RX2 TX2 14 (tbm tkX2_isAheadOf (i := 19) rfl) rfl (Nat.le_of_ble_eq_true rfl) wd_118 (fun x7 => ?_)
      refine q_run tkX2_isAheadOf 20 1 (pc' := 41) (L' := [some (.inr (.inr a0)), some (.inr (.inr a1))]) (st' := [.inr (.inr a1), .inl x7]) rfl ?_
      refine q_rdI RX2 TX2 14 (tbm tkX2_isAheadOf (i := 21) rfl) rfl (Nat.le_of_ble_eq_true rfl) wd_118 (fun x8 => ?_)
      refine q_icmp_le (tbm tkX2_isAheadOf (i := 22) rfl) ?_ ?_
      · refine q_run tkX2_isAheadOf 23 2 (pc' := 71) (L' := [some (.inr (.inr a0)), some (.inr (.inr a1))]) (st' := [.inl (1 : Int32)]) rfl ?_
        refine q_le (L' := [none, none]) (lvLe_n (lvLe_n lvLe_0)) ?_
        exact sX2_isAheadOf_71 X h (1 : Int32)
      · refine q_run tkX2_isAheadOf 25 2 (pc' := 71) (L' := [some (.inr (.inr a0)), some (.inr (.inr a1))]) (st' := [.inl (0 : Int32)]) rfl ?_
        refine q_le (L' := [none, none]) (lvLe_n (lvLe_n lvLe_0)) ?_
        exact sX2_isAheadOf_71 X h (0 : Int32)
  · refine q_run tkX2_isAheadOf 5 1 (pc' := 12) (L' := [some (.inr (.inr a0)), some (.inr (.inr a1))]) (st' := [.inr (.inr a0)]) rfl ?_
    refine q_rdI RX2 TX2 14 (tbm tkX2_isAheadOf (i := 6) rfl) rfl (Nat.le_of_ble_eq_true rfl) wd_120 (fun x9 => ?_)
    refine q_run tkX2_isAheadOf 7 1 (pc' := 16) (L' := [some (.inr (.inr a0)), some (.inr (.inr a1))]) (st' := [.inl (1 : Int32), .inl x9]) rfl ?_
    refine q_icmp_ne (tbm tkX2_isAheadOf (i := 8) rfl) ?_ ?_
    · refine q_run tkX2_isAheadOf 9 2 (pc' := 24) (L' := [some (.inr (.inr a0)), some (.inr (.inr a1))]) (st' := [.inl (1 : Int32)]) rfl ?_
      refine q_le (L' := [none, none]) (lvLe_n (lvLe_n lvLe_0)) ?_
      exact sX2_isAheadOf_24 X h (1 : Int32)
    · refine q_run tkX2_isAheadOf 11 1 (pc' := 24) (L' := [some (.inr (.inr a0)), some (.inr (.inr a1))]) (st' := [.inl (0 : Int32)]) rfl ?_
      refine q_le (L' := [none, none]) (lvLe_n (lvLe_n lvLe_0)) ?_
      exact sX2_isAheadOf_24 X h (0 : Int32)
theorem ceX2_isAheadOf : Ce mX2_isAheadOf 1 := ⟨wd_74, wd_759, by decide +kernel, by decide +kernel, by decide +kernel⟩
/-- ReceiptRolls$State.waitingAheadOf -/
abbrev mX4_waitingAheadOf : MI := (yX4_waitingAheadOf, cX4_waitingAheadOf, 5, some .int, 1)
def tbX4_waitingAheadOf : List TE := [(0, .iconst 0, 1, 0, 0), (1, .istore_n 2, 1, 0, 0), (2, .iconst 0, 1, 0, 0), (3, .istore_n 3, 1, 0, 0), (4, .iload_n 3, 1, 0, 0), (5, .aload_n 0, 1, 0, 0), (6, .invokevirtual 71, 3, 0, 0), (9, .if_icmp .ge 41, 3, 0, 50), (12, .aload_n 0, 1, 0, 0), (13, .iload_n 3, 1, 0, 0), (14, .invokevirtual 75, 3, 0, 0), (17, .astore 4, 2, 0, 0), (19, .aload 4, 2, 0, 0), (21, .ifnull 23, 3, 0, 44), (24, .aload 4, 2, 0, 0), (26, .getfield 79, 3, 0, 0), (29, .ifCond .ne 15, 3, 0, 44), (32, .aload 4, 2, 0, 0), (34, .aload_n 1, 1, 0, 0), (35, .invokevirtual 86, 3, 0, 0), (38, .ifCond .eq 6, 3, 0, 44), (41, .iinc 2 1, 3, 1, 0), (44, .iinc 3 1, 3, 1, 0), (47, .goto (-43), 3, 0, 4), (50, .iload_n 2, 1, 0, 0), (51, .ireturn, 1, 0, 0)]
theorem tkX4_waitingAheadOf : ∀ x ∈ tbX4_waitingAheadOf, tbB cX4_waitingAheadOf x = true := tb_all (by decide +kernel)
def fX4_waitingAheadOf_44 (c : Nat → Option Nat) (k4 : Hp → Option Nat → Option Nat → Int32 → Int32 → Rs) (h : Hp) (l0 : Option Nat) (l1 : Option Nat) (l2 : Int32) (l3 : Int32) : Rs := k4 h l0 l1 l2 (l3 + (1 : Int32))
set_option maxHeartbeats 4000000 in
set_option maxRecDepth 100000 in
theorem sX4_waitingAheadOf_44 (X : Cx) {h0 : Hp} (k4 : Hp → Option Nat → Option Nat → Int32 → Int32 → Rs) (hk4 : ∀ (h : Hp) (l0 : Option Nat) (l1 : Option Nat) (l2 : Int32) (l3 : Int32), Gd X mX4_waitingAheadOf h0 (k4 h l0 l1 l2 l3) h 4 [some (.inr (.inr l0)), some (.inr (.inr l1)), some (.inl l2), some (.inl l3), none] []) (h : Hp) (l0 : Option Nat) (l1 : Option Nat) (l2 : Int32) (l3 : Int32) : Gd X mX4_waitingAheadOf h0 (fX4_waitingAheadOf_44 X.2.2.2 k4 h l0 l1 l2 l3) h 44 [some (.inr (.inr l0)), some (.inr (.inr l1)), some (.inl l2), some (.inl l3), none] [] := by
  unfold fX4_waitingAheadOf_44
  refine q_run tkX4_waitingAheadOf 22 2 (pc' := 4) (L' := [some (.inr (.inr l0)), some (.inr (.inr l1)), some (.inl l2), some (.inl (l3 + (1 : Int32))), none]) (st' := []) rfl ?_
  exact hk4 h l0 l1 l2 (l3 + (1 : Int32))
def fX4_waitingAheadOf_4 (c : Nat → Option Nat) : Nat → Hp → Option Nat → Option Nat → Int32 → Int32 → Rs
  | 0, _, _, _, _, _ => none
  | n + 1, h, l0, l1, l2, l3 => ck h l0 6 (cc (fX4_places c h l0) (kI fun h1 x2 => if l3 < x2 then (ck h1 l0 6 (cc (fX4_placeAt c h1 l0 l3) (kR fun h3 r4 => ifN r4 (fX4_waitingAheadOf_44 c (fX4_waitingAheadOf_4 c n) h3 l0 l1 l2 l3) (rdI h3 r4 4 3 (fun x5 => if x5 = 0 then (ck h3 r4 4 (cc (fX2_isAheadOf c h3 r4 l1) (kI fun h6 x7 => if x7 = 0 then (fX4_waitingAheadOf_44 c (fX4_waitingAheadOf_4 c n) h6 l0 l1 l2 l3) else (fX4_waitingAheadOf_44 c (fX4_waitingAheadOf_4 c n) h6 l0 l1 (l2 + (1 : Int32)) l3)))) else (fX4_waitingAheadOf_44 c (fX4_waitingAheadOf_4 c n) h3 l0 l1 l2 l3)))))) else (some (h1, some (.inl l2)))))
set_option maxHeartbeats 4000000 in
set_option maxRecDepth 100000 in
theorem sX4_waitingAheadOf_4 (X : Cx) {h0 : Hp} : ∀ (n : Nat) (h : Hp) (l0 : Option Nat) (l1 : Option Nat) (l2 : Int32) (l3 : Int32), Gd X mX4_waitingAheadOf h0 (fX4_waitingAheadOf_4 X.2.2.2 n h l0 l1 l2 l3) h 4 [some (.inr (.inr l0)), some (.inr (.inr l1)), some (.inl l2), some (.inl l3), none] [] := by
  intro n
  induction n with
  | zero => intros; exact gd_none
  | succ n ih =>
    intro h l0 l1 l2 l3
    unfold fX4_waitingAheadOf_4
    refine q_run tkX4_waitingAheadOf 4 2 (pc' := 6) (L' := [some (.inr (.inr l0)), some (.inr (.inr l1)), some (.inl l2), some (.inl l3), none]) (st' := [.inr (.inr l0), .inl l3]) rfl ?_
    refine q_cv (r := l0) (ci := 6) (n := 0) (as := []) (st := [.inl l3]) TX4 13 (soX4_places X h l0) (tbm tkX4_waitingAheadOf (i := 6) rfl) rfl rfl ceX4_places wd_716 wd_717 wd_715 rfl (Nat.le_of_ble_eq_true rfl) (kI_gd (fun h1 x2 => ?_))
    refine q_icmp_ge (tbm tkX4_waitingAheadOf (i := 7) rfl) ?_ ?_
    · refine q_run tkX4_waitingAheadOf 8 2 (pc' := 14) (L' := [some (.inr (.inr l0)), some (.inr (.inr l1)), some (.inl l2), some (.inl l3), none]) (st' := [.inl l3, .inr (.inr l0)]) rfl ?_
      refine q_cv (r := l0) (ci := 6) (n := 1) (as := [.inl l3]) (st := []) TX4 13 (soX4_placeAt X h1 l0 l3) (tbm tkX4_waitingAheadOf (i := 10) rfl) rfl rfl ceX4_placeAt wd_720 wd_721 wd_719 rfl (Nat.le_of_ble_eq_true rfl) (kR_gd (fun h3 r4 => ?_))
      refine q_run tkX4_waitingAheadOf 11 2 (pc' := 21) (L' := [some (.inr (.inr l0)), some (.inr (.inr l1)), some (.inl l2), some (.inl l3), some (.inr (.inr r4))]) (st' := [.inr (.inr r4)]) rfl ?_
      refine q_ifnull (tbm tkX4_waitingAheadOf (i := 13) rfl) ?_ ?_
      · refine q_le (L' := [some (.inr (.inr l0)), some (.inr (.inr l1)), some (.inl l2), some (.inl l3), none]) (lvLe_s (lvLe_s (lvLe_s (lvLe_s (lvLe_n lvLe_0))))) ?_
        exact sX4_waitingAheadOf_44 X (fX4_waitingAheadOf_4 X.2.2.2 n) ih h3 l0 l1 l2 l3
      · refine q_run tkX4_waitingAheadOf 14 1 (pc' := 26) (L' := [some (.inr (.inr l0)), some (.inr (.inr l1)), some (.inl l2), some (.inl l3), some (.inr (.inr r4))]) (st' := [.inr (.inr r4)]) rfl ?_
        refine q_rdI RX2 TX2 14 (tbm tkX4_waitingAheadOf (i := 15) rfl) rfl (Nat.le_of_ble_eq_true rfl) wd_122 (fun x5 => ?_)
        refine q_if_ne (tbm tkX4_waitingAheadOf (i := 16) rfl) ?_ ?_
        · refine q_run tkX4_waitingAheadOf 17 2 (pc' := 35) (L' := [some (.inr (.inr l0)), some (.inr (.inr l1)), some (.inl l2), some (.inl l3), some (.inr (.inr r4))]) (st' := [.inr (.inr l1), .inr (.inr r4)]) rfl ?_
          refine q_cv (r := r4) (ci := 4) (n := 1) (as := [.inr (.inr l1)]) (st := []) TX2 14 (soX2_isAheadOf X h3 r4 l1) (tbm tkX4_waitingAheadOf (i := 19) rfl) rfl rfl ceX2_isAheadOf wd_757 wd_758 wd_756 rfl (Nat.le_of_ble_eq_true rfl) (kI_gd (fun h6 x7 => ?_))
          refine q_if_eq (tbm tkX4_waitingAheadOf (i := 20) rfl) ?_ ?_
          · refine q_le (L' := [some (.inr (.inr l0)), some (.inr (.inr l1)), some (.inl l2), some (.inl l3), none]) (lvLe_s (lvLe_s (lvLe_s (lvLe_s (lvLe_n lvLe_0))))) ?_
            exact sX4_waitingAheadOf_44 X (fX4_waitingAheadOf_4 X.2.2.2 n) ih h6 l0 l1 l2 l3
          · refine q_run tkX4_waitingAheadOf 21 1 (pc' := 44) (L' := [some (.inr (.inr l0)), some (.inr (.inr l1)), some (.inl (l2 + (1 : Int32))), some (.inl l3), some (.inr (.inr r4))]) (st' := []) rfl ?_
            refine q_le (L' := [some (.inr (.inr l0)), some (.inr (.inr l1)), some (.inl (l2 + (1 : Int32))), some (.inl l3), none]) (lvLe_s (lvLe_s (lvLe_s (lvLe_s (lvLe_n lvLe_0))))) ?_
            exact sX4_waitingAheadOf_44 X (fX4_waitingAheadOf_4 X.2.2.2 n) ih h6 l0 l1 (l2 + (1 : Int32)) l3
        · refine q_le (L' := [some (.inr (.inr l0)), some (.inr (.inr l1)), some (.inl l2), some (.inl l3), none]) (lvLe_s (lvLe_s (lvLe_s (lvLe_s (lvLe_n lvLe_0))))) ?_
          exact sX4_waitingAheadOf_44 X (fX4_waitingAheadOf_4 X.2.2.2 n) ih h3 l0 l1 l2 l3
    · refine q_run tkX4_waitingAheadOf 24 1 (pc' := 51) (L' := [some (.inr (.inr l0)), some (.inr (.inr l1)), some (.inl l2), some (.inl l3), none]) (st' := [.inl l2]) rfl ?_
      exact q_iret (tbm tkX4_waitingAheadOf (i := 25) rfl) rfl
def fX4_waitingAheadOf (c : Nat → Option Nat) (h : Hp) (a0 : Option Nat) (a1 : Option Nat) : Rs := fX4_waitingAheadOf_4 c FU h a0 a1 (0 : Int32) (0 : Int32)
set_option maxHeartbeats 4000000 in
set_option maxRecDepth 100000 in
theorem soX4_waitingAheadOf (X : Cx) (h : Hp) (a0 : Option Nat) (a1 : Option Nat) : SO X mX4_waitingAheadOf [.inr (.inr a0), .inr (.inr a1)] h (fX4_waitingAheadOf X.2.2.2 h a0 a1) := by
  refine so_of (by decide +kernel) (Nat.le_of_ble_eq_true rfl) ?_
  show Gd X mX4_waitingAheadOf h (fX4_waitingAheadOf X.2.2.2 h a0 a1) h 0 [some (.inr (.inr a0)), some (.inr (.inr a1)), none, none, none] []
  unfold fX4_waitingAheadOf
  refine q_run tkX4_waitingAheadOf 0 4 (pc' := 4) (L' := [some (.inr (.inr a0)), some (.inr (.inr a1)), some (.inl (0 : Int32)), some (.inl (0 : Int32)), none]) (st' := []) rfl ?_
  exact sX4_waitingAheadOf_4 X FU h a0 a1 (0 : Int32) (0 : Int32)
theorem ceX4_waitingAheadOf : Ce mX4_waitingAheadOf 1 := ⟨wd_73, wd_755, by decide +kernel, by decide +kernel, by decide +kernel⟩
/-- ReceiptRolls$State.waitingAt -/
abbrev mX4_waitingAt : MI := (yX4_waitingAt, cX4_waitingAt, 4, some (.object "ReceiptRolls$Receipt"), 2)
def tbX4_waitingAt : List TE := [(0, .iconst 0, 1, 0, 0), (1, .istore_n 2, 1, 0, 0), (2, .iload_n 2, 1, 0, 0), (3, .aload_n 0, 1, 0, 0), (4, .invokevirtual 71, 3, 0, 0), (7, .if_icmp .ge 37, 3, 0, 44), (10, .aload_n 0, 1, 0, 0), (11, .iload_n 2, 1, 0, 0), (12, .invokevirtual 75, 3, 0, 0), (15, .astore_n 3, 1, 0, 0), (16, .aload_n 3, 1, 0, 0), (17, .ifnull 21, 3, 0, 38), (20, .aload_n 3, 1, 0, 0), (21, .getfield 79, 3, 0, 0), (24, .ifCond .ne 14, 3, 0, 38), (27, .aload_n 0, 1, 0, 0), (28, .aload_n 3, 1, 0, 0), (29, .invokevirtual 82, 3, 0, 0), (32, .iload_n 1, 1, 0, 0), (33, .if_icmp .ne 5, 3, 0, 38), (36, .aload_n 3, 1, 0, 0), (37, .areturn, 1, 0, 0), (38, .iinc 2 1, 3, 1, 0), (41, .goto (-39), 3, 0, 2), (44, .aconst_null, 1, 0, 0), (45, .areturn, 1, 0, 0)]
theorem tkX4_waitingAt : ∀ x ∈ tbX4_waitingAt, tbB cX4_waitingAt x = true := tb_all (by decide +kernel)
def fX4_waitingAt_38 (c : Nat → Option Nat) (k2 : Hp → Option Nat → Int32 → Int32 → Rs) (h : Hp) (l0 : Option Nat) (l1 : Int32) (l2 : Int32) : Rs := k2 h l0 l1 (l2 + (1 : Int32))
set_option maxHeartbeats 4000000 in
set_option maxRecDepth 100000 in
theorem sX4_waitingAt_38 (X : Cx) {h0 : Hp} (k2 : Hp → Option Nat → Int32 → Int32 → Rs) (hk2 : ∀ (h : Hp) (l0 : Option Nat) (l1 : Int32) (l2 : Int32), Gd X mX4_waitingAt h0 (k2 h l0 l1 l2) h 2 [some (.inr (.inr l0)), some (.inl l1), some (.inl l2), none] []) (h : Hp) (l0 : Option Nat) (l1 : Int32) (l2 : Int32) : Gd X mX4_waitingAt h0 (fX4_waitingAt_38 X.2.2.2 k2 h l0 l1 l2) h 38 [some (.inr (.inr l0)), some (.inl l1), some (.inl l2), none] [] := by
  unfold fX4_waitingAt_38
  refine q_run tkX4_waitingAt 22 2 (pc' := 2) (L' := [some (.inr (.inr l0)), some (.inl l1), some (.inl (l2 + (1 : Int32))), none]) (st' := []) rfl ?_
  exact hk2 h l0 l1 (l2 + (1 : Int32))
def fX4_waitingAt_2 (c : Nat → Option Nat) : Nat → Hp → Option Nat → Int32 → Int32 → Rs
  | 0, _, _, _, _ => none
  | n + 1, h, l0, l1, l2 => ck h l0 6 (cc (fX4_places c h l0) (kI fun h1 x2 => if l2 < x2 then (ck h1 l0 6 (cc (fX4_placeAt c h1 l0 l2) (kR fun h3 r4 => ifN r4 (fX4_waitingAt_38 c (fX4_waitingAt_2 c n) h3 l0 l1 l2) (rdI h3 r4 4 3 (fun x5 => if x5 = 0 then (ck h3 l0 6 (cc (fX4_waitingAheadOf c h3 l0 r4) (kI fun h6 x7 => if x7 = l1 then (some (h6, some (.inr (.inr r4)))) else (fX4_waitingAt_38 c (fX4_waitingAt_2 c n) h6 l0 l1 l2)))) else (fX4_waitingAt_38 c (fX4_waitingAt_2 c n) h3 l0 l1 l2)))))) else (some (h1, some (.inr (.inr none))))))
set_option maxHeartbeats 4000000 in
set_option maxRecDepth 100000 in
theorem sX4_waitingAt_2 (X : Cx) {h0 : Hp} : ∀ (n : Nat) (h : Hp) (l0 : Option Nat) (l1 : Int32) (l2 : Int32), Gd X mX4_waitingAt h0 (fX4_waitingAt_2 X.2.2.2 n h l0 l1 l2) h 2 [some (.inr (.inr l0)), some (.inl l1), some (.inl l2), none] [] := by
  intro n
  induction n with
  | zero => intros; exact gd_none
  | succ n ih =>
    intro h l0 l1 l2
    unfold fX4_waitingAt_2
    refine q_run tkX4_waitingAt 2 2 (pc' := 4) (L' := [some (.inr (.inr l0)), some (.inl l1), some (.inl l2), none]) (st' := [.inr (.inr l0), .inl l2]) rfl ?_
    refine q_cv (r := l0) (ci := 6) (n := 0) (as := []) (st := [.inl l2]) TX4 13 (soX4_places X h l0) (tbm tkX4_waitingAt (i := 4) rfl) rfl rfl ceX4_places wd_716 wd_717 wd_715 rfl (Nat.le_of_ble_eq_true rfl) (kI_gd (fun h1 x2 => ?_))
    refine q_icmp_ge (tbm tkX4_waitingAt (i := 5) rfl) ?_ ?_
    · refine q_run tkX4_waitingAt 6 2 (pc' := 12) (L' := [some (.inr (.inr l0)), some (.inl l1), some (.inl l2), none]) (st' := [.inl l2, .inr (.inr l0)]) rfl ?_
      refine q_cv (r := l0) (ci := 6) (n := 1) (as := [.inl l2]) (st := []) TX4 13 (soX4_placeAt X h1 l0 l2) (tbm tkX4_waitingAt (i := 8) rfl) rfl rfl ceX4_placeAt wd_720 wd_721 wd_719 rfl (Nat.le_of_ble_eq_true rfl) (kR_gd (fun h3 r4 => ?_))
      refine q_run tkX4_waitingAt 9 2 (pc' := 17) (L' := [some (.inr (.inr l0)), some (.inl l1), some (.inl l2), some (.inr (.inr r4))]) (st' := [.inr (.inr r4)]) rfl ?_
      refine q_ifnull (tbm tkX4_waitingAt (i := 11) rfl) ?_ ?_
      · refine q_le (L' := [some (.inr (.inr l0)), some (.inl l1), some (.inl l2), none]) (lvLe_s (lvLe_s (lvLe_s (lvLe_n lvLe_0)))) ?_
        exact sX4_waitingAt_38 X (fX4_waitingAt_2 X.2.2.2 n) ih h3 l0 l1 l2
      · refine q_run tkX4_waitingAt 12 1 (pc' := 21) (L' := [some (.inr (.inr l0)), some (.inl l1), some (.inl l2), some (.inr (.inr r4))]) (st' := [.inr (.inr r4)]) rfl ?_
        refine q_rdI RX2 TX2 14 (tbm tkX4_waitingAt (i := 13) rfl) rfl (Nat.le_of_ble_eq_true rfl) wd_122 (fun x5 => ?_)
        refine q_if_ne (tbm tkX4_waitingAt (i := 14) rfl) ?_ ?_
        · refine q_run tkX4_waitingAt 15 2 (pc' := 29) (L' := [some (.inr (.inr l0)), some (.inl l1), some (.inl l2), some (.inr (.inr r4))]) (st' := [.inr (.inr r4), .inr (.inr l0)]) rfl ?_
          refine q_cv (r := l0) (ci := 6) (n := 1) (as := [.inr (.inr r4)]) (st := []) TX4 13 (soX4_waitingAheadOf X h3 l0 r4) (tbm tkX4_waitingAt (i := 17) rfl) rfl rfl ceX4_waitingAheadOf wd_754 wd_15 wd_752 rfl (Nat.le_of_ble_eq_true rfl) (kI_gd (fun h6 x7 => ?_))
          refine q_run tkX4_waitingAt 18 1 (pc' := 33) (L' := [some (.inr (.inr l0)), some (.inl l1), some (.inl l2), some (.inr (.inr r4))]) (st' := [.inl l1, .inl x7]) rfl ?_
          refine q_icmp_ne (tbm tkX4_waitingAt (i := 19) rfl) ?_ ?_
          · refine q_run tkX4_waitingAt 20 1 (pc' := 37) (L' := [some (.inr (.inr l0)), some (.inl l1), some (.inl l2), some (.inr (.inr r4))]) (st' := [.inr (.inr r4)]) rfl ?_
            exact q_aret (tbm tkX4_waitingAt (i := 21) rfl) rfl (Or.inl ⟨_, rfl⟩)
          · refine q_le (L' := [some (.inr (.inr l0)), some (.inl l1), some (.inl l2), none]) (lvLe_s (lvLe_s (lvLe_s (lvLe_n lvLe_0)))) ?_
            exact sX4_waitingAt_38 X (fX4_waitingAt_2 X.2.2.2 n) ih h6 l0 l1 l2
        · refine q_le (L' := [some (.inr (.inr l0)), some (.inl l1), some (.inl l2), none]) (lvLe_s (lvLe_s (lvLe_s (lvLe_n lvLe_0)))) ?_
          exact sX4_waitingAt_38 X (fX4_waitingAt_2 X.2.2.2 n) ih h3 l0 l1 l2
    · refine q_run tkX4_waitingAt 24 1 (pc' := 45) (L' := [some (.inr (.inr l0)), some (.inl l1), some (.inl l2), none]) (st' := [.inr (.inr none)]) rfl ?_
      exact q_aret (tbm tkX4_waitingAt (i := 25) rfl) rfl (Or.inl ⟨_, rfl⟩)
def fX4_waitingAt (c : Nat → Option Nat) (h : Hp) (a0 : Option Nat) (a1 : Int32) : Rs := fX4_waitingAt_2 c FU h a0 a1 (0 : Int32)
set_option maxHeartbeats 4000000 in
set_option maxRecDepth 100000 in
theorem soX4_waitingAt (X : Cx) (h : Hp) (a0 : Option Nat) (a1 : Int32) : SO X mX4_waitingAt [.inr (.inr a0), .inl a1] h (fX4_waitingAt X.2.2.2 h a0 a1) := by
  refine so_of (by decide +kernel) (Nat.le_of_ble_eq_true rfl) ?_
  show Gd X mX4_waitingAt h (fX4_waitingAt X.2.2.2 h a0 a1) h 0 [some (.inr (.inr a0)), some (.inl a1), none, none] []
  unfold fX4_waitingAt
  refine q_run tkX4_waitingAt 0 2 (pc' := 2) (L' := [some (.inr (.inr a0)), some (.inl a1), some (.inl (0 : Int32)), none]) (st' := []) rfl ?_
  exact sX4_waitingAt_2 X FU h a0 a1 (0 : Int32)
theorem ceX4_waitingAt : Ce mX4_waitingAt 1 := ⟨wd_73, wd_751, by decide +kernel, by decide +kernel, by decide +kernel⟩
/-- ReceiptRolls$State.takeReceipt -/
abbrev mX4_takeReceipt : MI := (yX4_takeReceipt, cX4_takeReceipt, 2, some (.object "ReceiptRolls$Receipt"), 3)
def tbX4_takeReceipt : List TE := [(0, .aload_n 0, 1, 0, 0), (1, .getfield 53, 3, 0, 0), (4, .ifCond .eq 12, 3, 0, 16), (7, .aload_n 0, 1, 0, 0), (8, .aload_n 0, 1, 0, 0), (9, .getfield 53, 3, 0, 0), (12, .invokevirtual 107, 3, 0, 0), (15, .areturn, 1, 0, 0), (16, .aload_n 0, 1, 0, 0), (17, .iconst 0, 1, 0, 0), (18, .invokevirtual 110, 3, 0, 0), (21, .astore_n 1, 1, 0, 0), (22, .aload_n 1, 1, 0, 0), (23, .ifnull 16, 3, 0, 39), (26, .aload_n 1, 1, 0, 0), (27, .iconst 1, 1, 1, 0), (28, .putfield 79, 3, 0, 0), (31, .aload_n 0, 1, 0, 0), (32, .aload_n 1, 1, 0, 0), (33, .getfield 68, 3, 0, 0), (36, .putfield 53, 3, 0, 0), (39, .aload_n 1, 1, 0, 0), (40, .areturn, 1, 0, 0)]
theorem tkX4_takeReceipt : ∀ x ∈ tbX4_takeReceipt, tbB cX4_takeReceipt x = true := tb_all (by decide +kernel)
def fX4_takeReceipt_39 (c : Nat → Option Nat) (h : Hp) (l1 : Option Nat) : Rs := some (h, some (.inr (.inr l1)))
set_option maxHeartbeats 4000000 in
set_option maxRecDepth 100000 in
theorem sX4_takeReceipt_39 (X : Cx) {h0 : Hp} (h : Hp) (l1 : Option Nat) : Gd X mX4_takeReceipt h0 (fX4_takeReceipt_39 X.2.2.2 h l1) h 39 [none, some (.inr (.inr l1))] [] := by
  unfold fX4_takeReceipt_39
  refine q_run tkX4_takeReceipt 21 1 (pc' := 40) (L' := [none, some (.inr (.inr l1))]) (st' := [.inr (.inr l1)]) rfl ?_
  exact q_aret (tbm tkX4_takeReceipt (i := 22) rfl) rfl (Or.inl ⟨_, rfl⟩)
def fX4_takeReceipt (c : Nat → Option Nat) (h : Hp) (a0 : Option Nat) : Rs := rdI h a0 6 9 (fun x1 => if x1 = 0 then (ck h a0 6 (cc (fX4_waitingAt c h a0 (0 : Int32)) (kR fun h2 r3 => ifN r3 (fX4_takeReceipt_39 c h2 r3) (wr h2 r3 4 3 (.inl (1 : Int32)) (fun h4 => rdI h4 r3 4 0 (fun x5 => wr h4 a0 6 9 (.inl x5) (fun h6 => fX4_takeReceipt_39 c h6 r3))))))) else (rdI h a0 6 9 (fun x7 => ck h a0 6 (cc (fX4_known c h a0 x7) (kR fun h8 r9 => some (h8, some (.inr (.inr r9))))))))
set_option maxHeartbeats 4000000 in
set_option maxRecDepth 100000 in
theorem soX4_takeReceipt (X : Cx) (h : Hp) (a0 : Option Nat) : SO X mX4_takeReceipt [.inr (.inr a0)] h (fX4_takeReceipt X.2.2.2 h a0) := by
  refine so_of (by decide +kernel) (Nat.le_of_ble_eq_true rfl) ?_
  show Gd X mX4_takeReceipt h (fX4_takeReceipt X.2.2.2 h a0) h 0 [some (.inr (.inr a0)), none] []
  unfold fX4_takeReceipt
  refine q_run tkX4_takeReceipt 0 1 (pc' := 1) (L' := [some (.inr (.inr a0)), none]) (st' := [.inr (.inr a0)]) rfl ?_
  refine q_rdI RX4 TX4 13 (tbm tkX4_takeReceipt (i := 1) rfl) rfl (Nat.le_of_ble_eq_true rfl) wd_193 (fun x1 => ?_)
  refine q_if_eq (tbm tkX4_takeReceipt (i := 2) rfl) ?_ ?_
  · refine q_run tkX4_takeReceipt 8 2 (pc' := 18) (L' := [some (.inr (.inr a0)), none]) (st' := [.inl (0 : Int32), .inr (.inr a0)]) rfl ?_
    refine q_cv (r := a0) (ci := 6) (n := 1) (as := [.inl (0 : Int32)]) (st := []) TX4 13 (soX4_waitingAt X h a0 (0 : Int32)) (tbm tkX4_takeReceipt (i := 10) rfl) rfl rfl ceX4_waitingAt wd_749 wd_750 wd_748 rfl (Nat.le_of_ble_eq_true rfl) (kR_gd (fun h2 r3 => ?_))
    refine q_run tkX4_takeReceipt 11 2 (pc' := 23) (L' := [some (.inr (.inr a0)), some (.inr (.inr r3))]) (st' := [.inr (.inr r3)]) rfl ?_
    refine q_ifnull (tbm tkX4_takeReceipt (i := 13) rfl) ?_ ?_
    · refine q_le (L' := [none, some (.inr (.inr r3))]) (lvLe_n (lvLe_s lvLe_0)) ?_
      exact sX4_takeReceipt_39 X h2 r3
    · refine q_run tkX4_takeReceipt 14 2 (pc' := 28) (L' := [some (.inr (.inr a0)), some (.inr (.inr r3))]) (st' := [.inl (1 : Int32), .inr (.inr r3)]) rfl ?_
      refine q_wr RX2 TX2 14 (tbm tkX4_takeReceipt (i := 16) rfl) rfl (Nat.le_of_ble_eq_true rfl) (Or.inl rfl) wd_122 (fun h4 => ?_)
      refine q_run tkX4_takeReceipt 17 2 (pc' := 33) (L' := [some (.inr (.inr a0)), some (.inr (.inr r3))]) (st' := [.inr (.inr r3), .inr (.inr a0)]) rfl ?_
      refine q_rdI RX2 TX2 14 (tbm tkX4_takeReceipt (i := 19) rfl) rfl (Nat.le_of_ble_eq_true rfl) wd_114 (fun x5 => ?_)
      refine q_wr RX4 TX4 13 (tbm tkX4_takeReceipt (i := 20) rfl) rfl (Nat.le_of_ble_eq_true rfl) (Or.inl rfl) wd_193 (fun h6 => ?_)
      refine q_le (L' := [none, some (.inr (.inr r3))]) (lvLe_n (lvLe_s lvLe_0)) ?_
      exact sX4_takeReceipt_39 X h6 r3
  · refine q_run tkX4_takeReceipt 3 2 (pc' := 9) (L' := [some (.inr (.inr a0)), none]) (st' := [.inr (.inr a0), .inr (.inr a0)]) rfl ?_
    refine q_rdI RX4 TX4 13 (tbm tkX4_takeReceipt (i := 5) rfl) rfl (Nat.le_of_ble_eq_true rfl) wd_193 (fun x7 => ?_)
    refine q_cv (r := a0) (ci := 6) (n := 1) (as := [.inl x7]) (st := []) TX4 13 (soX4_known X h a0 x7) (tbm tkX4_takeReceipt (i := 6) rfl) rfl rfl ceX4_known wd_712 wd_713 wd_747 rfl (Nat.le_of_ble_eq_true rfl) (kR_gd (fun h8 r9 => ?_))
    exact q_aret (tbm tkX4_takeReceipt (i := 7) rfl) rfl (Or.inl ⟨_, rfl⟩)
theorem ceX4_takeReceipt : Ce mX4_takeReceipt 0 := ⟨wd_73, wd_746, by decide +kernel, by decide +kernel, by decide +kernel⟩
/-- ReceiptRolls$State.finish -/
abbrev mX4_finish : MI := (yX4_finish, cX4_finish, 4, none, 1)
def tbX4_finish : List TE := [(0, .aload_n 1, 1, 0, 0), (1, .iconst 2, 1, 2, 0), (2, .putfield 79, 3, 0, 0), (5, .aload_n 1, 1, 0, 0), (6, .aload_n 0, 1, 0, 0), (7, .getfield 41, 3, 0, 0), (10, .putfield 113, 3, 0, 0), (13, .aload_n 1, 1, 0, 0), (14, .aload_n 0, 1, 0, 0), (15, .getfield 47, 3, 0, 0), (18, .putfield 116, 3, 0, 0), (21, .aload_n 0, 1, 0, 0), (22, .iconst 0, 1, 0, 0), (23, .putfield 53, 3, 0, 0), (26, .aload_n 0, 1, 0, 0), (27, .dup, 1, 0, 0), (28, .getfield 47, 3, 0, 0), (31, .iconst 1, 1, 1, 0), (32, .iadd, 1, 0, 0), (33, .putfield 47, 3, 0, 0), (36, .iconst 0, 1, 0, 0), (37, .istore_n 2, 1, 0, 0), (38, .iload_n 2, 1, 0, 0), (39, .aload_n 0, 1, 0, 0), (40, .invokevirtual 71, 3, 0, 0), (43, .if_icmp .ge 45, 3, 0, 88), (46, .aload_n 0, 1, 0, 0), (47, .iload_n 2, 1, 0, 0), (48, .invokevirtual 75, 3, 0, 0), (51, .astore_n 3, 1, 0, 0), (52, .aload_n 3, 1, 0, 0), (53, .ifnull 29, 3, 0, 82), (56, .aload_n 3, 1, 0, 0), (57, .getfield 79, 3, 0, 0), (60, .iconst 2, 1, 2, 0), (61, .if_icmp .ne 21, 3, 0, 82), (64, .aload_n 3, 1, 0, 0), (65, .getfield 116, 3, 0, 0), (68, .aload_n 0, 1, 0, 0), (69, .getfield 47, 3, 0, 0), (72, .bipush 8, 2, 8, 0), (74, .isub, 1, 0, 0), (75, .if_icmp .ge 7, 3, 0, 82), (78, .aload_n 3, 1, 0, 0), (79, .invokevirtual 119, 3, 0, 0), (82, .iinc 2 1, 3, 1, 0), (85, .goto (-47), 3, 0, 38), (88, .return_, 1, 0, 0)]
theorem tkX4_finish : ∀ x ∈ tbX4_finish, tbB cX4_finish x = true := tb_all (by decide +kernel)
def fX4_finish_82 (c : Nat → Option Nat) (k38 : Hp → Option Nat → Int32 → Rs) (h : Hp) (l0 : Option Nat) (l2 : Int32) : Rs := k38 h l0 (l2 + (1 : Int32))
set_option maxHeartbeats 4000000 in
set_option maxRecDepth 100000 in
theorem sX4_finish_82 (X : Cx) {h0 : Hp} (k38 : Hp → Option Nat → Int32 → Rs) (hk38 : ∀ (h : Hp) (l0 : Option Nat) (l2 : Int32), Gd X mX4_finish h0 (k38 h l0 l2) h 38 [some (.inr (.inr l0)), none, some (.inl l2), none] []) (h : Hp) (l0 : Option Nat) (l2 : Int32) : Gd X mX4_finish h0 (fX4_finish_82 X.2.2.2 k38 h l0 l2) h 82 [some (.inr (.inr l0)), none, some (.inl l2), none] [] := by
  unfold fX4_finish_82
  refine q_run tkX4_finish 45 2 (pc' := 38) (L' := [some (.inr (.inr l0)), none, some (.inl (l2 + (1 : Int32))), none]) (st' := []) rfl ?_
  exact hk38 h l0 (l2 + (1 : Int32))
def fX4_finish_38 (c : Nat → Option Nat) : Nat → Hp → Option Nat → Int32 → Rs
  | 0, _, _, _ => none
  | n + 1, h, l0, l2 => ck h l0 6 (cc (fX4_places c h l0) (kI fun h1 x2 => if l2 < x2 then (ck h1 l0 6 (cc (fX4_placeAt c h1 l0 l2) (kR fun h3 r4 => ifN r4 (fX4_finish_82 c (fX4_finish_38 c n) h3 l0 l2) (rdI h3 r4 4 3 (fun x5 => if x5 = (2 : Int32) then (rdI h3 r4 4 8 (fun x6 => rdI h3 l0 6 7 (fun x7 => if x6 < (x7 - (8 : Int32)) then (ck h3 r4 4 (cc (fX2_clear c h3 r4) (kV fun h8 => fX4_finish_82 c (fX4_finish_38 c n) h8 l0 l2))) else (fX4_finish_82 c (fX4_finish_38 c n) h3 l0 l2)))) else (fX4_finish_82 c (fX4_finish_38 c n) h3 l0 l2)))))) else (some (h1, none))))
set_option maxHeartbeats 4000000 in
set_option maxRecDepth 100000 in
theorem sX4_finish_38 (X : Cx) {h0 : Hp} : ∀ (n : Nat) (h : Hp) (l0 : Option Nat) (l2 : Int32), Gd X mX4_finish h0 (fX4_finish_38 X.2.2.2 n h l0 l2) h 38 [some (.inr (.inr l0)), none, some (.inl l2), none] [] := by
  intro n
  induction n with
  | zero => intros; exact gd_none
  | succ n ih =>
    intro h l0 l2
    unfold fX4_finish_38
    refine q_run tkX4_finish 22 2 (pc' := 40) (L' := [some (.inr (.inr l0)), none, some (.inl l2), none]) (st' := [.inr (.inr l0), .inl l2]) rfl ?_
    refine q_cv (r := l0) (ci := 6) (n := 0) (as := []) (st := [.inl l2]) TX4 13 (soX4_places X h l0) (tbm tkX4_finish (i := 24) rfl) rfl rfl ceX4_places wd_716 wd_717 wd_715 rfl (Nat.le_of_ble_eq_true rfl) (kI_gd (fun h1 x2 => ?_))
    refine q_icmp_ge (tbm tkX4_finish (i := 25) rfl) ?_ ?_
    · refine q_run tkX4_finish 26 2 (pc' := 48) (L' := [some (.inr (.inr l0)), none, some (.inl l2), none]) (st' := [.inl l2, .inr (.inr l0)]) rfl ?_
      refine q_cv (r := l0) (ci := 6) (n := 1) (as := [.inl l2]) (st := []) TX4 13 (soX4_placeAt X h1 l0 l2) (tbm tkX4_finish (i := 28) rfl) rfl rfl ceX4_placeAt wd_720 wd_721 wd_719 rfl (Nat.le_of_ble_eq_true rfl) (kR_gd (fun h3 r4 => ?_))
      refine q_run tkX4_finish 29 2 (pc' := 53) (L' := [some (.inr (.inr l0)), none, some (.inl l2), some (.inr (.inr r4))]) (st' := [.inr (.inr r4)]) rfl ?_
      refine q_ifnull (tbm tkX4_finish (i := 31) rfl) ?_ ?_
      · refine q_le (L' := [some (.inr (.inr l0)), none, some (.inl l2), none]) (lvLe_s (lvLe_n (lvLe_s (lvLe_n lvLe_0)))) ?_
        exact sX4_finish_82 X (fX4_finish_38 X.2.2.2 n) ih h3 l0 l2
      · refine q_run tkX4_finish 32 1 (pc' := 57) (L' := [some (.inr (.inr l0)), none, some (.inl l2), some (.inr (.inr r4))]) (st' := [.inr (.inr r4)]) rfl ?_
        refine q_rdI RX2 TX2 14 (tbm tkX4_finish (i := 33) rfl) rfl (Nat.le_of_ble_eq_true rfl) wd_122 (fun x5 => ?_)
        refine q_run tkX4_finish 34 1 (pc' := 61) (L' := [some (.inr (.inr l0)), none, some (.inl l2), some (.inr (.inr r4))]) (st' := [.inl (2 : Int32), .inl x5]) rfl ?_
        refine q_icmp_ne (tbm tkX4_finish (i := 35) rfl) ?_ ?_
        · refine q_run tkX4_finish 36 1 (pc' := 65) (L' := [some (.inr (.inr l0)), none, some (.inl l2), some (.inr (.inr r4))]) (st' := [.inr (.inr r4)]) rfl ?_
          refine q_rdI RX2 TX2 14 (tbm tkX4_finish (i := 37) rfl) rfl (Nat.le_of_ble_eq_true rfl) wd_135 (fun x6 => ?_)
          refine q_run tkX4_finish 38 1 (pc' := 69) (L' := [some (.inr (.inr l0)), none, some (.inl l2), some (.inr (.inr r4))]) (st' := [.inr (.inr l0), .inl x6]) rfl ?_
          refine q_rdI RX4 TX4 13 (tbm tkX4_finish (i := 39) rfl) rfl (Nat.le_of_ble_eq_true rfl) wd_189 (fun x7 => ?_)
          refine q_run tkX4_finish 40 2 (pc' := 75) (L' := [some (.inr (.inr l0)), none, some (.inl l2), some (.inr (.inr r4))]) (st' := [.inl (x7 - (8 : Int32)), .inl x6]) rfl ?_
          refine q_icmp_ge (tbm tkX4_finish (i := 42) rfl) ?_ ?_
          · refine q_run tkX4_finish 43 1 (pc' := 79) (L' := [some (.inr (.inr l0)), none, some (.inl l2), some (.inr (.inr r4))]) (st' := [.inr (.inr r4)]) rfl ?_
            refine q_cv (r := r4) (ci := 4) (n := 0) (as := []) (st := []) TX2 14 (soX2_clear X h3 r4) (tbm tkX4_finish (i := 44) rfl) rfl rfl ceX2_clear wd_704 wd_705 wd_764 rfl (Nat.le_of_ble_eq_true rfl) (kV_gd (fun h8 => ?_))
            refine q_le (L' := [some (.inr (.inr l0)), none, some (.inl l2), none]) (lvLe_s (lvLe_n (lvLe_s (lvLe_n lvLe_0)))) ?_
            exact sX4_finish_82 X (fX4_finish_38 X.2.2.2 n) ih h8 l0 l2
          · refine q_le (L' := [some (.inr (.inr l0)), none, some (.inl l2), none]) (lvLe_s (lvLe_n (lvLe_s (lvLe_n lvLe_0)))) ?_
            exact sX4_finish_82 X (fX4_finish_38 X.2.2.2 n) ih h3 l0 l2
        · refine q_le (L' := [some (.inr (.inr l0)), none, some (.inl l2), none]) (lvLe_s (lvLe_n (lvLe_s (lvLe_n lvLe_0)))) ?_
          exact sX4_finish_82 X (fX4_finish_38 X.2.2.2 n) ih h3 l0 l2
    · exact q_vret (tbm tkX4_finish (i := 47) rfl) rfl
def fX4_finish (c : Nat → Option Nat) (h : Hp) (a0 : Option Nat) (a1 : Option Nat) : Rs := wr h a1 4 3 (.inl (2 : Int32)) (fun h9 => rdI h9 a0 6 5 (fun x10 => wr h9 a1 4 7 (.inl x10) (fun h11 => rdI h11 a0 6 7 (fun x12 => wr h11 a1 4 8 (.inl x12) (fun h13 => wr h13 a0 6 9 (.inl (0 : Int32)) (fun h14 => rdI h14 a0 6 7 (fun x15 => wr h14 a0 6 7 (.inl (x15 + (1 : Int32))) (fun h16 => fX4_finish_38 c FU h16 a0 (0 : Int32)))))))))
set_option maxHeartbeats 4000000 in
set_option maxRecDepth 100000 in
theorem soX4_finish (X : Cx) (h : Hp) (a0 : Option Nat) (a1 : Option Nat) : SO X mX4_finish [.inr (.inr a0), .inr (.inr a1)] h (fX4_finish X.2.2.2 h a0 a1) := by
  refine so_of (by decide +kernel) (Nat.le_of_ble_eq_true rfl) ?_
  show Gd X mX4_finish h (fX4_finish X.2.2.2 h a0 a1) h 0 [some (.inr (.inr a0)), some (.inr (.inr a1)), none, none] []
  unfold fX4_finish
  refine q_run tkX4_finish 0 2 (pc' := 2) (L' := [some (.inr (.inr a0)), some (.inr (.inr a1)), none, none]) (st' := [.inl (2 : Int32), .inr (.inr a1)]) rfl ?_
  refine q_wr RX2 TX2 14 (tbm tkX4_finish (i := 2) rfl) rfl (Nat.le_of_ble_eq_true rfl) (Or.inl rfl) wd_122 (fun h9 => ?_)
  refine q_run tkX4_finish 3 2 (pc' := 7) (L' := [some (.inr (.inr a0)), some (.inr (.inr a1)), none, none]) (st' := [.inr (.inr a0), .inr (.inr a1)]) rfl ?_
  refine q_rdI RX4 TX4 13 (tbm tkX4_finish (i := 5) rfl) rfl (Nat.le_of_ble_eq_true rfl) wd_185 (fun x10 => ?_)
  refine q_wr RX2 TX2 14 (tbm tkX4_finish (i := 6) rfl) rfl (Nat.le_of_ble_eq_true rfl) (Or.inl rfl) wd_133 (fun h11 => ?_)
  refine q_run tkX4_finish 7 2 (pc' := 15) (L' := [some (.inr (.inr a0)), some (.inr (.inr a1)), none, none]) (st' := [.inr (.inr a0), .inr (.inr a1)]) rfl ?_
  refine q_rdI RX4 TX4 13 (tbm tkX4_finish (i := 9) rfl) rfl (Nat.le_of_ble_eq_true rfl) wd_189 (fun x12 => ?_)
  refine q_wr RX2 TX2 14 (tbm tkX4_finish (i := 10) rfl) rfl (Nat.le_of_ble_eq_true rfl) (Or.inl rfl) wd_135 (fun h13 => ?_)
  refine q_run tkX4_finish 11 2 (pc' := 23) (L' := [some (.inr (.inr a0)), some (.inr (.inr a1)), none, none]) (st' := [.inl (0 : Int32), .inr (.inr a0)]) rfl ?_
  refine q_wr RX4 TX4 13 (tbm tkX4_finish (i := 13) rfl) rfl (Nat.le_of_ble_eq_true rfl) (Or.inl rfl) wd_193 (fun h14 => ?_)
  refine q_run tkX4_finish 14 2 (pc' := 28) (L' := [some (.inr (.inr a0)), some (.inr (.inr a1)), none, none]) (st' := [.inr (.inr a0), .inr (.inr a0)]) rfl ?_
  refine q_rdI RX4 TX4 13 (tbm tkX4_finish (i := 16) rfl) rfl (Nat.le_of_ble_eq_true rfl) wd_189 (fun x15 => ?_)
  refine q_run tkX4_finish 17 2 (pc' := 33) (L' := [some (.inr (.inr a0)), some (.inr (.inr a1)), none, none]) (st' := [.inl (x15 + (1 : Int32)), .inr (.inr a0)]) rfl ?_
  refine q_wr RX4 TX4 13 (tbm tkX4_finish (i := 19) rfl) rfl (Nat.le_of_ble_eq_true rfl) (Or.inl rfl) wd_189 (fun h16 => ?_)
  refine q_run tkX4_finish 20 2 (pc' := 38) (L' := [some (.inr (.inr a0)), some (.inr (.inr a1)), some (.inl (0 : Int32)), none]) (st' := []) rfl ?_
  refine q_le (L' := [some (.inr (.inr a0)), none, some (.inl (0 : Int32)), none]) (lvLe_s (lvLe_n (lvLe_s (lvLe_n lvLe_0)))) ?_
  exact sX4_finish_38 X FU h16 a0 (0 : Int32)
theorem ceX4_finish : Ce mX4_finish 1 := ⟨wd_73, wd_763, by decide +kernel, by decide +kernel, by decide +kernel⟩
/-- ReceiptRolls$State.printLine -/
abbrev mX4_printLine : MI := (yX4_printLine, cX4_printLine, 2, some .boolean, 4)
def tbX4_printLine : List TE := [(0, .aload_n 0, 1, 0, 0), (1, .invokevirtual 94, 3, 0, 0), (4, .astore_n 1, 1, 0, 0), (5, .aload_n 1, 1, 0, 0), (6, .ifnull 10, 3, 0, 16), (9, .aload_n 0, 1, 0, 0), (10, .getfield 9, 3, 0, 0), (13, .ifCond .gt 5, 3, 0, 18), (16, .iconst 0, 1, 0, 0), (17, .ireturn, 1, 0, 0), (18, .aload_n 1, 1, 0, 0), (19, .dup, 1, 0, 0), (20, .getfield 98, 3, 0, 0), (23, .iconst 1, 1, 1, 0), (24, .iadd, 1, 0, 0), (25, .putfield 98, 3, 0, 0), (28, .aload_n 0, 1, 0, 0), (29, .dup, 1, 0, 0), (30, .getfield 9, 3, 0, 0), (33, .iconst 1, 1, 1, 0), (34, .isub, 1, 0, 0), (35, .putfield 9, 3, 0, 0), (38, .aload_n 0, 1, 0, 0), (39, .dup, 1, 0, 0), (40, .getfield 32, 3, 0, 0), (43, .iconst 1, 1, 1, 0), (44, .iadd, 1, 0, 0), (45, .putfield 32, 3, 0, 0), (48, .aload_n 1, 1, 0, 0), (49, .getfield 98, 3, 0, 0), (52, .aload_n 1, 1, 0, 0), (53, .getfield 101, 3, 0, 0), (56, .if_icmp .lt 8, 3, 0, 64), (59, .aload_n 0, 1, 0, 0), (60, .aload_n 1, 1, 0, 0), (61, .invokevirtual 104, 3, 0, 0), (64, .iconst 1, 1, 1, 0), (65, .ireturn, 1, 0, 0)]
theorem tkX4_printLine : ∀ x ∈ tbX4_printLine, tbB cX4_printLine x = true := tb_all (by decide +kernel)
def fX4_printLine_64 (c : Nat → Option Nat) (h : Hp) : Rs := rtI .boolean h (1 : Int32)
set_option maxHeartbeats 4000000 in
set_option maxRecDepth 100000 in
theorem sX4_printLine_64 (X : Cx) {h0 : Hp} (h : Hp) : Gd X mX4_printLine h0 (fX4_printLine_64 X.2.2.2 h) h 64 [none, none] [] := by
  unfold fX4_printLine_64
  refine q_run tkX4_printLine 36 1 (pc' := 65) (L' := [none, none]) (st' := [.inl (1 : Int32)]) rfl ?_
  exact q_zret (tbm tkX4_printLine (i := 37) rfl) rfl
def fX4_printLine_16 (c : Nat → Option Nat) (h : Hp) : Rs := rtI .boolean h (0 : Int32)
set_option maxHeartbeats 4000000 in
set_option maxRecDepth 100000 in
theorem sX4_printLine_16 (X : Cx) {h0 : Hp} (h : Hp) : Gd X mX4_printLine h0 (fX4_printLine_16 X.2.2.2 h) h 16 [none, none] [] := by
  unfold fX4_printLine_16
  refine q_run tkX4_printLine 8 1 (pc' := 17) (L' := [none, none]) (st' := [.inl (0 : Int32)]) rfl ?_
  exact q_zret (tbm tkX4_printLine (i := 9) rfl) rfl
def fX4_printLine (c : Nat → Option Nat) (h : Hp) (a0 : Option Nat) : Rs := ck h a0 6 (cc (fX4_takeReceipt c h a0) (kR fun h1 r2 => ifN r2 (fX4_printLine_16 c h1) (rdI h1 a0 6 0 (fun x3 => if 0 < x3 then (rdI h1 r2 4 6 (fun x4 => wr h1 r2 4 6 (.inl (x4 + (1 : Int32))) (fun h5 => rdI h5 a0 6 0 (fun x6 => wr h5 a0 6 0 (.inl (x6 - (1 : Int32))) (fun h7 => rdI h7 a0 6 1 (fun x8 => wr h7 a0 6 1 (.inl (x8 + (1 : Int32))) (fun h9 => rdI h9 r2 4 6 (fun x10 => rdI h9 r2 4 5 (fun x11 => if x10 < x11 then (fX4_printLine_64 c h9) else (ck h9 a0 6 (cc (fX4_finish c h9 a0 r2) (kV fun h12 => fX4_printLine_64 c h12)))))))))))) else (fX4_printLine_16 c h1)))))
set_option maxHeartbeats 4000000 in
set_option maxRecDepth 100000 in
theorem soX4_printLine (X : Cx) (h : Hp) (a0 : Option Nat) : SO X mX4_printLine [.inr (.inr a0)] h (fX4_printLine X.2.2.2 h a0) := by
  refine so_of (by decide +kernel) (Nat.le_of_ble_eq_true rfl) ?_
  show Gd X mX4_printLine h (fX4_printLine X.2.2.2 h a0) h 0 [some (.inr (.inr a0)), none] []
  unfold fX4_printLine
  refine q_run tkX4_printLine 0 1 (pc' := 1) (L' := [some (.inr (.inr a0)), none]) (st' := [.inr (.inr a0)]) rfl ?_
  refine q_cv (r := a0) (ci := 6) (n := 0) (as := []) (st := []) TX4 13 (soX4_takeReceipt X h a0) (tbm tkX4_printLine (i := 1) rfl) rfl rfl ceX4_takeReceipt wd_745 wd_14 wd_743 rfl (Nat.le_of_ble_eq_true rfl) (kR_gd (fun h1 r2 => ?_))
  refine q_run tkX4_printLine 2 2 (pc' := 6) (L' := [some (.inr (.inr a0)), some (.inr (.inr r2))]) (st' := [.inr (.inr r2)]) rfl ?_
  refine q_ifnull (tbm tkX4_printLine (i := 4) rfl) ?_ ?_
  · refine q_le (L' := [none, none]) (lvLe_n (lvLe_n lvLe_0)) ?_
    exact sX4_printLine_16 X h1
  · refine q_run tkX4_printLine 5 1 (pc' := 10) (L' := [some (.inr (.inr a0)), some (.inr (.inr r2))]) (st' := [.inr (.inr a0)]) rfl ?_
    refine q_rdI RX4 TX4 13 (tbm tkX4_printLine (i := 6) rfl) rfl (Nat.le_of_ble_eq_true rfl) wd_175 (fun x3 => ?_)
    refine q_if_gt (tbm tkX4_printLine (i := 7) rfl) ?_ ?_
    · refine q_run tkX4_printLine 10 2 (pc' := 20) (L' := [some (.inr (.inr a0)), some (.inr (.inr r2))]) (st' := [.inr (.inr r2), .inr (.inr r2)]) rfl ?_
      refine q_rdI RX2 TX2 14 (tbm tkX4_printLine (i := 12) rfl) rfl (Nat.le_of_ble_eq_true rfl) wd_130 (fun x4 => ?_)
      refine q_run tkX4_printLine 13 2 (pc' := 25) (L' := [some (.inr (.inr a0)), some (.inr (.inr r2))]) (st' := [.inl (x4 + (1 : Int32)), .inr (.inr r2)]) rfl ?_
      refine q_wr RX2 TX2 14 (tbm tkX4_printLine (i := 15) rfl) rfl (Nat.le_of_ble_eq_true rfl) (Or.inl rfl) wd_130 (fun h5 => ?_)
      refine q_run tkX4_printLine 16 2 (pc' := 30) (L' := [some (.inr (.inr a0)), some (.inr (.inr r2))]) (st' := [.inr (.inr a0), .inr (.inr a0)]) rfl ?_
      refine q_rdI RX4 TX4 13 (tbm tkX4_printLine (i := 18) rfl) rfl (Nat.le_of_ble_eq_true rfl) wd_175 (fun x6 => ?_)
      refine q_run tkX4_printLine 19 2 (pc' := 35) (L' := [some (.inr (.inr a0)), some (.inr (.inr r2))]) (st' := [.inl (x6 - (1 : Int32)), .inr (.inr a0)]) rfl ?_
      refine q_wr RX4 TX4 13 (tbm tkX4_printLine (i := 21) rfl) rfl (Nat.le_of_ble_eq_true rfl) (Or.inl rfl) wd_175 (fun h7 => ?_)
      refine q_run tkX4_printLine 22 2 (pc' := 40) (L' := [some (.inr (.inr a0)), some (.inr (.inr r2))]) (st' := [.inr (.inr a0), .inr (.inr a0)]) rfl ?_
      refine q_rdI RX4 TX4 13 (tbm tkX4_printLine (i := 24) rfl) rfl (Nat.le_of_ble_eq_true rfl) wd_177 (fun x8 => ?_)
      refine q_run tkX4_printLine 25 2 (pc' := 45) (L' := [some (.inr (.inr a0)), some (.inr (.inr r2))]) (st' := [.inl (x8 + (1 : Int32)), .inr (.inr a0)]) rfl ?_
      refine q_wr RX4 TX4 13 (tbm tkX4_printLine (i := 27) rfl) rfl (Nat.le_of_ble_eq_true rfl) (Or.inl rfl) wd_177 (fun h9 => ?_)
      refine q_run tkX4_printLine 28 1 (pc' := 49) (L' := [some (.inr (.inr a0)), some (.inr (.inr r2))]) (st' := [.inr (.inr r2)]) rfl ?_
      refine q_rdI RX2 TX2 14 (tbm tkX4_printLine (i := 29) rfl) rfl (Nat.le_of_ble_eq_true rfl) wd_130 (fun x10 => ?_)
      refine q_run tkX4_printLine 30 1 (pc' := 53) (L' := [some (.inr (.inr a0)), some (.inr (.inr r2))]) (st' := [.inr (.inr r2), .inl x10]) rfl ?_
      refine q_rdI RX2 TX2 14 (tbm tkX4_printLine (i := 31) rfl) rfl (Nat.le_of_ble_eq_true rfl) wd_127 (fun x11 => ?_)
      refine q_icmp_lt (tbm tkX4_printLine (i := 32) rfl) ?_ ?_
      · refine q_le (L' := [none, none]) (lvLe_n (lvLe_n lvLe_0)) ?_
        exact sX4_printLine_64 X h9
      · refine q_run tkX4_printLine 33 2 (pc' := 61) (L' := [some (.inr (.inr a0)), some (.inr (.inr r2))]) (st' := [.inr (.inr r2), .inr (.inr a0)]) rfl ?_
        refine q_cv (r := a0) (ci := 6) (n := 1) (as := [.inr (.inr r2)]) (st := []) TX4 13 (soX4_finish X h9 a0 r2) (tbm tkX4_printLine (i := 35) rfl) rfl rfl ceX4_finish wd_762 wd_16 wd_760 rfl (Nat.le_of_ble_eq_true rfl) (kV_gd (fun h12 => ?_))
        refine q_le (L' := [none, none]) (lvLe_n (lvLe_n lvLe_0)) ?_
        exact sX4_printLine_64 X h12
    · refine q_le (L' := [none, none]) (lvLe_n (lvLe_n lvLe_0)) ?_
      exact sX4_printLine_16 X h1
theorem ceX4_printLine : Ce mX4_printLine 0 := ⟨wd_73, wd_742, by decide +kernel, by decide +kernel, by decide +kernel⟩
/-- ReceiptRolls$State.tick -/
abbrev mX4_tick : MI := (yX4_tick, cX4_tick, 2, some .int, 5)
def tbX4_tick : List TE := [(0, .iconst 0, 1, 0, 0), (1, .istore_n 1, 1, 0, 0), (2, .iload_n 1, 1, 0, 0), (3, .aload_n 0, 1, 0, 0), (4, .iconst 2, 1, 2, 0), (5, .invokevirtual 64, 3, 0, 0), (8, .if_icmp .ge 16, 3, 0, 24), (11, .aload_n 0, 1, 0, 0), (12, .invokevirtual 90, 3, 0, 0), (15, .ifCond .eq 9, 3, 0, 24), (18, .iinc 1 1, 3, 1, 0), (21, .goto (-19), 3, 0, 2), (24, .aload_n 0, 1, 0, 0), (25, .dup, 1, 0, 0), (26, .getfield 41, 3, 0, 0), (29, .iconst 1, 1, 1, 0), (30, .iadd, 1, 0, 0), (31, .putfield 41, 3, 0, 0), (34, .iload_n 1, 1, 0, 0), (35, .ireturn, 1, 0, 0)]
theorem tkX4_tick : ∀ x ∈ tbX4_tick, tbB cX4_tick x = true := tb_all (by decide +kernel)
def fX4_tick_24 (c : Nat → Option Nat) (h : Hp) (l0 : Option Nat) (l1 : Int32) : Rs := rdI h l0 6 5 (fun x1 => wr h l0 6 5 (.inl (x1 + (1 : Int32))) (fun h2 => some (h2, some (.inl l1))))
set_option maxHeartbeats 4000000 in
set_option maxRecDepth 100000 in
theorem sX4_tick_24 (X : Cx) {h0 : Hp} (h : Hp) (l0 : Option Nat) (l1 : Int32) : Gd X mX4_tick h0 (fX4_tick_24 X.2.2.2 h l0 l1) h 24 [some (.inr (.inr l0)), some (.inl l1)] [] := by
  unfold fX4_tick_24
  refine q_run tkX4_tick 12 2 (pc' := 26) (L' := [some (.inr (.inr l0)), some (.inl l1)]) (st' := [.inr (.inr l0), .inr (.inr l0)]) rfl ?_
  refine q_rdI RX4 TX4 13 (tbm tkX4_tick (i := 14) rfl) rfl (Nat.le_of_ble_eq_true rfl) wd_185 (fun x1 => ?_)
  refine q_run tkX4_tick 15 2 (pc' := 31) (L' := [some (.inr (.inr l0)), some (.inl l1)]) (st' := [.inl (x1 + (1 : Int32)), .inr (.inr l0)]) rfl ?_
  refine q_wr RX4 TX4 13 (tbm tkX4_tick (i := 17) rfl) rfl (Nat.le_of_ble_eq_true rfl) (Or.inl rfl) wd_185 (fun h2 => ?_)
  refine q_run tkX4_tick 18 1 (pc' := 35) (L' := [some (.inr (.inr l0)), some (.inl l1)]) (st' := [.inl l1]) rfl ?_
  exact q_iret (tbm tkX4_tick (i := 19) rfl) rfl
def fX4_tick_2 (c : Nat → Option Nat) : Nat → Hp → Option Nat → Int32 → Rs
  | 0, _, _, _ => none
  | n + 1, h, l0, l1 => ck h l0 6 (cc (fX4_settingAt c h l0 (2 : Int32)) (kI fun h3 x4 => if l1 < x4 then (ck h3 l0 6 (cc (fX4_printLine c h3 l0) (kI fun h5 x6 => if x6 = 0 then (fX4_tick_24 c h5 l0 l1) else (fX4_tick_2 c n h5 l0 (l1 + (1 : Int32)))))) else (fX4_tick_24 c h3 l0 l1)))
set_option maxHeartbeats 4000000 in
set_option maxRecDepth 100000 in
theorem sX4_tick_2 (X : Cx) {h0 : Hp} : ∀ (n : Nat) (h : Hp) (l0 : Option Nat) (l1 : Int32), Gd X mX4_tick h0 (fX4_tick_2 X.2.2.2 n h l0 l1) h 2 [some (.inr (.inr l0)), some (.inl l1)] [] := by
  intro n
  induction n with
  | zero => intros; exact gd_none
  | succ n ih =>
    intro h l0 l1
    unfold fX4_tick_2
    refine q_run tkX4_tick 2 3 (pc' := 5) (L' := [some (.inr (.inr l0)), some (.inl l1)]) (st' := [.inl (2 : Int32), .inr (.inr l0), .inl l1]) rfl ?_
    refine q_cv (r := l0) (ci := 6) (n := 1) (as := [.inl (2 : Int32)]) (st := [.inl l1]) TX4 13 (soX4_settingAt X h l0 (2 : Int32)) (tbm tkX4_tick (i := 5) rfl) rfl rfl ceX4_settingAt wd_352 wd_353 wd_351 rfl (Nat.le_of_ble_eq_true rfl) (kI_gd (fun h3 x4 => ?_))
    refine q_icmp_ge (tbm tkX4_tick (i := 6) rfl) ?_ ?_
    · refine q_run tkX4_tick 7 1 (pc' := 12) (L' := [some (.inr (.inr l0)), some (.inl l1)]) (st' := [.inr (.inr l0)]) rfl ?_
      refine q_cv (r := l0) (ci := 6) (n := 0) (as := []) (st := []) TX4 13 (soX4_printLine X h3 l0) (tbm tkX4_tick (i := 8) rfl) rfl rfl ceX4_printLine wd_741 wd_13 wd_739 rfl (Nat.le_of_ble_eq_true rfl) (kI_gd (fun h5 x6 => ?_))
      refine q_if_eq (tbm tkX4_tick (i := 9) rfl) ?_ ?_
      · exact sX4_tick_24 X h5 l0 l1
      · refine q_run tkX4_tick 10 2 (pc' := 2) (L' := [some (.inr (.inr l0)), some (.inl (l1 + (1 : Int32)))]) (st' := []) rfl ?_
        exact ih h5 l0 (l1 + (1 : Int32))
    · exact sX4_tick_24 X h3 l0 l1
def fX4_tick (c : Nat → Option Nat) (h : Hp) (a0 : Option Nat) : Rs := fX4_tick_2 c FU h a0 (0 : Int32)
set_option maxHeartbeats 4000000 in
set_option maxRecDepth 100000 in
theorem soX4_tick (X : Cx) (h : Hp) (a0 : Option Nat) : SO X mX4_tick [.inr (.inr a0)] h (fX4_tick X.2.2.2 h a0) := by
  refine so_of (by decide +kernel) (Nat.le_of_ble_eq_true rfl) ?_
  show Gd X mX4_tick h (fX4_tick X.2.2.2 h a0) h 0 [some (.inr (.inr a0)), none] []
  unfold fX4_tick
  refine q_run tkX4_tick 0 2 (pc' := 2) (L' := [some (.inr (.inr a0)), some (.inl (0 : Int32))]) (st' := []) rfl ?_
  exact sX4_tick_2 X FU h a0 (0 : Int32)
theorem ceX4_tick : Ce mX4_tick 0 := ⟨wd_73, wd_738, by decide +kernel, by decide +kernel, by decide +kernel⟩
/-- ReceiptRolls$Sheet.linesOfItem -/
abbrev mX3_linesOfItem : MI := (yX3_linesOfItem, cX3_linesOfItem, 3, some .int, 6)
def tbX3_linesOfItem : List TE := [(0, .aload_n 0, 1, 0, 0), (1, .iload_n 2, 1, 0, 0), (2, .iconst (-1), 1, -1, 0), (3, .invokevirtual 15, 3, 0, 0), (6, .aload_n 0, 1, 0, 0), (7, .aload_n 1, 1, 0, 0), (8, .invokevirtual 46, 3, 0, 0), (11, .aload_n 0, 1, 0, 0), (12, .getfield 81, 3, 0, 0), (15, .ireturn, 1, 0, 0)]
theorem tkX3_linesOfItem : ∀ x ∈ tbX3_linesOfItem, tbB cX3_linesOfItem x = true := tb_all (by decide +kernel)
def fX3_linesOfItem (c : Nat → Option Nat) (h : Hp) (a0 : Option Nat) (a1 : Option Nat) (a2 : Int32) : Rs := ck h a0 5 (cc (fX3_begin c h a0 a2 (-1 : Int32)) (kV fun h1 => ck h1 a0 5 (cc (fX3_layItem c h1 a0 a1) (kV fun h2 => rdI h2 a0 5 1 (fun x3 => some (h2, some (.inl x3)))))))
set_option maxHeartbeats 4000000 in
set_option maxRecDepth 100000 in
theorem soX3_linesOfItem (X : Cx) (h : Hp) (a0 : Option Nat) (a1 : Option Nat) (a2 : Int32) : SO X mX3_linesOfItem [.inr (.inr a0), .inr (.inr a1), .inl a2] h (fX3_linesOfItem X.2.2.2 h a0 a1 a2) := by
  refine so_of (by decide +kernel) (Nat.le_of_ble_eq_true rfl) ?_
  show Gd X mX3_linesOfItem h (fX3_linesOfItem X.2.2.2 h a0 a1 a2) h 0 [some (.inr (.inr a0)), some (.inr (.inr a1)), some (.inl a2)] []
  unfold fX3_linesOfItem
  refine q_run tkX3_linesOfItem 0 3 (pc' := 3) (L' := [some (.inr (.inr a0)), some (.inr (.inr a1)), some (.inl a2)]) (st' := [.inl (-1 : Int32), .inl a2, .inr (.inr a0)]) rfl ?_
  refine q_cv (r := a0) (ci := 5) (n := 2) (as := [.inl a2, .inl (-1 : Int32)]) (st := []) TX3 6 (soX3_begin X h a0 a2 (-1 : Int32)) (tbm tkX3_linesOfItem (i := 3) rfl) rfl rfl ceX3_begin wd_600 wd_4 wd_598 rfl (Nat.le_of_ble_eq_true rfl) (kV_gd (fun h1 => ?_))
  refine q_run tkX3_linesOfItem 4 2 (pc' := 8) (L' := [some (.inr (.inr a0)), some (.inr (.inr a1)), some (.inl a2)]) (st' := [.inr (.inr a1), .inr (.inr a0)]) rfl ?_
  refine q_cv (r := a0) (ci := 5) (n := 1) (as := [.inr (.inr a1)]) (st := []) TX3 6 (soX3_layItem X h1 a0 a1) (tbm tkX3_linesOfItem (i := 6) rfl) rfl rfl ceX3_layItem wd_650 wd_9 wd_648 rfl (Nat.le_of_ble_eq_true rfl) (kV_gd (fun h2 => ?_))
  refine q_run tkX3_linesOfItem 7 1 (pc' := 12) (L' := [some (.inr (.inr a0)), some (.inr (.inr a1)), some (.inl a2)]) (st' := [.inr (.inr a0)]) rfl ?_
  refine q_rdI RX3 TX3 6 (tbm tkX3_linesOfItem (i := 8) rfl) rfl (Nat.le_of_ble_eq_true rfl) wd_283 (fun x3 => ?_)
  exact q_iret (tbm tkX3_linesOfItem (i := 9) rfl) rfl
theorem ceX3_linesOfItem : Ce mX3_linesOfItem 2 := ⟨wd_80, wd_772, by decide +kernel, by decide +kernel, by decide +kernel⟩
/-- ReceiptRolls$Receipt.itemsStruck -/
abbrev mX2_itemsStruck : MI := (yX2_itemsStruck, cX2_itemsStruck, 1, some .int, 1)
def tbX2_itemsStruck : List TE := [(0, .aload_n 0, 1, 0, 0), (1, .getfield 55, 3, 0, 0), (4, .invokestatic 58, 3, 0, 0), (7, .ireturn, 1, 0, 0)]
theorem tkX2_itemsStruck : ∀ x ∈ tbX2_itemsStruck, tbB cX2_itemsStruck x = true := tb_all (by decide +kernel)
def fX2_itemsStruck (c : Nat → Option Nat) (h : Hp) (a0 : Option Nat) : Rs := rdI h a0 4 11 (fun x1 => cc (fJ6_bitCount_0f7a4 c h x1) (kI fun h2 x3 => some (h2, some (.inl x3))))
set_option maxHeartbeats 4000000 in
set_option maxRecDepth 100000 in
theorem soX2_itemsStruck (X : Cx) (h : Hp) (a0 : Option Nat) : SO X mX2_itemsStruck [.inr (.inr a0)] h (fX2_itemsStruck X.2.2.2 h a0) := by
  refine so_of (by decide +kernel) (Nat.le_of_ble_eq_true rfl) ?_
  show Gd X mX2_itemsStruck h (fX2_itemsStruck X.2.2.2 h a0) h 0 [some (.inr (.inr a0))] []
  unfold fX2_itemsStruck
  refine q_run tkX2_itemsStruck 0 1 (pc' := 1) (L' := [some (.inr (.inr a0))]) (st' := [.inr (.inr a0)]) rfl ?_
  refine q_rdI RX2 TX2 14 (tbm tkX2_itemsStruck (i := 1) rfl) rfl (Nat.le_of_ble_eq_true rfl) wd_140 (fun x1 => ?_)
  refine q_cs (n := 1) (as := [.inl x1]) (st := []) (soJ6_bitCount_0f7a4 X h x1) (tbm tkX2_itemsStruck (i := 2) rfl) rfl ceJ6_bitCount_0f7a4 wd_783 wd_782 rfl (Nat.le_of_ble_eq_true rfl) (kI_gd (fun h2 x3 => ?_))
  exact q_iret (tbm tkX2_itemsStruck (i := 3) rfl) rfl
theorem ceX2_itemsStruck : Ce mX2_itemsStruck 0 := ⟨wd_74, wd_781, by decide +kernel, by decide +kernel, by decide +kernel⟩
/-- ReceiptRolls$Sheet.signAt -/
abbrev mX3_signAt : MI := (yX3_signAt, cX3_signAt, 2, some .int, 0)
def tbX3_signAt : List TE := [(0, .iload_n 1, 1, 0, 0), (1, .ifCond .lt 21, 3, 0, 22), (4, .iload_n 1, 1, 0, 0), (5, .aload_n 0, 1, 0, 0), (6, .getfield 9, 3, 0, 0), (9, .arraylength, 1, 0, 0), (10, .if_icmp .ge 12, 3, 0, 22), (13, .aload_n 0, 1, 0, 0), (14, .getfield 9, 3, 0, 0), (17, .iload_n 1, 1, 0, 0), (18, .caload, 1, 0, 0), (19, .goto 5, 3, 0, 24), (22, .bipush 32, 2, 32, 0), (24, .ireturn, 1, 0, 0)]
theorem tkX3_signAt : ∀ x ∈ tbX3_signAt, tbB cX3_signAt x = true := tb_all (by decide +kernel)
def fX3_signAt_24 (c : Nat → Option Nat) (h : Hp) (s0 : Int32) : Rs := some (h, some (.inl s0))
set_option maxHeartbeats 4000000 in
set_option maxRecDepth 100000 in
theorem sX3_signAt_24 (X : Cx) {h0 : Hp} (h : Hp) (s0 : Int32) : Gd X mX3_signAt h0 (fX3_signAt_24 X.2.2.2 h s0) h 24 [none, none] [.inl s0] := by
  unfold fX3_signAt_24
  exact q_iret (tbm tkX3_signAt (i := 13) rfl) rfl
def fX3_signAt_22 (c : Nat → Option Nat) (h : Hp) : Rs := fX3_signAt_24 c h (32 : Int32)
set_option maxHeartbeats 4000000 in
set_option maxRecDepth 100000 in
theorem sX3_signAt_22 (X : Cx) {h0 : Hp} (h : Hp) : Gd X mX3_signAt h0 (fX3_signAt_22 X.2.2.2 h) h 22 [none, none] [] := by
  unfold fX3_signAt_22
  refine q_run tkX3_signAt 12 1 (pc' := 24) (L' := [none, none]) (st' := [.inl (32 : Int32)]) rfl ?_
  exact sX3_signAt_24 X h (32 : Int32)
def fX3_signAt (c : Nat → Option Nat) (h : Hp) (a0 : Option Nat) (a1 : Int32) : Rs := if a1 < 0 then (fX3_signAt_22 c h) else (rdR h a0 5 5 (fun r1 => lenA h r1 (fun x2 => if a1 < x2 then (rdR h a0 5 5 (fun r3 => aldI h r3 [3] a1 (fun x4 => fX3_signAt_24 c h x4))) else (fX3_signAt_22 c h))))
set_option maxHeartbeats 4000000 in
set_option maxRecDepth 100000 in
theorem soX3_signAt (X : Cx) (h : Hp) (a0 : Option Nat) (a1 : Int32) : SO X mX3_signAt [.inr (.inr a0), .inl a1] h (fX3_signAt X.2.2.2 h a0 a1) := by
  refine so_of (by decide +kernel) (Nat.le_of_ble_eq_true rfl) ?_
  show Gd X mX3_signAt h (fX3_signAt X.2.2.2 h a0 a1) h 0 [some (.inr (.inr a0)), some (.inl a1)] []
  unfold fX3_signAt
  refine q_run tkX3_signAt 0 1 (pc' := 1) (L' := [some (.inr (.inr a0)), some (.inl a1)]) (st' := [.inl a1]) rfl ?_
  refine q_if_lt (tbm tkX3_signAt (i := 1) rfl) ?_ ?_
  · refine q_le (L' := [none, none]) (lvLe_n (lvLe_n lvLe_0)) ?_
    exact sX3_signAt_22 X h
  · refine q_run tkX3_signAt 2 2 (pc' := 6) (L' := [some (.inr (.inr a0)), some (.inl a1)]) (st' := [.inr (.inr a0), .inl a1]) rfl ?_
    refine q_rdR RX3 TX3 6 (tbm tkX3_signAt (i := 4) rfl) rfl (Nat.le_of_ble_eq_true rfl) wd_289 (fun r1 => ?_)
    refine q_alen (tbm tkX3_signAt (i := 5) rfl) (fun x2 => ?_)
    refine q_icmp_ge (tbm tkX3_signAt (i := 6) rfl) ?_ ?_
    · refine q_run tkX3_signAt 7 1 (pc' := 14) (L' := [some (.inr (.inr a0)), some (.inl a1)]) (st' := [.inr (.inr a0)]) rfl ?_
      refine q_rdR RX3 TX3 6 (tbm tkX3_signAt (i := 8) rfl) rfl (Nat.le_of_ble_eq_true rfl) wd_289 (fun r3 => ?_)
      refine q_run tkX3_signAt 9 1 (pc' := 18) (L' := [some (.inr (.inr a0)), some (.inl a1)]) (st' := [.inl a1, .inr (.inr r3)]) rfl ?_
      refine q_caload (tbm tkX3_signAt (i := 10) rfl) (fun x4 => ?_)
      refine q_run tkX3_signAt 11 1 (pc' := 24) (L' := [some (.inr (.inr a0)), some (.inl a1)]) (st' := [.inl x4]) rfl ?_
      refine q_le (L' := [none, none]) (lvLe_n (lvLe_n lvLe_0)) ?_
      exact sX3_signAt_24 X h x4
    · refine q_le (L' := [none, none]) (lvLe_n (lvLe_n lvLe_0)) ?_
      exact sX3_signAt_22 X h
theorem ceX3_signAt : Ce mX3_signAt 1 := ⟨wd_80, wd_801, by decide +kernel, by decide +kernel, by decide +kernel⟩
/-- ReceiptRolls$State.receiptsWaiting -/
abbrev mX4_receiptsWaiting : MI := (yX4_receiptsWaiting, cX4_receiptsWaiting, 4, some .int, 1)
def tbX4_receiptsWaiting : List TE := [(0, .iconst 0, 1, 0, 0), (1, .istore_n 1, 1, 0, 0), (2, .iconst 0, 1, 0, 0), (3, .istore_n 2, 1, 0, 0), (4, .iload_n 2, 1, 0, 0), (5, .aload_n 0, 1, 0, 0), (6, .invokevirtual 71, 3, 0, 0), (9, .if_icmp .ge 29, 3, 0, 38), (12, .aload_n 0, 1, 0, 0), (13, .iload_n 2, 1, 0, 0), (14, .invokevirtual 75, 3, 0, 0), (17, .astore_n 3, 1, 0, 0), (18, .aload_n 3, 1, 0, 0), (19, .ifnull 13, 3, 0, 32), (22, .aload_n 3, 1, 0, 0), (23, .getfield 79, 3, 0, 0), (26, .ifCond .ne 6, 3, 0, 32), (29, .iinc 1 1, 3, 1, 0), (32, .iinc 2 1, 3, 1, 0), (35, .goto (-31), 3, 0, 4), (38, .iload_n 1, 1, 0, 0), (39, .ireturn, 1, 0, 0)]
theorem tkX4_receiptsWaiting : ∀ x ∈ tbX4_receiptsWaiting, tbB cX4_receiptsWaiting x = true := tb_all (by decide +kernel)
def fX4_receiptsWaiting_32 (c : Nat → Option Nat) (k4 : Hp → Option Nat → Int32 → Int32 → Rs) (h : Hp) (l0 : Option Nat) (l1 : Int32) (l2 : Int32) : Rs := k4 h l0 l1 (l2 + (1 : Int32))
set_option maxHeartbeats 4000000 in
set_option maxRecDepth 100000 in
theorem sX4_receiptsWaiting_32 (X : Cx) {h0 : Hp} (k4 : Hp → Option Nat → Int32 → Int32 → Rs) (hk4 : ∀ (h : Hp) (l0 : Option Nat) (l1 : Int32) (l2 : Int32), Gd X mX4_receiptsWaiting h0 (k4 h l0 l1 l2) h 4 [some (.inr (.inr l0)), some (.inl l1), some (.inl l2), none] []) (h : Hp) (l0 : Option Nat) (l1 : Int32) (l2 : Int32) : Gd X mX4_receiptsWaiting h0 (fX4_receiptsWaiting_32 X.2.2.2 k4 h l0 l1 l2) h 32 [some (.inr (.inr l0)), some (.inl l1), some (.inl l2), none] [] := by
  unfold fX4_receiptsWaiting_32
  refine q_run tkX4_receiptsWaiting 18 2 (pc' := 4) (L' := [some (.inr (.inr l0)), some (.inl l1), some (.inl (l2 + (1 : Int32))), none]) (st' := []) rfl ?_
  exact hk4 h l0 l1 (l2 + (1 : Int32))
def fX4_receiptsWaiting_4 (c : Nat → Option Nat) : Nat → Hp → Option Nat → Int32 → Int32 → Rs
  | 0, _, _, _, _ => none
  | n + 1, h, l0, l1, l2 => ck h l0 6 (cc (fX4_places c h l0) (kI fun h1 x2 => if l2 < x2 then (ck h1 l0 6 (cc (fX4_placeAt c h1 l0 l2) (kR fun h3 r4 => ifN r4 (fX4_receiptsWaiting_32 c (fX4_receiptsWaiting_4 c n) h3 l0 l1 l2) (rdI h3 r4 4 3 (fun x5 => if x5 = 0 then (fX4_receiptsWaiting_32 c (fX4_receiptsWaiting_4 c n) h3 l0 (l1 + (1 : Int32)) l2) else (fX4_receiptsWaiting_32 c (fX4_receiptsWaiting_4 c n) h3 l0 l1 l2)))))) else (some (h1, some (.inl l1)))))
set_option maxHeartbeats 4000000 in
set_option maxRecDepth 100000 in
theorem sX4_receiptsWaiting_4 (X : Cx) {h0 : Hp} : ∀ (n : Nat) (h : Hp) (l0 : Option Nat) (l1 : Int32) (l2 : Int32), Gd X mX4_receiptsWaiting h0 (fX4_receiptsWaiting_4 X.2.2.2 n h l0 l1 l2) h 4 [some (.inr (.inr l0)), some (.inl l1), some (.inl l2), none] [] := by
  intro n
  induction n with
  | zero => intros; exact gd_none
  | succ n ih =>
    intro h l0 l1 l2
    unfold fX4_receiptsWaiting_4
    refine q_run tkX4_receiptsWaiting 4 2 (pc' := 6) (L' := [some (.inr (.inr l0)), some (.inl l1), some (.inl l2), none]) (st' := [.inr (.inr l0), .inl l2]) rfl ?_
    refine q_cv (r := l0) (ci := 6) (n := 0) (as := []) (st := [.inl l2]) TX4 13 (soX4_places X h l0) (tbm tkX4_receiptsWaiting (i := 6) rfl) rfl rfl ceX4_places wd_716 wd_717 wd_715 rfl (Nat.le_of_ble_eq_true rfl) (kI_gd (fun h1 x2 => ?_))
    refine q_icmp_ge (tbm tkX4_receiptsWaiting (i := 7) rfl) ?_ ?_
    · refine q_run tkX4_receiptsWaiting 8 2 (pc' := 14) (L' := [some (.inr (.inr l0)), some (.inl l1), some (.inl l2), none]) (st' := [.inl l2, .inr (.inr l0)]) rfl ?_
      refine q_cv (r := l0) (ci := 6) (n := 1) (as := [.inl l2]) (st := []) TX4 13 (soX4_placeAt X h1 l0 l2) (tbm tkX4_receiptsWaiting (i := 10) rfl) rfl rfl ceX4_placeAt wd_720 wd_721 wd_719 rfl (Nat.le_of_ble_eq_true rfl) (kR_gd (fun h3 r4 => ?_))
      refine q_run tkX4_receiptsWaiting 11 2 (pc' := 19) (L' := [some (.inr (.inr l0)), some (.inl l1), some (.inl l2), some (.inr (.inr r4))]) (st' := [.inr (.inr r4)]) rfl ?_
      refine q_ifnull (tbm tkX4_receiptsWaiting (i := 13) rfl) ?_ ?_
      · refine q_le (L' := [some (.inr (.inr l0)), some (.inl l1), some (.inl l2), none]) (lvLe_s (lvLe_s (lvLe_s (lvLe_n lvLe_0)))) ?_
        exact sX4_receiptsWaiting_32 X (fX4_receiptsWaiting_4 X.2.2.2 n) ih h3 l0 l1 l2
      · refine q_run tkX4_receiptsWaiting 14 1 (pc' := 23) (L' := [some (.inr (.inr l0)), some (.inl l1), some (.inl l2), some (.inr (.inr r4))]) (st' := [.inr (.inr r4)]) rfl ?_
        refine q_rdI RX2 TX2 14 (tbm tkX4_receiptsWaiting (i := 15) rfl) rfl (Nat.le_of_ble_eq_true rfl) wd_122 (fun x5 => ?_)
        refine q_if_ne (tbm tkX4_receiptsWaiting (i := 16) rfl) ?_ ?_
        · refine q_run tkX4_receiptsWaiting 17 1 (pc' := 32) (L' := [some (.inr (.inr l0)), some (.inl (l1 + (1 : Int32))), some (.inl l2), some (.inr (.inr r4))]) (st' := []) rfl ?_
          refine q_le (L' := [some (.inr (.inr l0)), some (.inl (l1 + (1 : Int32))), some (.inl l2), none]) (lvLe_s (lvLe_s (lvLe_s (lvLe_n lvLe_0)))) ?_
          exact sX4_receiptsWaiting_32 X (fX4_receiptsWaiting_4 X.2.2.2 n) ih h3 l0 (l1 + (1 : Int32)) l2
        · refine q_le (L' := [some (.inr (.inr l0)), some (.inl l1), some (.inl l2), none]) (lvLe_s (lvLe_s (lvLe_s (lvLe_n lvLe_0)))) ?_
          exact sX4_receiptsWaiting_32 X (fX4_receiptsWaiting_4 X.2.2.2 n) ih h3 l0 l1 l2
    · refine q_run tkX4_receiptsWaiting 20 1 (pc' := 39) (L' := [some (.inr (.inr l0)), some (.inl l1), some (.inl l2), none]) (st' := [.inl l1]) rfl ?_
      exact q_iret (tbm tkX4_receiptsWaiting (i := 21) rfl) rfl
def fX4_receiptsWaiting (c : Nat → Option Nat) (h : Hp) (a0 : Option Nat) : Rs := fX4_receiptsWaiting_4 c FU h a0 (0 : Int32) (0 : Int32)
set_option maxHeartbeats 4000000 in
set_option maxRecDepth 100000 in
theorem soX4_receiptsWaiting (X : Cx) (h : Hp) (a0 : Option Nat) : SO X mX4_receiptsWaiting [.inr (.inr a0)] h (fX4_receiptsWaiting X.2.2.2 h a0) := by
  refine so_of (by decide +kernel) (Nat.le_of_ble_eq_true rfl) ?_
  show Gd X mX4_receiptsWaiting h (fX4_receiptsWaiting X.2.2.2 h a0) h 0 [some (.inr (.inr a0)), none, none, none] []
  unfold fX4_receiptsWaiting
  refine q_run tkX4_receiptsWaiting 0 4 (pc' := 4) (L' := [some (.inr (.inr a0)), some (.inl (0 : Int32)), some (.inl (0 : Int32)), none]) (st' := []) rfl ?_
  exact sX4_receiptsWaiting_4 X FU h a0 (0 : Int32) (0 : Int32)
theorem ceX4_receiptsWaiting : Ce mX4_receiptsWaiting 0 := ⟨wd_73, wd_818, by decide +kernel, by decide +kernel, by decide +kernel⟩
/-- ReceiptRolls$Receipt.linesToPrint -/
abbrev mX2_linesToPrint : MI := (yX2_linesToPrint, cX2_linesToPrint, 1, some .int, 0)
def tbX2_linesToPrint : List TE := [(0, .aload_n 0, 1, 0, 0), (1, .getfield 31, 3, 0, 0), (4, .iconst 2, 1, 2, 0), (5, .if_icmp .ne 7, 3, 0, 12), (8, .iconst 0, 1, 0, 0), (9, .goto 12, 3, 0, 21), (12, .aload_n 0, 1, 0, 0), (13, .getfield 37, 3, 0, 0), (16, .aload_n 0, 1, 0, 0), (17, .getfield 40, 3, 0, 0), (20, .isub, 1, 0, 0), (21, .ireturn, 1, 0, 0)]
theorem tkX2_linesToPrint : ∀ x ∈ tbX2_linesToPrint, tbB cX2_linesToPrint x = true := tb_all (by decide +kernel)
def fX2_linesToPrint_21 (c : Nat → Option Nat) (h : Hp) (s0 : Int32) : Rs := some (h, some (.inl s0))
set_option maxHeartbeats 4000000 in
set_option maxRecDepth 100000 in
theorem sX2_linesToPrint_21 (X : Cx) {h0 : Hp} (h : Hp) (s0 : Int32) : Gd X mX2_linesToPrint h0 (fX2_linesToPrint_21 X.2.2.2 h s0) h 21 [none] [.inl s0] := by
  unfold fX2_linesToPrint_21
  exact q_iret (tbm tkX2_linesToPrint (i := 11) rfl) rfl
def fX2_linesToPrint (c : Nat → Option Nat) (h : Hp) (a0 : Option Nat) : Rs := rdI h a0 4 3 (fun x1 => if x1 = (2 : Int32) then (fX2_linesToPrint_21 c h (0 : Int32)) else (rdI h a0 4 5 (fun x2 => rdI h a0 4 6 (fun x3 => fX2_linesToPrint_21 c h (x2 - x3)))))
set_option maxHeartbeats 4000000 in
set_option maxRecDepth 100000 in
theorem soX2_linesToPrint (X : Cx) (h : Hp) (a0 : Option Nat) : SO X mX2_linesToPrint [.inr (.inr a0)] h (fX2_linesToPrint X.2.2.2 h a0) := by
  refine so_of (by decide +kernel) (Nat.le_of_ble_eq_true rfl) ?_
  show Gd X mX2_linesToPrint h (fX2_linesToPrint X.2.2.2 h a0) h 0 [some (.inr (.inr a0))] []
  unfold fX2_linesToPrint
  refine q_run tkX2_linesToPrint 0 1 (pc' := 1) (L' := [some (.inr (.inr a0))]) (st' := [.inr (.inr a0)]) rfl ?_
  refine q_rdI RX2 TX2 14 (tbm tkX2_linesToPrint (i := 1) rfl) rfl (Nat.le_of_ble_eq_true rfl) wd_120 (fun x1 => ?_)
  refine q_run tkX2_linesToPrint 2 1 (pc' := 5) (L' := [some (.inr (.inr a0))]) (st' := [.inl (2 : Int32), .inl x1]) rfl ?_
  refine q_icmp_ne (tbm tkX2_linesToPrint (i := 3) rfl) ?_ ?_
  · refine q_run tkX2_linesToPrint 4 2 (pc' := 21) (L' := [some (.inr (.inr a0))]) (st' := [.inl (0 : Int32)]) rfl ?_
    refine q_le (L' := [none]) (lvLe_n lvLe_0) ?_
    exact sX2_linesToPrint_21 X h (0 : Int32)
  · refine q_run tkX2_linesToPrint 6 1 (pc' := 13) (L' := [some (.inr (.inr a0))]) (st' := [.inr (.inr a0)]) rfl ?_
    refine q_rdI RX2 TX2 14 (tbm tkX2_linesToPrint (i := 7) rfl) rfl (Nat.le_of_ble_eq_true rfl) wd_125 (fun x2 => ?_)
    refine q_run tkX2_linesToPrint 8 1 (pc' := 17) (L' := [some (.inr (.inr a0))]) (st' := [.inr (.inr a0), .inl x2]) rfl ?_
    refine q_rdI RX2 TX2 14 (tbm tkX2_linesToPrint (i := 9) rfl) rfl (Nat.le_of_ble_eq_true rfl) wd_128 (fun x3 => ?_)
    refine q_run tkX2_linesToPrint 10 1 (pc' := 21) (L' := [some (.inr (.inr a0))]) (st' := [.inl (x2 - x3)]) rfl ?_
    refine q_le (L' := [none]) (lvLe_n lvLe_0) ?_
    exact sX2_linesToPrint_21 X h (x2 - x3)
theorem ceX2_linesToPrint : Ce mX2_linesToPrint 0 := ⟨wd_74, wd_837, by decide +kernel, by decide +kernel, by decide +kernel⟩
/-- ReceiptRolls$State.linesUntilDone -/
abbrev mX4_linesUntilDone : MI := (yX4_linesUntilDone, cX4_linesUntilDone, 5, some .int, 1)
def tbX4_linesUntilDone : List TE := [(0, .aload_n 1, 1, 0, 0), (1, .invokevirtual 122, 3, 0, 0), (4, .istore_n 2, 1, 0, 0), (5, .iconst 0, 1, 0, 0), (6, .istore_n 3, 1, 0, 0), (7, .iload_n 3, 1, 0, 0), (8, .aload_n 0, 1, 0, 0), (9, .invokevirtual 71, 3, 0, 0), (12, .if_icmp .ge 47, 3, 0, 59), (15, .aload_n 0, 1, 0, 0), (16, .iload_n 3, 1, 0, 0), (17, .invokevirtual 75, 3, 0, 0), (20, .astore 4, 2, 0, 0), (22, .aload 4, 2, 0, 0), (24, .ifnull 29, 3, 0, 53), (27, .aload 4, 2, 0, 0), (29, .getfield 79, 3, 0, 0), (32, .iconst 2, 1, 2, 0), (33, .if_icmp .eq 20, 3, 0, 53), (36, .aload 4, 2, 0, 0), (38, .aload_n 1, 1, 0, 0), (39, .invokevirtual 86, 3, 0, 0), (42, .ifCond .eq 11, 3, 0, 53), (45, .iload_n 2, 1, 0, 0), (46, .aload 4, 2, 0, 0), (48, .invokevirtual 122, 3, 0, 0), (51, .iadd, 1, 0, 0), (52, .istore_n 2, 1, 0, 0), (53, .iinc 3 1, 3, 1, 0), (56, .goto (-49), 3, 0, 7), (59, .iload_n 2, 1, 0, 0), (60, .ireturn, 1, 0, 0)]
theorem tkX4_linesUntilDone : ∀ x ∈ tbX4_linesUntilDone, tbB cX4_linesUntilDone x = true := tb_all (by decide +kernel)
def fX4_linesUntilDone_53 (c : Nat → Option Nat) (k7 : Hp → Option Nat → Option Nat → Int32 → Int32 → Rs) (h : Hp) (l0 : Option Nat) (l1 : Option Nat) (l2 : Int32) (l3 : Int32) : Rs := k7 h l0 l1 l2 (l3 + (1 : Int32))
set_option maxHeartbeats 4000000 in
set_option maxRecDepth 100000 in
theorem sX4_linesUntilDone_53 (X : Cx) {h0 : Hp} (k7 : Hp → Option Nat → Option Nat → Int32 → Int32 → Rs) (hk7 : ∀ (h : Hp) (l0 : Option Nat) (l1 : Option Nat) (l2 : Int32) (l3 : Int32), Gd X mX4_linesUntilDone h0 (k7 h l0 l1 l2 l3) h 7 [some (.inr (.inr l0)), some (.inr (.inr l1)), some (.inl l2), some (.inl l3), none] []) (h : Hp) (l0 : Option Nat) (l1 : Option Nat) (l2 : Int32) (l3 : Int32) : Gd X mX4_linesUntilDone h0 (fX4_linesUntilDone_53 X.2.2.2 k7 h l0 l1 l2 l3) h 53 [some (.inr (.inr l0)), some (.inr (.inr l1)), some (.inl l2), some (.inl l3), none] [] := by
  unfold fX4_linesUntilDone_53
  refine q_run tkX4_linesUntilDone 28 2 (pc' := 7) (L' := [some (.inr (.inr l0)), some (.inr (.inr l1)), some (.inl l2), some (.inl (l3 + (1 : Int32))), none]) (st' := []) rfl ?_
  exact hk7 h l0 l1 l2 (l3 + (1 : Int32))
def fX4_linesUntilDone_7 (c : Nat → Option Nat) : Nat → Hp → Option Nat → Option Nat → Int32 → Int32 → Rs
  | 0, _, _, _, _, _ => none
  | n + 1, h, l0, l1, l2, l3 => ck h l0 6 (cc (fX4_places c h l0) (kI fun h1 x2 => if l3 < x2 then (ck h1 l0 6 (cc (fX4_placeAt c h1 l0 l3) (kR fun h3 r4 => ifN r4 (fX4_linesUntilDone_53 c (fX4_linesUntilDone_7 c n) h3 l0 l1 l2 l3) (rdI h3 r4 4 3 (fun x5 => if x5 = (2 : Int32) then (fX4_linesUntilDone_53 c (fX4_linesUntilDone_7 c n) h3 l0 l1 l2 l3) else (ck h3 r4 4 (cc (fX2_isAheadOf c h3 r4 l1) (kI fun h6 x7 => if x7 = 0 then (fX4_linesUntilDone_53 c (fX4_linesUntilDone_7 c n) h6 l0 l1 l2 l3) else (ck h6 r4 4 (cc (fX2_linesToPrint c h6 r4) (kI fun h8 x9 => fX4_linesUntilDone_53 c (fX4_linesUntilDone_7 c n) h8 l0 l1 (l2 + x9) l3))))))))))) else (some (h1, some (.inl l2)))))
set_option maxHeartbeats 4000000 in
set_option maxRecDepth 100000 in
theorem sX4_linesUntilDone_7 (X : Cx) {h0 : Hp} : ∀ (n : Nat) (h : Hp) (l0 : Option Nat) (l1 : Option Nat) (l2 : Int32) (l3 : Int32), Gd X mX4_linesUntilDone h0 (fX4_linesUntilDone_7 X.2.2.2 n h l0 l1 l2 l3) h 7 [some (.inr (.inr l0)), some (.inr (.inr l1)), some (.inl l2), some (.inl l3), none] [] := by
  intro n
  induction n with
  | zero => intros; exact gd_none
  | succ n ih =>
    intro h l0 l1 l2 l3
    unfold fX4_linesUntilDone_7
    refine q_run tkX4_linesUntilDone 5 2 (pc' := 9) (L' := [some (.inr (.inr l0)), some (.inr (.inr l1)), some (.inl l2), some (.inl l3), none]) (st' := [.inr (.inr l0), .inl l3]) rfl ?_
    refine q_cv (r := l0) (ci := 6) (n := 0) (as := []) (st := [.inl l3]) TX4 13 (soX4_places X h l0) (tbm tkX4_linesUntilDone (i := 7) rfl) rfl rfl ceX4_places wd_716 wd_717 wd_715 rfl (Nat.le_of_ble_eq_true rfl) (kI_gd (fun h1 x2 => ?_))
    refine q_icmp_ge (tbm tkX4_linesUntilDone (i := 8) rfl) ?_ ?_
    · refine q_run tkX4_linesUntilDone 9 2 (pc' := 17) (L' := [some (.inr (.inr l0)), some (.inr (.inr l1)), some (.inl l2), some (.inl l3), none]) (st' := [.inl l3, .inr (.inr l0)]) rfl ?_
      refine q_cv (r := l0) (ci := 6) (n := 1) (as := [.inl l3]) (st := []) TX4 13 (soX4_placeAt X h1 l0 l3) (tbm tkX4_linesUntilDone (i := 11) rfl) rfl rfl ceX4_placeAt wd_720 wd_721 wd_719 rfl (Nat.le_of_ble_eq_true rfl) (kR_gd (fun h3 r4 => ?_))
      refine q_run tkX4_linesUntilDone 12 2 (pc' := 24) (L' := [some (.inr (.inr l0)), some (.inr (.inr l1)), some (.inl l2), some (.inl l3), some (.inr (.inr r4))]) (st' := [.inr (.inr r4)]) rfl ?_
      refine q_ifnull (tbm tkX4_linesUntilDone (i := 14) rfl) ?_ ?_
      · refine q_le (L' := [some (.inr (.inr l0)), some (.inr (.inr l1)), some (.inl l2), some (.inl l3), none]) (lvLe_s (lvLe_s (lvLe_s (lvLe_s (lvLe_n lvLe_0))))) ?_
        exact sX4_linesUntilDone_53 X (fX4_linesUntilDone_7 X.2.2.2 n) ih h3 l0 l1 l2 l3
      · refine q_run tkX4_linesUntilDone 15 1 (pc' := 29) (L' := [some (.inr (.inr l0)), some (.inr (.inr l1)), some (.inl l2), some (.inl l3), some (.inr (.inr r4))]) (st' := [.inr (.inr r4)]) rfl ?_
        refine q_rdI RX2 TX2 14 (tbm tkX4_linesUntilDone (i := 16) rfl) rfl (Nat.le_of_ble_eq_true rfl) wd_122 (fun x5 => ?_)
        refine q_run tkX4_linesUntilDone 17 1 (pc' := 33) (L' := [some (.inr (.inr l0)), some (.inr (.inr l1)), some (.inl l2), some (.inl l3), some (.inr (.inr r4))]) (st' := [.inl (2 : Int32), .inl x5]) rfl ?_
        refine q_icmp_eq (tbm tkX4_linesUntilDone (i := 18) rfl) ?_ ?_
        · refine q_le (L' := [some (.inr (.inr l0)), some (.inr (.inr l1)), some (.inl l2), some (.inl l3), none]) (lvLe_s (lvLe_s (lvLe_s (lvLe_s (lvLe_n lvLe_0))))) ?_
          exact sX4_linesUntilDone_53 X (fX4_linesUntilDone_7 X.2.2.2 n) ih h3 l0 l1 l2 l3
        · refine q_run tkX4_linesUntilDone 19 2 (pc' := 39) (L' := [some (.inr (.inr l0)), some (.inr (.inr l1)), some (.inl l2), some (.inl l3), some (.inr (.inr r4))]) (st' := [.inr (.inr l1), .inr (.inr r4)]) rfl ?_
          refine q_cv (r := r4) (ci := 4) (n := 1) (as := [.inr (.inr l1)]) (st := []) TX2 14 (soX2_isAheadOf X h3 r4 l1) (tbm tkX4_linesUntilDone (i := 21) rfl) rfl rfl ceX2_isAheadOf wd_757 wd_758 wd_756 rfl (Nat.le_of_ble_eq_true rfl) (kI_gd (fun h6 x7 => ?_))
          refine q_if_eq (tbm tkX4_linesUntilDone (i := 22) rfl) ?_ ?_
          · refine q_le (L' := [some (.inr (.inr l0)), some (.inr (.inr l1)), some (.inl l2), some (.inl l3), none]) (lvLe_s (lvLe_s (lvLe_s (lvLe_s (lvLe_n lvLe_0))))) ?_
            exact sX4_linesUntilDone_53 X (fX4_linesUntilDone_7 X.2.2.2 n) ih h6 l0 l1 l2 l3
          · refine q_run tkX4_linesUntilDone 23 2 (pc' := 48) (L' := [some (.inr (.inr l0)), some (.inr (.inr l1)), some (.inl l2), some (.inl l3), some (.inr (.inr r4))]) (st' := [.inr (.inr r4), .inl l2]) rfl ?_
            refine q_cv (r := r4) (ci := 4) (n := 0) (as := []) (st := [.inl l2]) TX2 14 (soX2_linesToPrint X h6 r4) (tbm tkX4_linesUntilDone (i := 25) rfl) rfl rfl ceX2_linesToPrint wd_835 wd_836 wd_834 rfl (Nat.le_of_ble_eq_true rfl) (kI_gd (fun h8 x9 => ?_))
            refine q_run tkX4_linesUntilDone 26 2 (pc' := 53) (L' := [some (.inr (.inr l0)), some (.inr (.inr l1)), some (.inl (l2 + x9)), some (.inl l3), some (.inr (.inr r4))]) (st' := []) rfl ?_
            refine q_le (L' := [some (.inr (.inr l0)), some (.inr (.inr l1)), some (.inl (l2 + x9)), some (.inl l3), none]) (lvLe_s (lvLe_s (lvLe_s (lvLe_s (lvLe_n lvLe_0))))) ?_
            exact sX4_linesUntilDone_53 X (fX4_linesUntilDone_7 X.2.2.2 n) ih h8 l0 l1 (l2 + x9) l3
    · refine q_run tkX4_linesUntilDone 30 1 (pc' := 60) (L' := [some (.inr (.inr l0)), some (.inr (.inr l1)), some (.inl l2), some (.inl l3), none]) (st' := [.inl l2]) rfl ?_
      exact q_iret (tbm tkX4_linesUntilDone (i := 31) rfl) rfl
def fX4_linesUntilDone (c : Nat → Option Nat) (h : Hp) (a0 : Option Nat) (a1 : Option Nat) : Rs := ck h a1 4 (cc (fX2_linesToPrint c h a1) (kI fun h10 x11 => fX4_linesUntilDone_7 c FU h10 a0 a1 x11 (0 : Int32)))
set_option maxHeartbeats 4000000 in
set_option maxRecDepth 100000 in
theorem soX4_linesUntilDone (X : Cx) (h : Hp) (a0 : Option Nat) (a1 : Option Nat) : SO X mX4_linesUntilDone [.inr (.inr a0), .inr (.inr a1)] h (fX4_linesUntilDone X.2.2.2 h a0 a1) := by
  refine so_of (by decide +kernel) (Nat.le_of_ble_eq_true rfl) ?_
  show Gd X mX4_linesUntilDone h (fX4_linesUntilDone X.2.2.2 h a0 a1) h 0 [some (.inr (.inr a0)), some (.inr (.inr a1)), none, none, none] []
  unfold fX4_linesUntilDone
  refine q_run tkX4_linesUntilDone 0 1 (pc' := 1) (L' := [some (.inr (.inr a0)), some (.inr (.inr a1)), none, none, none]) (st' := [.inr (.inr a1)]) rfl ?_
  refine q_cv (r := a1) (ci := 4) (n := 0) (as := []) (st := []) TX2 14 (soX2_linesToPrint X h a1) (tbm tkX4_linesUntilDone (i := 1) rfl) rfl rfl ceX2_linesToPrint wd_835 wd_836 wd_834 rfl (Nat.le_of_ble_eq_true rfl) (kI_gd (fun h10 x11 => ?_))
  refine q_run tkX4_linesUntilDone 2 3 (pc' := 7) (L' := [some (.inr (.inr a0)), some (.inr (.inr a1)), some (.inl x11), some (.inl (0 : Int32)), none]) (st' := []) rfl ?_
  exact sX4_linesUntilDone_7 X FU h10 a0 a1 x11 (0 : Int32)
theorem ceX4_linesUntilDone : Ce mX4_linesUntilDone 1 := ⟨wd_73, wd_833, by decide +kernel, by decide +kernel, by decide +kernel⟩
/-- ReceiptRolls$State.ticksFor -/
abbrev mX4_ticksFor : MI := (yX4_ticksFor, cX4_ticksFor, 3, some .int, 1)
def tbX4_ticksFor : List TE := [(0, .aload_n 0, 1, 0, 0), (1, .iconst 2, 1, 2, 0), (2, .invokevirtual 64, 3, 0, 0), (5, .istore_n 2, 1, 0, 0), (6, .iload_n 2, 1, 0, 0), (7, .ifCond .gt 7, 3, 0, 14), (10, .iconst 0, 1, 0, 0), (11, .goto 10, 3, 0, 21), (14, .iload_n 1, 1, 0, 0), (15, .iload_n 2, 1, 0, 0), (16, .iadd, 1, 0, 0), (17, .iconst 1, 1, 1, 0), (18, .isub, 1, 0, 0), (19, .iload_n 2, 1, 0, 0), (20, .idiv, 1, 0, 0), (21, .ireturn, 1, 0, 0)]
theorem tkX4_ticksFor : ∀ x ∈ tbX4_ticksFor, tbB cX4_ticksFor x = true := tb_all (by decide +kernel)
def fX4_ticksFor_21 (c : Nat → Option Nat) (h : Hp) (s0 : Int32) : Rs := some (h, some (.inl s0))
set_option maxHeartbeats 4000000 in
set_option maxRecDepth 100000 in
theorem sX4_ticksFor_21 (X : Cx) {h0 : Hp} (h : Hp) (s0 : Int32) : Gd X mX4_ticksFor h0 (fX4_ticksFor_21 X.2.2.2 h s0) h 21 [none, none, none] [.inl s0] := by
  unfold fX4_ticksFor_21
  exact q_iret (tbm tkX4_ticksFor (i := 15) rfl) rfl
def fX4_ticksFor (c : Nat → Option Nat) (h : Hp) (a0 : Option Nat) (a1 : Int32) : Rs := ck h a0 6 (cc (fX4_settingAt c h a0 (2 : Int32)) (kI fun h1 x2 => if 0 < x2 then (dv x2 (fX4_ticksFor_21 c h1 (((a1 + x2) - (1 : Int32)) / x2))) else (fX4_ticksFor_21 c h1 (0 : Int32))))
set_option maxHeartbeats 4000000 in
set_option maxRecDepth 100000 in
theorem soX4_ticksFor (X : Cx) (h : Hp) (a0 : Option Nat) (a1 : Int32) : SO X mX4_ticksFor [.inr (.inr a0), .inl a1] h (fX4_ticksFor X.2.2.2 h a0 a1) := by
  refine so_of (by decide +kernel) (Nat.le_of_ble_eq_true rfl) ?_
  show Gd X mX4_ticksFor h (fX4_ticksFor X.2.2.2 h a0 a1) h 0 [some (.inr (.inr a0)), some (.inl a1), none] []
  unfold fX4_ticksFor
  refine q_run tkX4_ticksFor 0 2 (pc' := 2) (L' := [some (.inr (.inr a0)), some (.inl a1), none]) (st' := [.inl (2 : Int32), .inr (.inr a0)]) rfl ?_
  refine q_cv (r := a0) (ci := 6) (n := 1) (as := [.inl (2 : Int32)]) (st := []) TX4 13 (soX4_settingAt X h a0 (2 : Int32)) (tbm tkX4_ticksFor (i := 2) rfl) rfl rfl ceX4_settingAt wd_352 wd_353 wd_351 rfl (Nat.le_of_ble_eq_true rfl) (kI_gd (fun h1 x2 => ?_))
  refine q_run tkX4_ticksFor 3 2 (pc' := 7) (L' := [some (.inr (.inr a0)), some (.inl a1), some (.inl x2)]) (st' := [.inl x2]) rfl ?_
  refine q_if_gt (tbm tkX4_ticksFor (i := 5) rfl) ?_ ?_
  · refine q_run tkX4_ticksFor 8 6 (pc' := 20) (L' := [some (.inr (.inr a0)), some (.inl a1), some (.inl x2)]) (st' := [.inl x2, .inl ((a1 + x2) - (1 : Int32))]) rfl ?_
    refine q_div (tbm tkX4_ticksFor (i := 14) rfl) ?_
    refine q_le (L' := [none, none, none]) (lvLe_n (lvLe_n (lvLe_n lvLe_0))) ?_
    exact sX4_ticksFor_21 X h1 (((a1 + x2) - (1 : Int32)) / x2)
  · refine q_run tkX4_ticksFor 6 2 (pc' := 21) (L' := [some (.inr (.inr a0)), some (.inl a1), some (.inl x2)]) (st' := [.inl (0 : Int32)]) rfl ?_
    refine q_le (L' := [none, none, none]) (lvLe_n (lvLe_n (lvLe_n lvLe_0))) ?_
    exact sX4_ticksFor_21 X h1 (0 : Int32)
theorem ceX4_ticksFor : Ce mX4_ticksFor 1 := ⟨wd_73, wd_841, by decide +kernel, by decide +kernel, by decide +kernel⟩
/-- ReceiptRolls$State.linesToPrint -/
abbrev mX4_linesToPrint : MI := (yX4_linesToPrint, cX4_linesToPrint, 4, some .int, 1)
def tbX4_linesToPrint : List TE := [(0, .iconst 0, 1, 0, 0), (1, .istore_n 1, 1, 0, 0), (2, .iconst 0, 1, 0, 0), (3, .istore_n 2, 1, 0, 0), (4, .iload_n 2, 1, 0, 0), (5, .aload_n 0, 1, 0, 0), (6, .invokevirtual 71, 3, 0, 0), (9, .if_icmp .ge 26, 3, 0, 35), (12, .aload_n 0, 1, 0, 0), (13, .iload_n 2, 1, 0, 0), (14, .invokevirtual 75, 3, 0, 0), (17, .astore_n 3, 1, 0, 0), (18, .aload_n 3, 1, 0, 0), (19, .ifnull 10, 3, 0, 29), (22, .iload_n 1, 1, 0, 0), (23, .aload_n 3, 1, 0, 0), (24, .invokevirtual 122, 3, 0, 0), (27, .iadd, 1, 0, 0), (28, .istore_n 1, 1, 0, 0), (29, .iinc 2 1, 3, 1, 0), (32, .goto (-28), 3, 0, 4), (35, .iload_n 1, 1, 0, 0), (36, .ireturn, 1, 0, 0)]
theorem tkX4_linesToPrint : ∀ x ∈ tbX4_linesToPrint, tbB cX4_linesToPrint x = true := tb_all (by decide +kernel)
def fX4_linesToPrint_29 (c : Nat → Option Nat) (k4 : Hp → Option Nat → Int32 → Int32 → Rs) (h : Hp) (l0 : Option Nat) (l1 : Int32) (l2 : Int32) : Rs := k4 h l0 l1 (l2 + (1 : Int32))
set_option maxHeartbeats 4000000 in
set_option maxRecDepth 100000 in
theorem sX4_linesToPrint_29 (X : Cx) {h0 : Hp} (k4 : Hp → Option Nat → Int32 → Int32 → Rs) (hk4 : ∀ (h : Hp) (l0 : Option Nat) (l1 : Int32) (l2 : Int32), Gd X mX4_linesToPrint h0 (k4 h l0 l1 l2) h 4 [some (.inr (.inr l0)), some (.inl l1), some (.inl l2), none] []) (h : Hp) (l0 : Option Nat) (l1 : Int32) (l2 : Int32) : Gd X mX4_linesToPrint h0 (fX4_linesToPrint_29 X.2.2.2 k4 h l0 l1 l2) h 29 [some (.inr (.inr l0)), some (.inl l1), some (.inl l2), none] [] := by
  unfold fX4_linesToPrint_29
  refine q_run tkX4_linesToPrint 19 2 (pc' := 4) (L' := [some (.inr (.inr l0)), some (.inl l1), some (.inl (l2 + (1 : Int32))), none]) (st' := []) rfl ?_
  exact hk4 h l0 l1 (l2 + (1 : Int32))
def fX4_linesToPrint_4 (c : Nat → Option Nat) : Nat → Hp → Option Nat → Int32 → Int32 → Rs
  | 0, _, _, _, _ => none
  | n + 1, h, l0, l1, l2 => ck h l0 6 (cc (fX4_places c h l0) (kI fun h1 x2 => if l2 < x2 then (ck h1 l0 6 (cc (fX4_placeAt c h1 l0 l2) (kR fun h3 r4 => ifN r4 (fX4_linesToPrint_29 c (fX4_linesToPrint_4 c n) h3 l0 l1 l2) (ck h3 r4 4 (cc (fX2_linesToPrint c h3 r4) (kI fun h5 x6 => fX4_linesToPrint_29 c (fX4_linesToPrint_4 c n) h5 l0 (l1 + x6) l2)))))) else (some (h1, some (.inl l1)))))
set_option maxHeartbeats 4000000 in
set_option maxRecDepth 100000 in
theorem sX4_linesToPrint_4 (X : Cx) {h0 : Hp} : ∀ (n : Nat) (h : Hp) (l0 : Option Nat) (l1 : Int32) (l2 : Int32), Gd X mX4_linesToPrint h0 (fX4_linesToPrint_4 X.2.2.2 n h l0 l1 l2) h 4 [some (.inr (.inr l0)), some (.inl l1), some (.inl l2), none] [] := by
  intro n
  induction n with
  | zero => intros; exact gd_none
  | succ n ih =>
    intro h l0 l1 l2
    unfold fX4_linesToPrint_4
    refine q_run tkX4_linesToPrint 4 2 (pc' := 6) (L' := [some (.inr (.inr l0)), some (.inl l1), some (.inl l2), none]) (st' := [.inr (.inr l0), .inl l2]) rfl ?_
    refine q_cv (r := l0) (ci := 6) (n := 0) (as := []) (st := [.inl l2]) TX4 13 (soX4_places X h l0) (tbm tkX4_linesToPrint (i := 6) rfl) rfl rfl ceX4_places wd_716 wd_717 wd_715 rfl (Nat.le_of_ble_eq_true rfl) (kI_gd (fun h1 x2 => ?_))
    refine q_icmp_ge (tbm tkX4_linesToPrint (i := 7) rfl) ?_ ?_
    · refine q_run tkX4_linesToPrint 8 2 (pc' := 14) (L' := [some (.inr (.inr l0)), some (.inl l1), some (.inl l2), none]) (st' := [.inl l2, .inr (.inr l0)]) rfl ?_
      refine q_cv (r := l0) (ci := 6) (n := 1) (as := [.inl l2]) (st := []) TX4 13 (soX4_placeAt X h1 l0 l2) (tbm tkX4_linesToPrint (i := 10) rfl) rfl rfl ceX4_placeAt wd_720 wd_721 wd_719 rfl (Nat.le_of_ble_eq_true rfl) (kR_gd (fun h3 r4 => ?_))
      refine q_run tkX4_linesToPrint 11 2 (pc' := 19) (L' := [some (.inr (.inr l0)), some (.inl l1), some (.inl l2), some (.inr (.inr r4))]) (st' := [.inr (.inr r4)]) rfl ?_
      refine q_ifnull (tbm tkX4_linesToPrint (i := 13) rfl) ?_ ?_
      · refine q_le (L' := [some (.inr (.inr l0)), some (.inl l1), some (.inl l2), none]) (lvLe_s (lvLe_s (lvLe_s (lvLe_n lvLe_0)))) ?_
        exact sX4_linesToPrint_29 X (fX4_linesToPrint_4 X.2.2.2 n) ih h3 l0 l1 l2
      · refine q_run tkX4_linesToPrint 14 2 (pc' := 24) (L' := [some (.inr (.inr l0)), some (.inl l1), some (.inl l2), some (.inr (.inr r4))]) (st' := [.inr (.inr r4), .inl l1]) rfl ?_
        refine q_cv (r := r4) (ci := 4) (n := 0) (as := []) (st := [.inl l1]) TX2 14 (soX2_linesToPrint X h3 r4) (tbm tkX4_linesToPrint (i := 16) rfl) rfl rfl ceX2_linesToPrint wd_835 wd_836 wd_834 rfl (Nat.le_of_ble_eq_true rfl) (kI_gd (fun h5 x6 => ?_))
        refine q_run tkX4_linesToPrint 17 2 (pc' := 29) (L' := [some (.inr (.inr l0)), some (.inl (l1 + x6)), some (.inl l2), some (.inr (.inr r4))]) (st' := []) rfl ?_
        refine q_le (L' := [some (.inr (.inr l0)), some (.inl (l1 + x6)), some (.inl l2), none]) (lvLe_s (lvLe_s (lvLe_s (lvLe_n lvLe_0)))) ?_
        exact sX4_linesToPrint_29 X (fX4_linesToPrint_4 X.2.2.2 n) ih h5 l0 (l1 + x6) l2
    · refine q_run tkX4_linesToPrint 21 1 (pc' := 36) (L' := [some (.inr (.inr l0)), some (.inl l1), some (.inl l2), none]) (st' := [.inl l1]) rfl ?_
      exact q_iret (tbm tkX4_linesToPrint (i := 22) rfl) rfl
def fX4_linesToPrint (c : Nat → Option Nat) (h : Hp) (a0 : Option Nat) : Rs := fX4_linesToPrint_4 c FU h a0 (0 : Int32) (0 : Int32)
set_option maxHeartbeats 4000000 in
set_option maxRecDepth 100000 in
theorem soX4_linesToPrint (X : Cx) (h : Hp) (a0 : Option Nat) : SO X mX4_linesToPrint [.inr (.inr a0)] h (fX4_linesToPrint X.2.2.2 h a0) := by
  refine so_of (by decide +kernel) (Nat.le_of_ble_eq_true rfl) ?_
  show Gd X mX4_linesToPrint h (fX4_linesToPrint X.2.2.2 h a0) h 0 [some (.inr (.inr a0)), none, none, none] []
  unfold fX4_linesToPrint
  refine q_run tkX4_linesToPrint 0 4 (pc' := 4) (L' := [some (.inr (.inr a0)), some (.inl (0 : Int32)), some (.inl (0 : Int32)), none]) (st' := []) rfl ?_
  exact sX4_linesToPrint_4 X FU h a0 (0 : Int32) (0 : Int32)
theorem ceX4_linesToPrint : Ce mX4_linesToPrint 0 := ⟨wd_73, wd_849, by decide +kernel, by decide +kernel, by decide +kernel⟩
/-- ReceiptRolls$History.giveBack -/
abbrev mX0_giveBack : MI := (yX0_giveBack, cX0_giveBack, 3, none, 3)
def tbX0_giveBack : List TE := [(0, .aload_n 0, 1, 0, 0), (1, .getfield 18, 3, 0, 0), (4, .iconst 1, 1, 1, 0), (5, .isub, 1, 0, 0), (6, .istore_n 2, 1, 0, 0), (7, .iload_n 2, 1, 0, 0), (8, .ifCond .lt 36, 3, 0, 44), (11, .iload_n 2, 1, 0, 0), (12, .aload_n 0, 1, 0, 0), (13, .getfield 11, 3, 0, 0), (16, .arraylength, 1, 0, 0), (17, .if_icmp .ge 27, 3, 0, 44), (20, .aload_n 0, 1, 0, 0), (21, .getfield 11, 3, 0, 0), (24, .iload_n 2, 1, 0, 0), (25, .aaload, 1, 0, 0), (26, .ifnull 18, 3, 0, 44), (29, .aload_n 1, 1, 0, 0), (30, .aload_n 0, 1, 0, 0), (31, .getfield 11, 3, 0, 0), (34, .iload_n 2, 1, 0, 0), (35, .aaload, 1, 0, 0), (36, .invokevirtual 25, 3, 0, 0), (39, .aload_n 0, 1, 0, 0), (40, .iload_n 2, 1, 0, 0), (41, .putfield 18, 3, 0, 0), (44, .return_, 1, 0, 0)]
theorem tkX0_giveBack : ∀ x ∈ tbX0_giveBack, tbB cX0_giveBack x = true := tb_all (by decide +kernel)
def fX0_giveBack_44 (c : Nat → Option Nat) (h : Hp) : Rs := some (h, none)
set_option maxHeartbeats 4000000 in
set_option maxRecDepth 100000 in
theorem sX0_giveBack_44 (X : Cx) {h0 : Hp} (h : Hp) : Gd X mX0_giveBack h0 (fX0_giveBack_44 X.2.2.2 h) h 44 [none, none, none] [] := by
  unfold fX0_giveBack_44
  exact q_vret (tbm tkX0_giveBack (i := 26) rfl) rfl
def fX0_giveBack (c : Nat → Option Nat) (h : Hp) (a0 : Option Nat) (a1 : Option Nat) : Rs := rdI h a0 2 0 (fun x1 => if (x1 - (1 : Int32)) < 0 then (fX0_giveBack_44 c h) else (rdR h a0 2 1 (fun r2 => lenA h r2 (fun x3 => if (x1 - (1 : Int32)) < x3 then (rdR h a0 2 1 (fun r4 => aldR h r4 (x1 - (1 : Int32)) (fun r5 => ifN r5 (fX0_giveBack_44 c h) (rdR h a0 2 1 (fun r6 => aldR h r6 (x1 - (1 : Int32)) (fun r7 => ck h a1 6 (cc (fX4_copyFrom c h a1 r7) (kV fun h8 => wr h8 a0 2 0 (.inl (x1 - (1 : Int32))) (fun h9 => fX0_giveBack_44 c h9))))))))) else (fX0_giveBack_44 c h)))))
set_option maxHeartbeats 4000000 in
set_option maxRecDepth 100000 in
theorem soX0_giveBack (X : Cx) (h : Hp) (a0 : Option Nat) (a1 : Option Nat) : SO X mX0_giveBack [.inr (.inr a0), .inr (.inr a1)] h (fX0_giveBack X.2.2.2 h a0 a1) := by
  refine so_of (by decide +kernel) (Nat.le_of_ble_eq_true rfl) ?_
  show Gd X mX0_giveBack h (fX0_giveBack X.2.2.2 h a0 a1) h 0 [some (.inr (.inr a0)), some (.inr (.inr a1)), none] []
  unfold fX0_giveBack
  refine q_run tkX0_giveBack 0 1 (pc' := 1) (L' := [some (.inr (.inr a0)), some (.inr (.inr a1)), none]) (st' := [.inr (.inr a0)]) rfl ?_
  refine q_rdI RX0 TX0 2 (tbm tkX0_giveBack (i := 1) rfl) rfl (Nat.le_of_ble_eq_true rfl) wd_234 (fun x1 => ?_)
  refine q_run tkX0_giveBack 2 4 (pc' := 8) (L' := [some (.inr (.inr a0)), some (.inr (.inr a1)), some (.inl (x1 - (1 : Int32)))]) (st' := [.inl (x1 - (1 : Int32))]) rfl ?_
  refine q_if_lt (tbm tkX0_giveBack (i := 6) rfl) ?_ ?_
  · refine q_le (L' := [none, none, none]) (lvLe_n (lvLe_n (lvLe_n lvLe_0))) ?_
    exact sX0_giveBack_44 X h
  · refine q_run tkX0_giveBack 7 2 (pc' := 13) (L' := [some (.inr (.inr a0)), some (.inr (.inr a1)), some (.inl (x1 - (1 : Int32)))]) (st' := [.inr (.inr a0), .inl (x1 - (1 : Int32))]) rfl ?_
    refine q_rdR RX0 TX0 2 (tbm tkX0_giveBack (i := 9) rfl) rfl (Nat.le_of_ble_eq_true rfl) wd_236 (fun r2 => ?_)
    refine q_alen (tbm tkX0_giveBack (i := 10) rfl) (fun x3 => ?_)
    refine q_icmp_ge (tbm tkX0_giveBack (i := 11) rfl) ?_ ?_
    · refine q_run tkX0_giveBack 12 1 (pc' := 21) (L' := [some (.inr (.inr a0)), some (.inr (.inr a1)), some (.inl (x1 - (1 : Int32)))]) (st' := [.inr (.inr a0)]) rfl ?_
      refine q_rdR RX0 TX0 2 (tbm tkX0_giveBack (i := 13) rfl) rfl (Nat.le_of_ble_eq_true rfl) wd_236 (fun r4 => ?_)
      refine q_run tkX0_giveBack 14 1 (pc' := 25) (L' := [some (.inr (.inr a0)), some (.inr (.inr a1)), some (.inl (x1 - (1 : Int32)))]) (st' := [.inl (x1 - (1 : Int32)), .inr (.inr r4)]) rfl ?_
      refine q_aaload (tbm tkX0_giveBack (i := 15) rfl) (fun r5 => ?_)
      refine q_ifnull (tbm tkX0_giveBack (i := 16) rfl) ?_ ?_
      · refine q_le (L' := [none, none, none]) (lvLe_n (lvLe_n (lvLe_n lvLe_0))) ?_
        exact sX0_giveBack_44 X h
      · refine q_run tkX0_giveBack 17 2 (pc' := 31) (L' := [some (.inr (.inr a0)), some (.inr (.inr a1)), some (.inl (x1 - (1 : Int32)))]) (st' := [.inr (.inr a0), .inr (.inr a1)]) rfl ?_
        refine q_rdR RX0 TX0 2 (tbm tkX0_giveBack (i := 19) rfl) rfl (Nat.le_of_ble_eq_true rfl) wd_236 (fun r6 => ?_)
        refine q_run tkX0_giveBack 20 1 (pc' := 35) (L' := [some (.inr (.inr a0)), some (.inr (.inr a1)), some (.inl (x1 - (1 : Int32)))]) (st' := [.inl (x1 - (1 : Int32)), .inr (.inr r6), .inr (.inr a1)]) rfl ?_
        refine q_aaload (tbm tkX0_giveBack (i := 21) rfl) (fun r7 => ?_)
        refine q_cv (r := a1) (ci := 6) (n := 1) (as := [.inr (.inr r7)]) (st := []) TX4 13 (soX4_copyFrom X h a1 r7) (tbm tkX0_giveBack (i := 22) rfl) rfl rfl ceX4_copyFrom wd_337 wd_338 wd_336 rfl (Nat.le_of_ble_eq_true rfl) (kV_gd (fun h8 => ?_))
        refine q_run tkX0_giveBack 23 2 (pc' := 41) (L' := [some (.inr (.inr a0)), some (.inr (.inr a1)), some (.inl (x1 - (1 : Int32)))]) (st' := [.inl (x1 - (1 : Int32)), .inr (.inr a0)]) rfl ?_
        refine q_wr RX0 TX0 2 (tbm tkX0_giveBack (i := 25) rfl) rfl (Nat.le_of_ble_eq_true rfl) (Or.inl rfl) wd_234 (fun h9 => ?_)
        refine q_le (L' := [none, none, none]) (lvLe_n (lvLe_n (lvLe_n lvLe_0))) ?_
        exact sX0_giveBack_44 X h9
    · refine q_le (L' := [none, none, none]) (lvLe_n (lvLe_n (lvLe_n lvLe_0))) ?_
      exact sX0_giveBack_44 X h
theorem ceX0_giveBack : Ce mX0_giveBack 1 := ⟨wd_75, wd_916, by decide +kernel, by decide +kernel, by decide +kernel⟩
end
