section
-- ===== PART A: goes FIRST, ahead of the names: the tables' words, and 'selects' of the private methods out of them =====
/-- a private method of a class that the tables say can be made, by its rows of tables_1 -/
def lw_okq (q : MethodName × Nat) : Prop := (q.1.cls ≠ "java/lang/invoke/MethodHandle" ∧ q.1.cls ≠ "java/lang/invoke/VarHandle") ∧ Cond.instantiable q.1.cls q.2 ∈ tables_1 ∧ Cond.privateMethod q.1 ∈ tables_1 ∧ Cond.instanceMethod q.1 ∈ tables_1
theorem lw_p0 : lw_okq (⟨"ReceiptRolls$History", "dropOldest", "()V"⟩, 2) := ⟨⟨by decide +kernel, by decide +kernel⟩, List.mem_of_getElem? (i := 155) (by decide +kernel), List.mem_of_getElem? (i := 262) (by decide +kernel), List.mem_of_getElem? (i := 263) (by decide +kernel)⟩
theorem lw_p1 : lw_okq (⟨"ReceiptRolls", "faultOfPad", "()I"⟩, 5) := ⟨⟨by decide +kernel, by decide +kernel⟩, List.mem_of_getElem? (i := 20) (by decide +kernel), List.mem_of_getElem? (i := 293) (by decide +kernel), List.mem_of_getElem? (i := 294) (by decide +kernel)⟩
theorem lw_p2 : lw_okq (⟨"ReceiptRolls$Receipt", "addEvent", "(I)V"⟩, 14) := ⟨⟨by decide +kernel, by decide +kernel⟩, List.mem_of_getElem? (i := 35) (by decide +kernel), List.mem_of_getElem? (i := 442) (by decide +kernel), List.mem_of_getElem? (i := 443) (by decide +kernel)⟩
theorem lw_p3 : lw_okq (⟨"ReceiptRolls", "layLines", "(LReceiptRolls$Receipt;I)I"⟩, 5) := ⟨⟨by decide +kernel, by decide +kernel⟩, List.mem_of_getElem? (i := 20) (by decide +kernel), List.mem_of_getElem? (i := 520) (by decide +kernel), List.mem_of_getElem? (i := 521) (by decide +kernel)⟩
theorem lw_p4 : lw_okq (⟨"ReceiptRolls$Sheet", "begin", "(II)V"⟩, 6) := ⟨⟨by decide +kernel, by decide +kernel⟩, List.mem_of_getElem? (i := 205) (by decide +kernel), List.mem_of_getElem? (i := 528) (by decide +kernel), List.mem_of_getElem? (i := 529) (by decide +kernel)⟩
theorem lw_p5 : lw_okq (⟨"ReceiptRolls$Sheet", "addText", "(Ljava/lang/String;)V"⟩, 6) := ⟨⟨by decide +kernel, by decide +kernel⟩, List.mem_of_getElem? (i := 205) (by decide +kernel), List.mem_of_getElem? (i := 533) (by decide +kernel), List.mem_of_getElem? (i := 534) (by decide +kernel)⟩
theorem lw_p6 : lw_okq (⟨"ReceiptRolls$Sheet", "addSign", "(C)V"⟩, 6) := ⟨⟨by decide +kernel, by decide +kernel⟩, List.mem_of_getElem? (i := 205) (by decide +kernel), List.mem_of_getElem? (i := 564) (by decide +kernel), List.mem_of_getElem? (i := 565) (by decide +kernel)⟩
theorem lw_p7 : lw_okq (⟨"ReceiptRolls$Sheet", "addNumber", "(I)V"⟩, 6) := ⟨⟨by decide +kernel, by decide +kernel⟩, List.mem_of_getElem? (i := 205) (by decide +kernel), List.mem_of_getElem? (i := 568) (by decide +kernel), List.mem_of_getElem? (i := 569) (by decide +kernel)⟩
theorem lw_p8 : lw_okq (⟨"ReceiptRolls$Sheet", "endLine", "()V"⟩, 6) := ⟨⟨by decide +kernel, by decide +kernel⟩, List.mem_of_getElem? (i := 205) (by decide +kernel), List.mem_of_getElem? (i := 573) (by decide +kernel), List.mem_of_getElem? (i := 574) (by decide +kernel)⟩
theorem lw_p9 : lw_okq (⟨"ReceiptRolls$Sheet", "layItem", "(LReceiptRolls$Item;)V"⟩, 6) := ⟨⟨by decide +kernel, by decide +kernel⟩, List.mem_of_getElem? (i := 205) (by decide +kernel), List.mem_of_getElem? (i := 578) (by decide +kernel), List.mem_of_getElem? (i := 579) (by decide +kernel)⟩
theorem lw_p10 : lw_okq (⟨"ReceiptRolls$Sheet", "layWord", "(Ljava/lang/String;II)V"⟩, 6) := ⟨⟨by decide +kernel, by decide +kernel⟩, List.mem_of_getElem? (i := 205) (by decide +kernel), List.mem_of_getElem? (i := 582) (by decide +kernel), List.mem_of_getElem? (i := 583) (by decide +kernel)⟩
theorem lw_p11 : lw_okq (⟨"ReceiptRolls$Sheet", "addMoney", "(I)V"⟩, 6) := ⟨⟨by decide +kernel, by decide +kernel⟩, List.mem_of_getElem? (i := 205) (by decide +kernel), List.mem_of_getElem? (i := 588) (by decide +kernel), List.mem_of_getElem? (i := 589) (by decide +kernel)⟩
theorem lw_p12 : lw_okq (⟨"ReceiptRolls$Sheet", "layTold", "(Ljava/lang/String;II)V"⟩, 6) := ⟨⟨by decide +kernel, by decide +kernel⟩, List.mem_of_getElem? (i := 205) (by decide +kernel), List.mem_of_getElem? (i := 599) (by decide +kernel), List.mem_of_getElem? (i := 600) (by decide +kernel)⟩
theorem lw_p13 : lw_okq (⟨"ReceiptRolls$State", "printLine", "()Z"⟩, 13) := ⟨⟨by decide +kernel, by decide +kernel⟩, List.mem_of_getElem? (i := 28) (by decide +kernel), List.mem_of_getElem? (i := 669) (by decide +kernel), List.mem_of_getElem? (i := 670) (by decide +kernel)⟩
theorem lw_p14 : lw_okq (⟨"ReceiptRolls$State", "takeReceipt", "()LReceiptRolls$Receipt;"⟩, 13) := ⟨⟨by decide +kernel, by decide +kernel⟩, List.mem_of_getElem? (i := 28) (by decide +kernel), List.mem_of_getElem? (i := 673) (by decide +kernel), List.mem_of_getElem? (i := 674) (by decide +kernel)⟩
theorem lw_p15 : lw_okq (⟨"ReceiptRolls$State", "waitingAheadOf", "(LReceiptRolls$Receipt;)I"⟩, 13) := ⟨⟨by decide +kernel, by decide +kernel⟩, List.mem_of_getElem? (i := 28) (by decide +kernel), List.mem_of_getElem? (i := 682) (by decide +kernel), List.mem_of_getElem? (i := 683) (by decide +kernel)⟩
def lw_privs_1 : List (MethodName × Nat) := [(⟨"ReceiptRolls$History", "dropOldest", "()V"⟩, 2), (⟨"ReceiptRolls", "faultOfPad", "()I"⟩, 5), (⟨"ReceiptRolls$Receipt", "addEvent", "(I)V"⟩, 14), (⟨"ReceiptRolls", "layLines", "(LReceiptRolls$Receipt;I)I"⟩, 5), (⟨"ReceiptRolls$Sheet", "begin", "(II)V"⟩, 6), (⟨"ReceiptRolls$Sheet", "addText", "(Ljava/lang/String;)V"⟩, 6), (⟨"ReceiptRolls$Sheet", "addSign", "(C)V"⟩, 6), (⟨"ReceiptRolls$Sheet", "addNumber", "(I)V"⟩, 6), (⟨"ReceiptRolls$Sheet", "endLine", "()V"⟩, 6), (⟨"ReceiptRolls$Sheet", "layItem", "(LReceiptRolls$Item;)V"⟩, 6), (⟨"ReceiptRolls$Sheet", "layWord", "(Ljava/lang/String;II)V"⟩, 6), (⟨"ReceiptRolls$Sheet", "addMoney", "(I)V"⟩, 6), (⟨"ReceiptRolls$Sheet", "layTold", "(Ljava/lang/String;II)V"⟩, 6), (⟨"ReceiptRolls$State", "printLine", "()Z"⟩, 13), (⟨"ReceiptRolls$State", "takeReceipt", "()LReceiptRolls$Receipt;"⟩, 13), (⟨"ReceiptRolls$State", "waitingAheadOf", "(LReceiptRolls$Receipt;)I"⟩, 13)]
theorem lw_r1 : ∀ q ∈ lw_privs_1, lw_okq q := List.forall_mem_cons.mpr ⟨lw_p0, List.forall_mem_cons.mpr ⟨lw_p1, List.forall_mem_cons.mpr ⟨lw_p2, List.forall_mem_cons.mpr ⟨lw_p3, List.forall_mem_cons.mpr ⟨lw_p4, List.forall_mem_cons.mpr ⟨lw_p5, List.forall_mem_cons.mpr ⟨lw_p6, List.forall_mem_cons.mpr ⟨lw_p7, List.forall_mem_cons.mpr ⟨lw_p8, List.forall_mem_cons.mpr ⟨lw_p9, List.forall_mem_cons.mpr ⟨lw_p10, List.forall_mem_cons.mpr ⟨lw_p11, List.forall_mem_cons.mpr ⟨lw_p12, List.forall_mem_cons.mpr ⟨lw_p13, List.forall_mem_cons.mpr ⟨lw_p14, List.forall_mem_cons.mpr ⟨lw_p15, fun _ h => absurd h List.not_mem_nil⟩⟩⟩⟩⟩⟩⟩⟩⟩⟩⟩⟩⟩⟩⟩⟩
theorem lw_p16 : lw_okq (⟨"ReceiptRolls$State", "finish", "(LReceiptRolls$Receipt;)V"⟩, 13) := ⟨⟨by decide +kernel, by decide +kernel⟩, List.mem_of_getElem? (i := 28) (by decide +kernel), List.mem_of_getElem? (i := 690) (by decide +kernel), List.mem_of_getElem? (i := 691) (by decide +kernel)⟩
theorem lw_p17 : lw_okq (⟨"ReceiptRollsModel", "lay", "(III)V"⟩, 15) := ⟨⟨by decide +kernel, by decide +kernel⟩, List.mem_of_getElem? (i := 856) (by decide +kernel), List.mem_of_getElem? (i := 862) (by decide +kernel), List.mem_of_getElem? (i := 863) (by decide +kernel)⟩
theorem lw_p18 : lw_okq (⟨"ReceiptRollsModel", "records", "()V"⟩, 15) := ⟨⟨by decide +kernel, by decide +kernel⟩, List.mem_of_getElem? (i := 856) (by decide +kernel), List.mem_of_getElem? (i := 926) (by decide +kernel), List.mem_of_getElem? (i := 927) (by decide +kernel)⟩
theorem lw_p19 : lw_okq (⟨"ReceiptRollsModel", "faultAt", "()I"⟩, 15) := ⟨⟨by decide +kernel, by decide +kernel⟩, List.mem_of_getElem? (i := 856) (by decide +kernel), List.mem_of_getElem? (i := 937) (by decide +kernel), List.mem_of_getElem? (i := 938) (by decide +kernel)⟩
theorem lw_p20 : lw_okq (⟨"ReceiptRollsModel", "canStand", "(I)Z"⟩, 15) := ⟨⟨by decide +kernel, by decide +kernel⟩, List.mem_of_getElem? (i := 856) (by decide +kernel), List.mem_of_getElem? (i := 941) (by decide +kernel), List.mem_of_getElem? (i := 942) (by decide +kernel)⟩
theorem lw_p21 : lw_okq (⟨"ReceiptRollsModel", "of", "(II)I"⟩, 15) := ⟨⟨by decide +kernel, by decide +kernel⟩, List.mem_of_getElem? (i := 856) (by decide +kernel), List.mem_of_getElem? (i := 945) (by decide +kernel), List.mem_of_getElem? (i := 946) (by decide +kernel)⟩
theorem lw_p22 : lw_okq (⟨"ReceiptRollsModel", "packsName", "(II)V"⟩, 15) := ⟨⟨by decide +kernel, by decide +kernel⟩, List.mem_of_getElem? (i := 856) (by decide +kernel), List.mem_of_getElem? (i := 949) (by decide +kernel), List.mem_of_getElem? (i := 950) (by decide +kernel)⟩
theorem lw_p23 : lw_okq (⟨"ReceiptRollsModel", "happens", "(II)V"⟩, 15) := ⟨⟨by decide +kernel, by decide +kernel⟩, List.mem_of_getElem? (i := 856) (by decide +kernel), List.mem_of_getElem? (i := 953) (by decide +kernel), List.mem_of_getElem? (i := 954) (by decide +kernel)⟩
theorem lw_p24 : lw_okq (⟨"ReceiptRollsModel", "isItem", "(II)Z"⟩, 15) := ⟨⟨by decide +kernel, by decide +kernel⟩, List.mem_of_getElem? (i := 856) (by decide +kernel), List.mem_of_getElem? (i := 961) (by decide +kernel), List.mem_of_getElem? (i := 962) (by decide +kernel)⟩
theorem lw_p25 : lw_okq (⟨"ReceiptRollsModel", "isStruck", "(II)Z"⟩, 15) := ⟨⟨by decide +kernel, by decide +kernel⟩, List.mem_of_getElem? (i := 856) (by decide +kernel), List.mem_of_getElem? (i := 965) (by decide +kernel), List.mem_of_getElem? (i := 966) (by decide +kernel)⟩
theorem lw_p26 : lw_okq (⟨"ReceiptRollsModel", "packed", "(II)I"⟩, 15) := ⟨⟨by decide +kernel, by decide +kernel⟩, List.mem_of_getElem? (i := 856) (by decide +kernel), List.mem_of_getElem? (i := 969) (by decide +kernel), List.mem_of_getElem? (i := 970) (by decide +kernel)⟩
theorem lw_p27 : lw_okq (⟨"ReceiptRollsModel", "sum", "(II)I"⟩, 15) := ⟨⟨by decide +kernel, by decide +kernel⟩, List.mem_of_getElem? (i := 856) (by decide +kernel), List.mem_of_getElem? (i := 974) (by decide +kernel), List.mem_of_getElem? (i := 975) (by decide +kernel)⟩
theorem lw_p28 : lw_okq (⟨"ReceiptRollsModel", "howMany", "(II)I"⟩, 15) := ⟨⟨by decide +kernel, by decide +kernel⟩, List.mem_of_getElem? (i := 856) (by decide +kernel), List.mem_of_getElem? (i := 978) (by decide +kernel), List.mem_of_getElem? (i := 979) (by decide +kernel)⟩
theorem lw_p29 : lw_okq (⟨"ReceiptRollsModel", "price", "(II)I"⟩, 15) := ⟨⟨by decide +kernel, by decide +kernel⟩, List.mem_of_getElem? (i := 856) (by decide +kernel), List.mem_of_getElem? (i := 982) (by decide +kernel), List.mem_of_getElem? (i := 983) (by decide +kernel)⟩
theorem lw_p30 : lw_okq (⟨"ReceiptRollsModel", "manyHow", "(I)I"⟩, 15) := ⟨⟨by decide +kernel, by decide +kernel⟩, List.mem_of_getElem? (i := 856) (by decide +kernel), List.mem_of_getElem? (i := 990) (by decide +kernel), List.mem_of_getElem? (i := 991) (by decide +kernel)⟩
theorem lw_p31 : lw_okq (⟨"ReceiptRollsModel", "isHow", "(II)Z"⟩, 15) := ⟨⟨by decide +kernel, by decide +kernel⟩, List.mem_of_getElem? (i := 856) (by decide +kernel), List.mem_of_getElem? (i := 994) (by decide +kernel), List.mem_of_getElem? (i := 995) (by decide +kernel)⟩
def lw_privs_2 : List (MethodName × Nat) := [(⟨"ReceiptRolls$State", "finish", "(LReceiptRolls$Receipt;)V"⟩, 13), (⟨"ReceiptRollsModel", "lay", "(III)V"⟩, 15), (⟨"ReceiptRollsModel", "records", "()V"⟩, 15), (⟨"ReceiptRollsModel", "faultAt", "()I"⟩, 15), (⟨"ReceiptRollsModel", "canStand", "(I)Z"⟩, 15), (⟨"ReceiptRollsModel", "of", "(II)I"⟩, 15), (⟨"ReceiptRollsModel", "packsName", "(II)V"⟩, 15), (⟨"ReceiptRollsModel", "happens", "(II)V"⟩, 15), (⟨"ReceiptRollsModel", "isItem", "(II)Z"⟩, 15), (⟨"ReceiptRollsModel", "isStruck", "(II)Z"⟩, 15), (⟨"ReceiptRollsModel", "packed", "(II)I"⟩, 15), (⟨"ReceiptRollsModel", "sum", "(II)I"⟩, 15), (⟨"ReceiptRollsModel", "howMany", "(II)I"⟩, 15), (⟨"ReceiptRollsModel", "price", "(II)I"⟩, 15), (⟨"ReceiptRollsModel", "manyHow", "(I)I"⟩, 15), (⟨"ReceiptRollsModel", "isHow", "(II)Z"⟩, 15)]
theorem lw_r2 : ∀ q ∈ lw_privs_2, lw_okq q := List.forall_mem_cons.mpr ⟨lw_p16, List.forall_mem_cons.mpr ⟨lw_p17, List.forall_mem_cons.mpr ⟨lw_p18, List.forall_mem_cons.mpr ⟨lw_p19, List.forall_mem_cons.mpr ⟨lw_p20, List.forall_mem_cons.mpr ⟨lw_p21, List.forall_mem_cons.mpr ⟨lw_p22, List.forall_mem_cons.mpr ⟨lw_p23, List.forall_mem_cons.mpr ⟨lw_p24, List.forall_mem_cons.mpr ⟨lw_p25, List.forall_mem_cons.mpr ⟨lw_p26, List.forall_mem_cons.mpr ⟨lw_p27, List.forall_mem_cons.mpr ⟨lw_p28, List.forall_mem_cons.mpr ⟨lw_p29, List.forall_mem_cons.mpr ⟨lw_p30, List.forall_mem_cons.mpr ⟨lw_p31, fun _ h => absurd h List.not_mem_nil⟩⟩⟩⟩⟩⟩⟩⟩⟩⟩⟩⟩⟩⟩⟩⟩
theorem lw_p32 : lw_okq (⟨"ReceiptRollsModel", "freeRecord", "()I"⟩, 15) := ⟨⟨by decide +kernel, by decide +kernel⟩, List.mem_of_getElem? (i := 856) (by decide +kernel), List.mem_of_getElem? (i := 998) (by decide +kernel), List.mem_of_getElem? (i := 999) (by decide +kernel)⟩
theorem lw_p33 : lw_okq (⟨"ReceiptRollsModel", "empties", "(I)V"⟩, 15) := ⟨⟨by decide +kernel, by decide +kernel⟩, List.mem_of_getElem? (i := 856) (by decide +kernel), List.mem_of_getElem? (i := 1002) (by decide +kernel), List.mem_of_getElem? (i := 1003) (by decide +kernel)⟩
theorem lw_p34 : lw_okq (⟨"ReceiptRollsModel", "recordOf", "(I)I"⟩, 15) := ⟨⟨by decide +kernel, by decide +kernel⟩, List.mem_of_getElem? (i := 856) (by decide +kernel), List.mem_of_getElem? (i := 1010) (by decide +kernel), List.mem_of_getElem? (i := 1011) (by decide +kernel)⟩
theorem lw_p35 : lw_okq (⟨"ReceiptRollsModel", "printedNow", "()I"⟩, 15) := ⟨⟨by decide +kernel, by decide +kernel⟩, List.mem_of_getElem? (i := 856) (by decide +kernel), List.mem_of_getElem? (i := 1022) (by decide +kernel), List.mem_of_getElem? (i := 1023) (by decide +kernel)⟩
theorem lw_p36 : lw_okq (⟨"ReceiptRollsModel", "widthOf", "(I)I"⟩, 15) := ⟨⟨by decide +kernel, by decide +kernel⟩, List.mem_of_getElem? (i := 856) (by decide +kernel), List.mem_of_getElem? (i := 1026) (by decide +kernel), List.mem_of_getElem? (i := 1027) (by decide +kernel)⟩
theorem lw_p37 : lw_okq (⟨"ReceiptRollsModel", "laysAll", "(III)I"⟩, 15) := ⟨⟨by decide +kernel, by decide +kernel⟩, List.mem_of_getElem? (i := 856) (by decide +kernel), List.mem_of_getElem? (i := 1030) (by decide +kernel), List.mem_of_getElem? (i := 1031) (by decide +kernel)⟩
theorem lw_p38 : lw_okq (⟨"ReceiptRollsModel", "lays", "(I)V"⟩, 15) := ⟨⟨by decide +kernel, by decide +kernel⟩, List.mem_of_getElem? (i := 856) (by decide +kernel), List.mem_of_getElem? (i := 1034) (by decide +kernel), List.mem_of_getElem? (i := 1035) (by decide +kernel)⟩
theorem lw_p39 : lw_okq (⟨"ReceiptRollsModel", "puts", "(II)V"⟩, 15) := ⟨⟨by decide +kernel, by decide +kernel⟩, List.mem_of_getElem? (i := 856) (by decide +kernel), List.mem_of_getElem? (i := 1038) (by decide +kernel), List.mem_of_getElem? (i := 1039) (by decide +kernel)⟩
theorem lw_p40 : lw_okq (⟨"ReceiptRollsModel", "numberOf", "(I)I"⟩, 15) := ⟨⟨by decide +kernel, by decide +kernel⟩, List.mem_of_getElem? (i := 856) (by decide +kernel), List.mem_of_getElem? (i := 1042) (by decide +kernel), List.mem_of_getElem? (i := 1043) (by decide +kernel)⟩
theorem lw_p41 : lw_okq (⟨"ReceiptRollsModel", "number", "(I)V"⟩, 15) := ⟨⟨by decide +kernel, by decide +kernel⟩, List.mem_of_getElem? (i := 856) (by decide +kernel), List.mem_of_getElem? (i := 1046) (by decide +kernel), List.mem_of_getElem? (i := 1047) (by decide +kernel)⟩
theorem lw_p42 : lw_okq (⟨"ReceiptRollsModel", "nextLine", "()V"⟩, 15) := ⟨⟨by decide +kernel, by decide +kernel⟩, List.mem_of_getElem? (i := 856) (by decide +kernel), List.mem_of_getElem? (i := 1050) (by decide +kernel), List.mem_of_getElem? (i := 1051) (by decide +kernel)⟩
theorem lw_p43 : lw_okq (⟨"ReceiptRollsModel", "event", "(II)I"⟩, 15) := ⟨⟨by decide +kernel, by decide +kernel⟩, List.mem_of_getElem? (i := 856) (by decide +kernel), List.mem_of_getElem? (i := 1054) (by decide +kernel), List.mem_of_getElem? (i := 1055) (by decide +kernel)⟩
theorem lw_p44 : lw_okq (⟨"ReceiptRollsModel", "layItem", "(III)V"⟩, 15) := ⟨⟨by decide +kernel, by decide +kernel⟩, List.mem_of_getElem? (i := 856) (by decide +kernel), List.mem_of_getElem? (i := 1058) (by decide +kernel), List.mem_of_getElem? (i := 1059) (by decide +kernel)⟩
theorem lw_p45 : lw_okq (⟨"ReceiptRollsModel", "addsToWord", "(I)V"⟩, 15) := ⟨⟨by decide +kernel, by decide +kernel⟩, List.mem_of_getElem? (i := 856) (by decide +kernel), List.mem_of_getElem? (i := 1062) (by decide +kernel), List.mem_of_getElem? (i := 1063) (by decide +kernel)⟩
theorem lw_p46 : lw_okq (⟨"ReceiptRollsModel", "layWord", "(I)V"⟩, 15) := ⟨⟨by decide +kernel, by decide +kernel⟩, List.mem_of_getElem? (i := 856) (by decide +kernel), List.mem_of_getElem? (i := 1066) (by decide +kernel), List.mem_of_getElem? (i := 1067) (by decide +kernel)⟩
theorem lw_p47 : lw_okq (⟨"ReceiptRollsModel", "nameLength", "(II)I"⟩, 15) := ⟨⟨by decide +kernel, by decide +kernel⟩, List.mem_of_getElem? (i := 856) (by decide +kernel), List.mem_of_getElem? (i := 1070) (by decide +kernel), List.mem_of_getElem? (i := 1071) (by decide +kernel)⟩
def lw_privs_3 : List (MethodName × Nat) := [(⟨"ReceiptRollsModel", "freeRecord", "()I"⟩, 15), (⟨"ReceiptRollsModel", "empties", "(I)V"⟩, 15), (⟨"ReceiptRollsModel", "recordOf", "(I)I"⟩, 15), (⟨"ReceiptRollsModel", "printedNow", "()I"⟩, 15), (⟨"ReceiptRollsModel", "widthOf", "(I)I"⟩, 15), (⟨"ReceiptRollsModel", "laysAll", "(III)I"⟩, 15), (⟨"ReceiptRollsModel", "lays", "(I)V"⟩, 15), (⟨"ReceiptRollsModel", "puts", "(II)V"⟩, 15), (⟨"ReceiptRollsModel", "numberOf", "(I)I"⟩, 15), (⟨"ReceiptRollsModel", "number", "(I)V"⟩, 15), (⟨"ReceiptRollsModel", "nextLine", "()V"⟩, 15), (⟨"ReceiptRollsModel", "event", "(II)I"⟩, 15), (⟨"ReceiptRollsModel", "layItem", "(III)V"⟩, 15), (⟨"ReceiptRollsModel", "addsToWord", "(I)V"⟩, 15), (⟨"ReceiptRollsModel", "layWord", "(I)V"⟩, 15), (⟨"ReceiptRollsModel", "nameLength", "(II)I"⟩, 15)]
theorem lw_r3 : ∀ q ∈ lw_privs_3, lw_okq q := List.forall_mem_cons.mpr ⟨lw_p32, List.forall_mem_cons.mpr ⟨lw_p33, List.forall_mem_cons.mpr ⟨lw_p34, List.forall_mem_cons.mpr ⟨lw_p35, List.forall_mem_cons.mpr ⟨lw_p36, List.forall_mem_cons.mpr ⟨lw_p37, List.forall_mem_cons.mpr ⟨lw_p38, List.forall_mem_cons.mpr ⟨lw_p39, List.forall_mem_cons.mpr ⟨lw_p40, List.forall_mem_cons.mpr ⟨lw_p41, List.forall_mem_cons.mpr ⟨lw_p42, List.forall_mem_cons.mpr ⟨lw_p43, List.forall_mem_cons.mpr ⟨lw_p44, List.forall_mem_cons.mpr ⟨lw_p45, List.forall_mem_cons.mpr ⟨lw_p46, List.forall_mem_cons.mpr ⟨lw_p47, fun _ h => absurd h List.not_mem_nil⟩⟩⟩⟩⟩⟩⟩⟩⟩⟩⟩⟩⟩⟩⟩⟩
theorem lw_p48 : lw_okq (⟨"ReceiptRollsModel", "nameSign", "(III)I"⟩, 15) := ⟨⟨by decide +kernel, by decide +kernel⟩, List.mem_of_getElem? (i := 856) (by decide +kernel), List.mem_of_getElem? (i := 1074) (by decide +kernel), List.mem_of_getElem? (i := 1075) (by decide +kernel)⟩
theorem lw_p49 : lw_okq (⟨"ReceiptRollsModel", "money", "(II)V"⟩, 15) := ⟨⟨by decide +kernel, by decide +kernel⟩, List.mem_of_getElem? (i := 856) (by decide +kernel), List.mem_of_getElem? (i := 1078) (by decide +kernel), List.mem_of_getElem? (i := 1079) (by decide +kernel)⟩
theorem lw_p50 : lw_okq (⟨"ReceiptRollsModel", "layVoid", "(III)V"⟩, 15) := ⟨⟨by decide +kernel, by decide +kernel⟩, List.mem_of_getElem? (i := 856) (by decide +kernel), List.mem_of_getElem? (i := 1082) (by decide +kernel), List.mem_of_getElem? (i := 1083) (by decide +kernel)⟩
theorem lw_p51 : lw_okq (⟨"ReceiptRollsModel", "total", "(I)I"⟩, 15) := ⟨⟨by decide +kernel, by decide +kernel⟩, List.mem_of_getElem? (i := 856) (by decide +kernel), List.mem_of_getElem? (i := 1086) (by decide +kernel), List.mem_of_getElem? (i := 1087) (by decide +kernel)⟩
theorem lw_p52 : lw_okq (⟨"ReceiptRollsModel", "hasTax", "(II)Z"⟩, 15) := ⟨⟨by decide +kernel, by decide +kernel⟩, List.mem_of_getElem? (i := 856) (by decide +kernel), List.mem_of_getElem? (i := 1090) (by decide +kernel), List.mem_of_getElem? (i := 1091) (by decide +kernel)⟩
theorem lw_p53 : lw_okq (⟨"ReceiptRollsModel", "tax", "(II)I"⟩, 15) := ⟨⟨by decide +kernel, by decide +kernel⟩, List.mem_of_getElem? (i := 856) (by decide +kernel), List.mem_of_getElem? (i := 1094) (by decide +kernel), List.mem_of_getElem? (i := 1095) (by decide +kernel)⟩
theorem lw_p54 : lw_okq (⟨"ReceiptRollsModel", "layTax", "(III)V"⟩, 15) := ⟨⟨by decide +kernel, by decide +kernel⟩, List.mem_of_getElem? (i := 856) (by decide +kernel), List.mem_of_getElem? (i := 1098) (by decide +kernel), List.mem_of_getElem? (i := 1099) (by decide +kernel)⟩
theorem lw_p55 : lw_okq (⟨"ReceiptRollsModel", "taxOf", "(II)I"⟩, 15) := ⟨⟨by decide +kernel, by decide +kernel⟩, List.mem_of_getElem? (i := 856) (by decide +kernel), List.mem_of_getElem? (i := 1105) (by decide +kernel), List.mem_of_getElem? (i := 1106) (by decide +kernel)⟩
theorem lw_p56 : lw_okq (⟨"ReceiptRollsModel", "ticks", "()I"⟩, 15) := ⟨⟨by decide +kernel, by decide +kernel⟩, List.mem_of_getElem? (i := 856) (by decide +kernel), List.mem_of_getElem? (i := 1113) (by decide +kernel), List.mem_of_getElem? (i := 1114) (by decide +kernel)⟩
theorem lw_p57 : lw_okq (⟨"ReceiptRollsModel", "printsLine", "()Z"⟩, 15) := ⟨⟨by decide +kernel, by decide +kernel⟩, List.mem_of_getElem? (i := 856) (by decide +kernel), List.mem_of_getElem? (i := 1117) (by decide +kernel), List.mem_of_getElem? (i := 1118) (by decide +kernel)⟩
theorem lw_p58 : lw_okq (⟨"ReceiptRollsModel", "recordAt", "(I)I"⟩, 15) := ⟨⟨by decide +kernel, by decide +kernel⟩, List.mem_of_getElem? (i := 856) (by decide +kernel), List.mem_of_getElem? (i := 1121) (by decide +kernel), List.mem_of_getElem? (i := 1122) (by decide +kernel)⟩
theorem lw_p59 : lw_okq (⟨"ReceiptRollsModel", "rank", "(I)I"⟩, 15) := ⟨⟨by decide +kernel, by decide +kernel⟩, List.mem_of_getElem? (i := 856) (by decide +kernel), List.mem_of_getElem? (i := 1125) (by decide +kernel), List.mem_of_getElem? (i := 1126) (by decide +kernel)⟩
theorem lw_p60 : lw_okq (⟨"ReceiptRollsModel", "isAhead", "(II)Z"⟩, 15) := ⟨⟨by decide +kernel, by decide +kernel⟩, List.mem_of_getElem? (i := 856) (by decide +kernel), List.mem_of_getElem? (i := 1129) (by decide +kernel), List.mem_of_getElem? (i := 1130) (by decide +kernel)⟩
theorem lw_p61 : lw_okq (⟨"ReceiptRollsModel", "linesOf", "(I)I"⟩, 15) := ⟨⟨by decide +kernel, by decide +kernel⟩, List.mem_of_getElem? (i := 856) (by decide +kernel), List.mem_of_getElem? (i := 1133) (by decide +kernel), List.mem_of_getElem? (i := 1134) (by decide +kernel)⟩
theorem lw_p62 : lw_okq (⟨"ReceiptRollsModel", "ends", "(I)V"⟩, 15) := ⟨⟨by decide +kernel, by decide +kernel⟩, List.mem_of_getElem? (i := 856) (by decide +kernel), List.mem_of_getElem? (i := 1137) (by decide +kernel), List.mem_of_getElem? (i := 1138) (by decide +kernel)⟩
theorem lw_p63 : lw_okq (⟨"ReceiptRollsModel", "forgets", "()V"⟩, 15) := ⟨⟨by decide +kernel, by decide +kernel⟩, List.mem_of_getElem? (i := 856) (by decide +kernel), List.mem_of_getElem? (i := 1141) (by decide +kernel), List.mem_of_getElem? (i := 1142) (by decide +kernel)⟩
def lw_privs_4 : List (MethodName × Nat) := [(⟨"ReceiptRollsModel", "nameSign", "(III)I"⟩, 15), (⟨"ReceiptRollsModel", "money", "(II)V"⟩, 15), (⟨"ReceiptRollsModel", "layVoid", "(III)V"⟩, 15), (⟨"ReceiptRollsModel", "total", "(I)I"⟩, 15), (⟨"ReceiptRollsModel", "hasTax", "(II)Z"⟩, 15), (⟨"ReceiptRollsModel", "tax", "(II)I"⟩, 15), (⟨"ReceiptRollsModel", "layTax", "(III)V"⟩, 15), (⟨"ReceiptRollsModel", "taxOf", "(II)I"⟩, 15), (⟨"ReceiptRollsModel", "ticks", "()I"⟩, 15), (⟨"ReceiptRollsModel", "printsLine", "()Z"⟩, 15), (⟨"ReceiptRollsModel", "recordAt", "(I)I"⟩, 15), (⟨"ReceiptRollsModel", "rank", "(I)I"⟩, 15), (⟨"ReceiptRollsModel", "isAhead", "(II)Z"⟩, 15), (⟨"ReceiptRollsModel", "linesOf", "(I)I"⟩, 15), (⟨"ReceiptRollsModel", "ends", "(I)V"⟩, 15), (⟨"ReceiptRollsModel", "forgets", "()V"⟩, 15)]
theorem lw_r4 : ∀ q ∈ lw_privs_4, lw_okq q := List.forall_mem_cons.mpr ⟨lw_p48, List.forall_mem_cons.mpr ⟨lw_p49, List.forall_mem_cons.mpr ⟨lw_p50, List.forall_mem_cons.mpr ⟨lw_p51, List.forall_mem_cons.mpr ⟨lw_p52, List.forall_mem_cons.mpr ⟨lw_p53, List.forall_mem_cons.mpr ⟨lw_p54, List.forall_mem_cons.mpr ⟨lw_p55, List.forall_mem_cons.mpr ⟨lw_p56, List.forall_mem_cons.mpr ⟨lw_p57, List.forall_mem_cons.mpr ⟨lw_p58, List.forall_mem_cons.mpr ⟨lw_p59, List.forall_mem_cons.mpr ⟨lw_p60, List.forall_mem_cons.mpr ⟨lw_p61, List.forall_mem_cons.mpr ⟨lw_p62, List.forall_mem_cons.mpr ⟨lw_p63, fun _ h => absurd h List.not_mem_nil⟩⟩⟩⟩⟩⟩⟩⟩⟩⟩⟩⟩⟩⟩⟩⟩
theorem lw_p64 : lw_okq (⟨"ReceiptRollsModel", "linesOfItem", "(II)I"⟩, 15) := ⟨⟨by decide +kernel, by decide +kernel⟩, List.mem_of_getElem? (i := 856) (by decide +kernel), List.mem_of_getElem? (i := 1149) (by decide +kernel), List.mem_of_getElem? (i := 1150) (by decide +kernel)⟩
theorem lw_p65 : lw_okq (⟨"ReceiptRollsModel", "struckOf", "(I)I"⟩, 15) := ⟨⟨by decide +kernel, by decide +kernel⟩, List.mem_of_getElem? (i := 856) (by decide +kernel), List.mem_of_getElem? (i := 1157) (by decide +kernel), List.mem_of_getElem? (i := 1158) (by decide +kernel)⟩
theorem lw_p66 : lw_okq (⟨"ReceiptRollsModel", "signAt", "(III)I"⟩, 15) := ⟨⟨by decide +kernel, by decide +kernel⟩, List.mem_of_getElem? (i := 856) (by decide +kernel), List.mem_of_getElem? (i := 1169) (by decide +kernel), List.mem_of_getElem? (i := 1170) (by decide +kernel)⟩
theorem lw_p67 : lw_okq (⟨"ReceiptRollsModel", "linesUpTo", "(I)I"⟩, 15) := ⟨⟨by decide +kernel, by decide +kernel⟩, List.mem_of_getElem? (i := 856) (by decide +kernel), List.mem_of_getElem? (i := 1193) (by decide +kernel), List.mem_of_getElem? (i := 1194) (by decide +kernel)⟩
theorem lw_p68 : lw_okq (⟨"ReceiptRollsModel", "leftOf", "(I)I"⟩, 15) := ⟨⟨by decide +kernel, by decide +kernel⟩, List.mem_of_getElem? (i := 856) (by decide +kernel), List.mem_of_getElem? (i := 1197) (by decide +kernel), List.mem_of_getElem? (i := 1198) (by decide +kernel)⟩
theorem lw_p69 : lw_okq (⟨"ReceiptRollsModel", "ticksFor", "(I)I"⟩, 15) := ⟨⟨by decide +kernel, by decide +kernel⟩, List.mem_of_getElem? (i := 856) (by decide +kernel), List.mem_of_getElem? (i := 1201) (by decide +kernel), List.mem_of_getElem? (i := 1202) (by decide +kernel)⟩
theorem lw_p70 : lw_okq (⟨"ReceiptRollsModel", "allLeft", "()I"⟩, 15) := ⟨⟨by decide +kernel, by decide +kernel⟩, List.mem_of_getElem? (i := 856) (by decide +kernel), List.mem_of_getElem? (i := 1209) (by decide +kernel), List.mem_of_getElem? (i := 1210) (by decide +kernel)⟩
def lw_privs_5 : List (MethodName × Nat) := [(⟨"ReceiptRollsModel", "linesOfItem", "(II)I"⟩, 15), (⟨"ReceiptRollsModel", "struckOf", "(I)I"⟩, 15), (⟨"ReceiptRollsModel", "signAt", "(III)I"⟩, 15), (⟨"ReceiptRollsModel", "linesUpTo", "(I)I"⟩, 15), (⟨"ReceiptRollsModel", "leftOf", "(I)I"⟩, 15), (⟨"ReceiptRollsModel", "ticksFor", "(I)I"⟩, 15), (⟨"ReceiptRollsModel", "allLeft", "()I"⟩, 15)]
theorem lw_r5 : ∀ q ∈ lw_privs_5, lw_okq q := List.forall_mem_cons.mpr ⟨lw_p64, List.forall_mem_cons.mpr ⟨lw_p65, List.forall_mem_cons.mpr ⟨lw_p66, List.forall_mem_cons.mpr ⟨lw_p67, List.forall_mem_cons.mpr ⟨lw_p68, List.forall_mem_cons.mpr ⟨lw_p69, List.forall_mem_cons.mpr ⟨lw_p70, fun _ h => absurd h List.not_mem_nil⟩⟩⟩⟩⟩⟩⟩
def lw_privs : List (MethodName × Nat) := lw_privs_1 ++ (lw_privs_2 ++ (lw_privs_3 ++ (lw_privs_4 ++ (lw_privs_5))))
def lw_tbl : List Cond := k2_sels lw_privs ++ tables_1
theorem lw_privs_ok : ∀ q ∈ lw_privs, lw_okq q := by
  show ∀ q ∈ lw_privs_1 ++ (lw_privs_2 ++ (lw_privs_3 ++ (lw_privs_4 ++ (lw_privs_5)))), lw_okq q
  exact List.forall_mem_append.mpr ⟨lw_r1, List.forall_mem_append.mpr ⟨lw_r2, List.forall_mem_append.mpr ⟨lw_r3, List.forall_mem_append.mpr ⟨lw_r4, lw_r5⟩⟩⟩⟩
end
section
def RX0 : String := "ReceiptRolls$History"
def TX0 : u_T := fun k => match k with
  | 0 => ("ReceiptRolls$History", "kept", "I", false)
  | _ => ("ReceiptRolls$History", "states", "[LReceiptRolls$State;", true)
def tyX0 : Nat → FieldType := fun k => match k with
  | 0 => .int
  | _ => .array (.object "ReceiptRolls$State")
theorem nmX0 : ∀ a, a < 2 → ∀ b, b < 2 → a ≠ b → (TX0 a).2.1 ≠ (TX0 b).2.1 := by decide +kernel
theorem tyX0_ok : ∀ k, k < 2 → parseFieldDescriptor (TX0 k).2.2.1 = some (tyX0 k) := by decide +kernel
abbrev cX0_init : ByteArray := prog_2_method_1_code
def yX0_init : MethodName := ⟨RX0, "<init>", "()V"⟩
abbrev cX0_remember : ByteArray := prog_2_method_2_code
def yX0_remember : MethodName := ⟨RX0, "remember", "(LReceiptRolls$State;)V"⟩
abbrev cX0_dropOldest : ByteArray := prog_2_method_3_code
def yX0_dropOldest : MethodName := ⟨RX0, "dropOldest", "()V"⟩
abbrev cX0_giveBack : ByteArray := prog_2_method_4_code
def yX0_giveBack : MethodName := ⟨RX0, "giveBack", "(LReceiptRolls$State;)V"⟩
def RX1 : String := "ReceiptRolls$Item"
def TX1 : u_T := fun k => match k with
  | 0 => ("ReceiptRolls$Item", "name", "Ljava/lang/String;", true)
  | 1 => ("ReceiptRolls$Item", "many", "I", true)
  | 2 => ("ReceiptRolls$Item", "price", "I", true)
  | _ => ("ReceiptRolls$Item", "tax", "I", true)
def tyX1 : Nat → FieldType := fun k => match k with
  | 0 => .object "java/lang/String"
  | 1 => .int
  | 2 => .int
  | _ => .int
theorem nmX1 : ∀ a, a < 4 → ∀ b, b < 4 → a ≠ b → (TX1 a).2.1 ≠ (TX1 b).2.1 := by decide +kernel
theorem tyX1_ok : ∀ k, k < 4 → parseFieldDescriptor (TX1 k).2.2.1 = some (tyX1 k) := by decide +kernel
abbrev cX1_init : ByteArray := prog_3_method_1_code
def yX1_init : MethodName := ⟨RX1, "<init>", "(Ljava/lang/String;III)V"⟩
abbrev cX1_sum : ByteArray := prog_3_method_2_code
def yX1_sum : MethodName := ⟨RX1, "sum", "()I"⟩
def RX2 : String := "ReceiptRolls$Receipt"
def TX2 : u_T := fun k => match k with
  | 0 => ("ReceiptRolls$Receipt", "number", "I", false)
  | 1 => ("ReceiptRolls$Receipt", "till", "I", false)
  | 2 => ("ReceiptRolls$Receipt", "priority", "I", false)
  | 3 => ("ReceiptRolls$Receipt", "stage", "I", false)
  | 4 => ("ReceiptRolls$Receipt", "width", "I", false)
  | 5 => ("ReceiptRolls$Receipt", "lines", "I", false)
  | 6 => ("ReceiptRolls$Receipt", "printed", "I", false)
  | 7 => ("ReceiptRolls$Receipt", "doneTick", "I", false)
  | 8 => ("ReceiptRolls$Receipt", "doneRank", "I", false)
  | 9 => ("ReceiptRolls$Receipt", "items", "I", false)
  | 10 => ("ReceiptRolls$Receipt", "events", "I", false)
  | 11 => ("ReceiptRolls$Receipt", "struck", "I", false)
  | 12 => ("ReceiptRolls$Receipt", "rung", "[LReceiptRolls$Item;", true)
  | _ => ("ReceiptRolls$Receipt", "happened", "[I", true)
def tyX2 : Nat → FieldType := fun k => match k with
  | 0 => .int
  | 1 => .int
  | 2 => .int
  | 3 => .int
  | 4 => .int
  | 5 => .int
  | 6 => .int
  | 7 => .int
  | 8 => .int
  | 9 => .int
  | 10 => .int
  | 11 => .int
  | 12 => .array (.object "ReceiptRolls$Item")
  | _ => .array .int
theorem nmX2 : ∀ a, a < 14 → ∀ b, b < 14 → a ≠ b → (TX2 a).2.1 ≠ (TX2 b).2.1 := by decide +kernel
theorem tyX2_ok : ∀ k, k < 14 → parseFieldDescriptor (TX2 k).2.2.1 = some (tyX2 k) := by decide +kernel
abbrev cX2_init : ByteArray := prog_4_method_1_code
def yX2_init : MethodName := ⟨RX2, "<init>", "()V"⟩
abbrev cX2_copyFrom : ByteArray := prog_4_method_2_code
def yX2_copyFrom : MethodName := ⟨RX2, "copyFrom", "(LReceiptRolls$Receipt;)V"⟩
abbrev cX2_clear : ByteArray := prog_4_method_3_code
def yX2_clear : MethodName := ⟨RX2, "clear", "()V"⟩
abbrev cX2_closeAs : ByteArray := prog_4_method_4_code
def yX2_closeAs : MethodName := ⟨RX2, "closeAs", "(IIIII)V"⟩
abbrev cX2_itemAt : ByteArray := prog_4_method_5_code
def yX2_itemAt : MethodName := ⟨RX2, "itemAt", "(I)LReceiptRolls$Item;"⟩
abbrev cX2_isStruck : ByteArray := prog_4_method_6_code
def yX2_isStruck : MethodName := ⟨RX2, "isStruck", "(I)Z"⟩
abbrev cX2_itemsStruck : ByteArray := prog_4_method_7_code
def yX2_itemsStruck : MethodName := ⟨RX2, "itemsStruck", "()I"⟩
abbrev cX2_addItem : ByteArray := prog_4_method_8_code
def yX2_addItem : MethodName := ⟨RX2, "addItem", "(LReceiptRolls$Item;)V"⟩
abbrev cX2_strikeItem : ByteArray := prog_4_method_9_code
def yX2_strikeItem : MethodName := ⟨RX2, "strikeItem", "(I)V"⟩
abbrev cX2_addEvent : ByteArray := prog_4_method_10_code
def yX2_addEvent : MethodName := ⟨RX2, "addEvent", "(I)V"⟩
abbrev cX2_total : ByteArray := prog_4_method_11_code
def yX2_total : MethodName := ⟨RX2, "total", "()I"⟩
abbrev cX2_totalWithout : ByteArray := prog_4_method_12_code
def yX2_totalWithout : MethodName := ⟨RX2, "totalWithout", "(I)I"⟩
abbrev cX2_sumTaxed : ByteArray := prog_4_method_13_code
def yX2_sumTaxed : MethodName := ⟨RX2, "sumTaxed", "(I)I"⟩
abbrev cX2_taxOf : ByteArray := prog_4_method_14_code
def yX2_taxOf : MethodName := ⟨RX2, "taxOf", "(I)I"⟩
abbrev cX2_linesToPrint : ByteArray := prog_4_method_15_code
def yX2_linesToPrint : MethodName := ⟨RX2, "linesToPrint", "()I"⟩
abbrev cX2_isAheadOf : ByteArray := prog_4_method_16_code
def yX2_isAheadOf : MethodName := ⟨RX2, "isAheadOf", "(LReceiptRolls$Receipt;)Z"⟩
def RX3 : String := "ReceiptRolls$Sheet"
def TX3 : u_T := fun k => match k with
  | 0 => ("ReceiptRolls$Sheet", "width", "I", false)
  | 1 => ("ReceiptRolls$Sheet", "line", "I", false)
  | 2 => ("ReceiptRolls$Sheet", "firstAlike", "I", false)
  | 3 => ("ReceiptRolls$Sheet", "wanted", "I", false)
  | 4 => ("ReceiptRolls$Sheet", "column", "I", false)
  | _ => ("ReceiptRolls$Sheet", "signs", "[C", true)
def tyX3 : Nat → FieldType := fun k => match k with
  | 0 => .int
  | 1 => .int
  | 2 => .int
  | 3 => .int
  | 4 => .int
  | _ => .array .char
theorem nmX3 : ∀ a, a < 6 → ∀ b, b < 6 → a ≠ b → (TX3 a).2.1 ≠ (TX3 b).2.1 := by decide +kernel
theorem tyX3_ok : ∀ k, k < 6 → parseFieldDescriptor (TX3 k).2.2.1 = some (tyX3 k) := by decide +kernel
abbrev cX3_init : ByteArray := prog_5_method_1_code
def yX3_init : MethodName := ⟨RX3, "<init>", "()V"⟩
abbrev cX3_lay : ByteArray := prog_5_method_2_code
def yX3_lay : MethodName := ⟨RX3, "lay", "(LReceiptRolls$Receipt;III)I"⟩
abbrev cX3_linesOfItem : ByteArray := prog_5_method_3_code
def yX3_linesOfItem : MethodName := ⟨RX3, "linesOfItem", "(LReceiptRolls$Item;I)I"⟩
abbrev cX3_signAt : ByteArray := prog_5_method_4_code
def yX3_signAt : MethodName := ⟨RX3, "signAt", "(I)I"⟩
abbrev cX3_begin : ByteArray := prog_5_method_5_code
def yX3_begin : MethodName := ⟨RX3, "begin", "(II)V"⟩
abbrev cX3_layItem : ByteArray := prog_5_method_6_code
def yX3_layItem : MethodName := ⟨RX3, "layItem", "(LReceiptRolls$Item;)V"⟩
abbrev cX3_layWord : ByteArray := prog_5_method_7_code
def yX3_layWord : MethodName := ⟨RX3, "layWord", "(Ljava/lang/String;II)V"⟩
abbrev cX3_layTold : ByteArray := prog_5_method_8_code
def yX3_layTold : MethodName := ⟨RX3, "layTold", "(Ljava/lang/String;II)V"⟩
abbrev cX3_endLine : ByteArray := prog_5_method_9_code
def yX3_endLine : MethodName := ⟨RX3, "endLine", "()V"⟩
abbrev cX3_addSign : ByteArray := prog_5_method_10_code
def yX3_addSign : MethodName := ⟨RX3, "addSign", "(C)V"⟩
abbrev cX3_addText : ByteArray := prog_5_method_11_code
def yX3_addText : MethodName := ⟨RX3, "addText", "(Ljava/lang/String;)V"⟩
abbrev cX3_addNumber : ByteArray := prog_5_method_12_code
def yX3_addNumber : MethodName := ⟨RX3, "addNumber", "(I)V"⟩
abbrev cX3_addMoney : ByteArray := prog_5_method_13_code
def yX3_addMoney : MethodName := ⟨RX3, "addMoney", "(I)V"⟩
abbrev cX3_digitsOf : ByteArray := prog_5_method_14_code
def yX3_digitsOf : MethodName := ⟨RX3, "digitsOf", "(I)I"⟩
def RX4 : String := "ReceiptRolls$State"
def TX4 : u_T := fun k => match k with
  | 0 => ("ReceiptRolls$State", "rollLeft", "I", false)
  | 1 => ("ReceiptRolls$State", "linesPrinted", "I", false)
  | 2 => ("ReceiptRolls$State", "linesSpoilt", "I", false)
  | 3 => ("ReceiptRolls$State", "rolls", "I", false)
  | 4 => ("ReceiptRolls$State", "linesThrown", "I", false)
  | 5 => ("ReceiptRolls$State", "ticks", "I", false)
  | 6 => ("ReceiptRolls$State", "closed", "I", false)
  | 7 => ("ReceiptRolls$State", "done", "I", false)
  | 8 => ("ReceiptRolls$State", "itemsStruck", "I", false)
  | 9 => ("ReceiptRolls$State", "printing", "I", false)
  | 10 => ("ReceiptRolls$State", "settings", "[I", true)
  | 11 => ("ReceiptRolls$State", "open", "[LReceiptRolls$Receipt;", true)
  | _ => ("ReceiptRolls$State", "ledger", "[LReceiptRolls$Receipt;", true)
def tyX4 : Nat → FieldType := fun k => match k with
  | 0 => .int
  | 1 => .int
  | 2 => .int
  | 3 => .int
  | 4 => .int
  | 5 => .int
  | 6 => .int
  | 7 => .int
  | 8 => .int
  | 9 => .int
  | 10 => .array .int
  | 11 => .array (.object "ReceiptRolls$Receipt")
  | _ => .array (.object "ReceiptRolls$Receipt")
theorem nmX4 : ∀ a, a < 13 → ∀ b, b < 13 → a ≠ b → (TX4 a).2.1 ≠ (TX4 b).2.1 := by decide +kernel
theorem tyX4_ok : ∀ k, k < 13 → parseFieldDescriptor (TX4 k).2.2.1 = some (tyX4 k) := by decide +kernel
abbrev cX4_init : ByteArray := prog_6_method_1_code
def yX4_init : MethodName := ⟨RX4, "<init>", "()V"⟩
abbrev cX4_copyFrom : ByteArray := prog_6_method_2_code
def yX4_copyFrom : MethodName := ⟨RX4, "copyFrom", "(LReceiptRolls$State;)V"⟩
abbrev cX4_copyReceipts : ByteArray := prog_6_method_3_code
def yX4_copyReceipts : MethodName := ⟨RX4, "copyReceipts", "([LReceiptRolls$Receipt;[LReceiptRolls$Receipt;)V"⟩
abbrev cX4_settingAt : ByteArray := prog_6_method_4_code
def yX4_settingAt : MethodName := ⟨RX4, "settingAt", "(I)I"⟩
abbrev cX4_changeSetting : ByteArray := prog_6_method_5_code
def yX4_changeSetting : MethodName := ⟨RX4, "changeSetting", "(II)I"⟩
abbrev cX4_openAt : ByteArray := prog_6_method_6_code
def yX4_openAt : MethodName := ⟨RX4, "openAt", "(I)LReceiptRolls$Receipt;"⟩
abbrev cX4_places : ByteArray := prog_6_method_7_code
def yX4_places : MethodName := ⟨RX4, "places", "()I"⟩
abbrev cX4_placeAt : ByteArray := prog_6_method_8_code
def yX4_placeAt : MethodName := ⟨RX4, "placeAt", "(I)LReceiptRolls$Receipt;"⟩
abbrev cX4_freePlace : ByteArray := prog_6_method_9_code
def yX4_freePlace : MethodName := ⟨RX4, "freePlace", "()LReceiptRolls$Receipt;"⟩
abbrev cX4_known : ByteArray := prog_6_method_10_code
def yX4_known : MethodName := ⟨RX4, "known", "(I)LReceiptRolls$Receipt;"⟩
abbrev cX4_receiptsWaiting : ByteArray := prog_6_method_11_code
def yX4_receiptsWaiting : MethodName := ⟨RX4, "receiptsWaiting", "()I"⟩
abbrev cX4_waitingAt : ByteArray := prog_6_method_12_code
def yX4_waitingAt : MethodName := ⟨RX4, "waitingAt", "(I)LReceiptRolls$Receipt;"⟩
abbrev cX4_waitingAheadOf : ByteArray := prog_6_method_13_code
def yX4_waitingAheadOf : MethodName := ⟨RX4, "waitingAheadOf", "(LReceiptRolls$Receipt;)I"⟩
abbrev cX4_tick : ByteArray := prog_6_method_14_code
def yX4_tick : MethodName := ⟨RX4, "tick", "()I"⟩
abbrev cX4_printLine : ByteArray := prog_6_method_15_code
def yX4_printLine : MethodName := ⟨RX4, "printLine", "()Z"⟩
abbrev cX4_takeReceipt : ByteArray := prog_6_method_16_code
def yX4_takeReceipt : MethodName := ⟨RX4, "takeReceipt", "()LReceiptRolls$Receipt;"⟩
abbrev cX4_finish : ByteArray := prog_6_method_17_code
def yX4_finish : MethodName := ⟨RX4, "finish", "(LReceiptRolls$Receipt;)V"⟩
abbrev cX4_linesToPrint : ByteArray := prog_6_method_18_code
def yX4_linesToPrint : MethodName := ⟨RX4, "linesToPrint", "()I"⟩
abbrev cX4_linesUntilDone : ByteArray := prog_6_method_19_code
def yX4_linesUntilDone : MethodName := ⟨RX4, "linesUntilDone", "(LReceiptRolls$Receipt;)I"⟩
abbrev cX4_ticksFor : ByteArray := prog_6_method_20_code
def yX4_ticksFor : MethodName := ⟨RX4, "ticksFor", "(I)I"⟩
def RX5 : String := "ReceiptRolls"
def TX5 : u_T := fun k => match k with
  | 0 => ("ReceiptRolls", "now", "LReceiptRolls$State;", true)
  | 1 => ("ReceiptRolls", "history", "LReceiptRolls$History;", true)
  | 2 => ("ReceiptRolls", "slots", "[LReceiptRolls$State;", true)
  | 3 => ("ReceiptRolls", "pad", "Ljava/lang/StringBuilder;", true)
  | _ => ("ReceiptRolls", "sheet", "LReceiptRolls$Sheet;", true)
def tyX5 : Nat → FieldType := fun k => match k with
  | 0 => .object "ReceiptRolls$State"
  | 1 => .object "ReceiptRolls$History"
  | 2 => .array (.object "ReceiptRolls$State")
  | 3 => .object "java/lang/StringBuilder"
  | _ => .object "ReceiptRolls$Sheet"
theorem nmX5 : ∀ a, a < 5 → ∀ b, b < 5 → a ≠ b → (TX5 a).2.1 ≠ (TX5 b).2.1 := by decide +kernel
theorem tyX5_ok : ∀ k, k < 5 → parseFieldDescriptor (TX5 k).2.2.1 = some (tyX5 k) := by decide +kernel
abbrev cX5_init : ByteArray := prog_1_method_1_code
def yX5_init : MethodName := ⟨RX5, "<init>", "()V"⟩
abbrev cX5_set : ByteArray := prog_1_method_2_code
def yX5_set : MethodName := ⟨RX5, "set", "(II)I"⟩
abbrev cX5_ring : ByteArray := prog_1_method_3_code
def yX5_ring : MethodName := ⟨RX5, "ring", "(IIII)I"⟩
abbrev cX5_strike : ByteArray := prog_1_method_4_code
def yX5_strike : MethodName := ⟨RX5, "strike", "(II)I"⟩
abbrev cX5_close : ByteArray := prog_1_method_5_code
def yX5_close : MethodName := ⟨RX5, "close", "(II)I"⟩
abbrev cX5_hurry : ByteArray := prog_1_method_6_code
def yX5_hurry : MethodName := ⟨RX5, "hurry", "(II)I"⟩
abbrev cX5_newRoll : ByteArray := prog_1_method_7_code
def yX5_newRoll : MethodName := ⟨RX5, "newRoll", "()I"⟩
abbrev cX5_tear : ByteArray := prog_1_method_8_code
def yX5_tear : MethodName := ⟨RX5, "tear", "(I)I"⟩
abbrev cX5_pass : ByteArray := prog_1_method_9_code
def yX5_pass : MethodName := ⟨RX5, "pass", "(I)I"⟩
abbrev cX5_item : ByteArray := prog_1_method_10_code
def yX5_item : MethodName := ⟨RX5, "item", "(III)I"⟩
abbrev cX5_ofTill : ByteArray := prog_1_method_11_code
def yX5_ofTill : MethodName := ⟨RX5, "ofTill", "(II)I"⟩
abbrev cX5_ofReceipt : ByteArray := prog_1_method_12_code
def yX5_ofReceipt : MethodName := ⟨RX5, "ofReceipt", "(II)I"⟩
abbrev cX5_sign : ByteArray := prog_1_method_13_code
def yX5_sign : MethodName := ⟨RX5, "sign", "(III)I"⟩
abbrev cX5_waiting : ByteArray := prog_1_method_14_code
def yX5_waiting : MethodName := ⟨RX5, "waiting", "(I)I"⟩
abbrev cX5_printer : ByteArray := prog_1_method_15_code
def yX5_printer : MethodName := ⟨RX5, "printer", "(I)I"⟩
abbrev cX5_count : ByteArray := prog_1_method_16_code
def yX5_count : MethodName := ⟨RX5, "count", "(I)I"⟩
abbrev cX5_between : ByteArray := prog_1_method_17_code
def yX5_between : MethodName := ⟨RX5, "between", "(III)I"⟩
abbrev cX5_doneIn : ByteArray := prog_1_method_18_code
def yX5_doneIn : MethodName := ⟨RX5, "doneIn", "(I)I"⟩
abbrev cX5_linesLeft : ByteArray := prog_1_method_19_code
def yX5_linesLeft : MethodName := ⟨RX5, "linesLeft", "()I"⟩
abbrev cX5_outIn : ByteArray := prog_1_method_20_code
def yX5_outIn : MethodName := ⟨RX5, "outIn", "()I"⟩
abbrev cX5_bestWidth : ByteArray := prog_1_method_21_code
def yX5_bestWidth : MethodName := ⟨RX5, "bestWidth", "(II)I"⟩
abbrev cX5_ifStruck : ByteArray := prog_1_method_22_code
def yX5_ifStruck : MethodName := ⟨RX5, "ifStruck", "(II)I"⟩
abbrev cX5_put : ByteArray := prog_1_method_23_code
def yX5_put : MethodName := ⟨RX5, "put", "(J)I"⟩
abbrev cX5_wipe : ByteArray := prog_1_method_24_code
def yX5_wipe : MethodName := ⟨RX5, "wipe", "()I"⟩
abbrev cX5_fault : ByteArray := prog_1_method_25_code
def yX5_fault : MethodName := ⟨RX5, "fault", "()I"⟩
abbrev cX5_undo : ByteArray := prog_1_method_26_code
def yX5_undo : MethodName := ⟨RX5, "undo", "()I"⟩
abbrev cX5_save : ByteArray := prog_1_method_27_code
def yX5_save : MethodName := ⟨RX5, "save", "(I)I"⟩
abbrev cX5_restore : ByteArray := prog_1_method_28_code
def yX5_restore : MethodName := ⟨RX5, "restore", "(I)I"⟩
abbrev cX5_isPriority : ByteArray := prog_1_method_29_code
def yX5_isPriority : MethodName := ⟨RX5, "isPriority", "(I)Z"⟩
abbrev cX5_layLines : ByteArray := prog_1_method_30_code
def yX5_layLines : MethodName := ⟨RX5, "layLines", "(LReceiptRolls$Receipt;I)I"⟩
abbrev cX5_codeAt : ByteArray := prog_1_method_31_code
def yX5_codeAt : MethodName := ⟨RX5, "codeAt", "(JI)I"⟩
abbrev cX5_lengthOf : ByteArray := prog_1_method_32_code
def yX5_lengthOf : MethodName := ⟨RX5, "lengthOf", "(J)I"⟩
abbrev cX5_faultOfPad : ByteArray := prog_1_method_33_code
def yX5_faultOfPad : MethodName := ⟨RX5, "faultOfPad", "()I"⟩
def RX6 : String := "ReceiptRollsModel"
def TX6 : u_T := fun k => match k with
  | 0 => ("ReceiptRollsModel", "thrown", "I", false)
  | 1 => ("ReceiptRollsModel", "s", "[I", true)
  | 2 => ("ReceiptRollsModel", "undos", "[I", true)
  | 3 => ("ReceiptRollsModel", "undoMany", "I", false)
  | 4 => ("ReceiptRollsModel", "slots", "[I", true)
  | 5 => ("ReceiptRollsModel", "hasSlot", "[Z", true)
  | 6 => ("ReceiptRollsModel", "pad", "[I", true)
  | 7 => ("ReceiptRollsModel", "length", "I", false)
  | 8 => ("ReceiptRollsModel", "line", "[I", true)
  | 9 => ("ReceiptRollsModel", "wanted", "I", false)
  | 10 => ("ReceiptRollsModel", "at", "I", false)
  | 11 => ("ReceiptRollsModel", "column", "I", false)
  | 12 => ("ReceiptRollsModel", "begun", "I", false)
  | 13 => ("ReceiptRollsModel", "word", "[I", true)
  | _ => ("ReceiptRollsModel", "wordMany", "I", false)
def tyX6 : Nat → FieldType := fun k => match k with
  | 0 => .int
  | 1 => .array .int
  | 2 => .array .int
  | 3 => .int
  | 4 => .array .int
  | 5 => .array .boolean
  | 6 => .array .int
  | 7 => .int
  | 8 => .array .int
  | 9 => .int
  | 10 => .int
  | 11 => .int
  | 12 => .int
  | 13 => .array .int
  | _ => .int
theorem nmX6 : ∀ a, a < 15 → ∀ b, b < 15 → a ≠ b → (TX6 a).2.1 ≠ (TX6 b).2.1 := by decide +kernel
theorem tyX6_ok : ∀ k, k < 15 → parseFieldDescriptor (TX6 k).2.2.1 = some (tyX6 k) := by decide +kernel
abbrev cX6_init : ByteArray := prog_8_method_1_code
def yX6_init : MethodName := ⟨RX6, "<init>", "()V"⟩
abbrev cX6_in : ByteArray := prog_8_method_3_code
def yX6_in : MethodName := ⟨RX6, "in", "(III)Z"⟩
abbrev cX6_of : ByteArray := prog_8_method_4_code
def yX6_of : MethodName := ⟨RX6, "of", "(II)I"⟩
abbrev cX6_lay : ByteArray := prog_8_method_5_code
def yX6_lay : MethodName := ⟨RX6, "lay", "(III)V"⟩
abbrev cX6_isTill : ByteArray := prog_8_method_6_code
def yX6_isTill : MethodName := ⟨RX6, "isTill", "(I)Z"⟩
abbrev cX6_records : ByteArray := prog_8_method_7_code
def yX6_records : MethodName := ⟨RX6, "records", "()V"⟩
abbrev cX6_packed : ByteArray := prog_8_method_8_code
def yX6_packed : MethodName := ⟨RX6, "packed", "(II)I"⟩
abbrev cX6_howMany : ByteArray := prog_8_method_9_code
def yX6_howMany : MethodName := ⟨RX6, "howMany", "(II)I"⟩
abbrev cX6_price : ByteArray := prog_8_method_10_code
def yX6_price : MethodName := ⟨RX6, "price", "(II)I"⟩
abbrev cX6_tax : ByteArray := prog_8_method_11_code
def yX6_tax : MethodName := ⟨RX6, "tax", "(II)I"⟩
abbrev cX6_isStruck : ByteArray := prog_8_method_12_code
def yX6_isStruck : MethodName := ⟨RX6, "isStruck", "(II)Z"⟩
abbrev cX6_nameLength : ByteArray := prog_8_method_13_code
def yX6_nameLength : MethodName := ⟨RX6, "nameLength", "(II)I"⟩
abbrev cX6_nameSign : ByteArray := prog_8_method_14_code
def yX6_nameSign : MethodName := ⟨RX6, "nameSign", "(III)I"⟩
abbrev cX6_sum : ByteArray := prog_8_method_15_code
def yX6_sum : MethodName := ⟨RX6, "sum", "(II)I"⟩
abbrev cX6_event : ByteArray := prog_8_method_16_code
def yX6_event : MethodName := ⟨RX6, "event", "(II)I"⟩
abbrev cX6_happens : ByteArray := prog_8_method_17_code
def yX6_happens : MethodName := ⟨RX6, "happens", "(II)V"⟩
abbrev cX6_total : ByteArray := prog_8_method_18_code
def yX6_total : MethodName := ⟨RX6, "total", "(I)I"⟩
abbrev cX6_rateOf : ByteArray := prog_8_method_19_code
def yX6_rateOf : MethodName := ⟨RX6, "rateOf", "(I)I"⟩
abbrev cX6_hasTax : ByteArray := prog_8_method_20_code
def yX6_hasTax : MethodName := ⟨RX6, "hasTax", "(II)Z"⟩
abbrev cX6_taxOf : ByteArray := prog_8_method_21_code
def yX6_taxOf : MethodName := ⟨RX6, "taxOf", "(II)I"⟩
abbrev cX6_struckOf : ByteArray := prog_8_method_22_code
def yX6_struckOf : MethodName := ⟨RX6, "struckOf", "(I)I"⟩
abbrev cX6_puts : ByteArray := prog_8_method_23_code
def yX6_puts : MethodName := ⟨RX6, "puts", "(II)V"⟩
abbrev cX6_lays : ByteArray := prog_8_method_24_code
def yX6_lays : MethodName := ⟨RX6, "lays", "(I)V"⟩
abbrev cX6_nextLine : ByteArray := prog_8_method_25_code
def yX6_nextLine : MethodName := ⟨RX6, "nextLine", "()V"⟩
abbrev cX6_number : ByteArray := prog_8_method_26_code
def yX6_number : MethodName := ⟨RX6, "number", "(I)V"⟩
abbrev cX6_money : ByteArray := prog_8_method_27_code
def yX6_money : MethodName := ⟨RX6, "money", "(II)V"⟩
abbrev cX6_layWord : ByteArray := prog_8_method_28_code
def yX6_layWord : MethodName := ⟨RX6, "layWord", "(I)V"⟩
abbrev cX6_addsToWord : ByteArray := prog_8_method_29_code
def yX6_addsToWord : MethodName := ⟨RX6, "addsToWord", "(I)V"⟩
abbrev cX6_layItem : ByteArray := prog_8_method_30_code
def yX6_layItem : MethodName := ⟨RX6, "layItem", "(III)V"⟩
abbrev cX6_layVoid : ByteArray := prog_8_method_31_code
def yX6_layVoid : MethodName := ⟨RX6, "layVoid", "(III)V"⟩
abbrev cX6_layTax : ByteArray := prog_8_method_32_code
def yX6_layTax : MethodName := ⟨RX6, "layTax", "(III)V"⟩
abbrev cX6_numberOf : ByteArray := prog_8_method_33_code
def yX6_numberOf : MethodName := ⟨RX6, "numberOf", "(I)I"⟩
abbrev cX6_laysAll : ByteArray := prog_8_method_34_code
def yX6_laysAll : MethodName := ⟨RX6, "laysAll", "(III)I"⟩
abbrev cX6_widthOf : ByteArray := prog_8_method_35_code
def yX6_widthOf : MethodName := ⟨RX6, "widthOf", "(I)I"⟩
abbrev cX6_linesOf : ByteArray := prog_8_method_36_code
def yX6_linesOf : MethodName := ⟨RX6, "linesOf", "(I)I"⟩
abbrev cX6_recordOf : ByteArray := prog_8_method_37_code
def yX6_recordOf : MethodName := ⟨RX6, "recordOf", "(I)I"⟩
abbrev cX6_isHow : ByteArray := prog_8_method_38_code
def yX6_isHow : MethodName := ⟨RX6, "isHow", "(II)Z"⟩
abbrev cX6_manyHow : ByteArray := prog_8_method_39_code
def yX6_manyHow : MethodName := ⟨RX6, "manyHow", "(I)I"⟩
abbrev cX6_printedNow : ByteArray := prog_8_method_40_code
def yX6_printedNow : MethodName := ⟨RX6, "printedNow", "()I"⟩
abbrev cX6_isAhead : ByteArray := prog_8_method_41_code
def yX6_isAhead : MethodName := ⟨RX6, "isAhead", "(II)Z"⟩
abbrev cX6_rank : ByteArray := prog_8_method_42_code
def yX6_rank : MethodName := ⟨RX6, "rank", "(I)I"⟩
abbrev cX6_recordAt : ByteArray := prog_8_method_43_code
def yX6_recordAt : MethodName := ⟨RX6, "recordAt", "(I)I"⟩
abbrev cX6_empties : ByteArray := prog_8_method_44_code
def yX6_empties : MethodName := ⟨RX6, "empties", "(I)V"⟩
abbrev cX6_forgets : ByteArray := prog_8_method_45_code
def yX6_forgets : MethodName := ⟨RX6, "forgets", "()V"⟩
abbrev cX6_ends : ByteArray := prog_8_method_46_code
def yX6_ends : MethodName := ⟨RX6, "ends", "(I)V"⟩
abbrev cX6_printsLine : ByteArray := prog_8_method_47_code
def yX6_printsLine : MethodName := ⟨RX6, "printsLine", "()Z"⟩
abbrev cX6_ticks : ByteArray := prog_8_method_48_code
def yX6_ticks : MethodName := ⟨RX6, "ticks", "()I"⟩
abbrev cX6_leastOf : ByteArray := prog_8_method_49_code
def yX6_leastOf : MethodName := ⟨RX6, "leastOf", "(I)I"⟩
abbrev cX6_mostOf : ByteArray := prog_8_method_50_code
def yX6_mostOf : MethodName := ⟨RX6, "mostOf", "(I)I"⟩
abbrev cX6_set : ByteArray := prog_8_method_51_code
def yX6_set : MethodName := ⟨RX6, "set", "(II)I"⟩
abbrev cX6_packsName : ByteArray := prog_8_method_52_code
def yX6_packsName : MethodName := ⟨RX6, "packsName", "(II)V"⟩
abbrev cX6_ring : ByteArray := prog_8_method_53_code
def yX6_ring : MethodName := ⟨RX6, "ring", "(IIII)I"⟩
abbrev cX6_isItem : ByteArray := prog_8_method_54_code
def yX6_isItem : MethodName := ⟨RX6, "isItem", "(II)Z"⟩
abbrev cX6_strike : ByteArray := prog_8_method_55_code
def yX6_strike : MethodName := ⟨RX6, "strike", "(II)I"⟩
abbrev cX6_freeRecord : ByteArray := prog_8_method_56_code
def yX6_freeRecord : MethodName := ⟨RX6, "freeRecord", "()I"⟩
abbrev cX6_close : ByteArray := prog_8_method_57_code
def yX6_close : MethodName := ⟨RX6, "close", "(II)I"⟩
abbrev cX6_hurry : ByteArray := prog_8_method_58_code
def yX6_hurry : MethodName := ⟨RX6, "hurry", "(II)I"⟩
abbrev cX6_newRoll : ByteArray := prog_8_method_59_code
def yX6_newRoll : MethodName := ⟨RX6, "newRoll", "()I"⟩
abbrev cX6_tear : ByteArray := prog_8_method_60_code
def yX6_tear : MethodName := ⟨RX6, "tear", "(I)I"⟩
abbrev cX6_pass : ByteArray := prog_8_method_61_code
def yX6_pass : MethodName := ⟨RX6, "pass", "(I)I"⟩
abbrev cX6_linesOfItem : ByteArray := prog_8_method_62_code
def yX6_linesOfItem : MethodName := ⟨RX6, "linesOfItem", "(II)I"⟩
abbrev cX6_item : ByteArray := prog_8_method_63_code
def yX6_item : MethodName := ⟨RX6, "item", "(III)I"⟩
abbrev cX6_ofTill : ByteArray := prog_8_method_64_code
def yX6_ofTill : MethodName := ⟨RX6, "ofTill", "(II)I"⟩
abbrev cX6_ofReceipt : ByteArray := prog_8_method_65_code
def yX6_ofReceipt : MethodName := ⟨RX6, "ofReceipt", "(II)I"⟩
abbrev cX6_sign : ByteArray := prog_8_method_66_code
def yX6_sign : MethodName := ⟨RX6, "sign", "(III)I"⟩
abbrev cX6_signAt : ByteArray := prog_8_method_67_code
def yX6_signAt : MethodName := ⟨RX6, "signAt", "(III)I"⟩
abbrev cX6_waiting : ByteArray := prog_8_method_68_code
def yX6_waiting : MethodName := ⟨RX6, "waiting", "(I)I"⟩
abbrev cX6_printer : ByteArray := prog_8_method_69_code
def yX6_printer : MethodName := ⟨RX6, "printer", "(I)I"⟩
abbrev cX6_count : ByteArray := prog_8_method_70_code
def yX6_count : MethodName := ⟨RX6, "count", "(I)I"⟩
abbrev cX6_between : ByteArray := prog_8_method_71_code
def yX6_between : MethodName := ⟨RX6, "between", "(III)I"⟩
abbrev cX6_leftOf : ByteArray := prog_8_method_72_code
def yX6_leftOf : MethodName := ⟨RX6, "leftOf", "(I)I"⟩
abbrev cX6_linesUpTo : ByteArray := prog_8_method_73_code
def yX6_linesUpTo : MethodName := ⟨RX6, "linesUpTo", "(I)I"⟩
abbrev cX6_ticksFor : ByteArray := prog_8_method_74_code
def yX6_ticksFor : MethodName := ⟨RX6, "ticksFor", "(I)I"⟩
abbrev cX6_doneIn : ByteArray := prog_8_method_75_code
def yX6_doneIn : MethodName := ⟨RX6, "doneIn", "(I)I"⟩
abbrev cX6_allLeft : ByteArray := prog_8_method_76_code
def yX6_allLeft : MethodName := ⟨RX6, "allLeft", "()I"⟩
abbrev cX6_linesLeft : ByteArray := prog_8_method_77_code
def yX6_linesLeft : MethodName := ⟨RX6, "linesLeft", "()I"⟩
abbrev cX6_outIn : ByteArray := prog_8_method_78_code
def yX6_outIn : MethodName := ⟨RX6, "outIn", "()I"⟩
abbrev cX6_bestWidth : ByteArray := prog_8_method_79_code
def yX6_bestWidth : MethodName := ⟨RX6, "bestWidth", "(II)I"⟩
abbrev cX6_ifStruck : ByteArray := prog_8_method_80_code
def yX6_ifStruck : MethodName := ⟨RX6, "ifStruck", "(II)I"⟩
abbrev cX6_put : ByteArray := prog_8_method_81_code
def yX6_put : MethodName := ⟨RX6, "put", "(J)I"⟩
abbrev cX6_wipe : ByteArray := prog_8_method_82_code
def yX6_wipe : MethodName := ⟨RX6, "wipe", "()I"⟩
abbrev cX6_canStand : ByteArray := prog_8_method_83_code
def yX6_canStand : MethodName := ⟨RX6, "canStand", "(I)Z"⟩
abbrev cX6_faultAt : ByteArray := prog_8_method_84_code
def yX6_faultAt : MethodName := ⟨RX6, "faultAt", "()I"⟩
abbrev cX6_fault : ByteArray := prog_8_method_85_code
def yX6_fault : MethodName := ⟨RX6, "fault", "()I"⟩
abbrev cX6_undo : ByteArray := prog_8_method_86_code
def yX6_undo : MethodName := ⟨RX6, "undo", "()I"⟩
abbrev cX6_save : ByteArray := prog_8_method_87_code
def yX6_save : MethodName := ⟨RX6, "save", "(I)I"⟩
abbrev cX6_restore : ByteArray := prog_8_method_88_code
def yX6_restore : MethodName := ⟨RX6, "restore", "(I)I"⟩
def RJ5 : String := "java/lang/AbstractStringBuilder"
abbrev cJ5_init_d00df : ByteArray := prog_9_method_2_code
def yJ5_init_d00df : MethodName := ⟨RJ5, "<init>", "(I)V"⟩
abbrev cJ5_length_8abf5 : ByteArray := prog_9_method_6_code
def yJ5_length_8abf5 : MethodName := ⟨RJ5, "length", "()I"⟩
abbrev cJ5_ensureCapacityInternal_d00df : ByteArray := prog_9_method_9_code
def yJ5_ensureCapacityInternal_d00df : MethodName := ⟨RJ5, "ensureCapacityInternal", "(I)V"⟩
abbrev cJ5_newCapacity_0f7a4 : ByteArray := prog_9_method_10_code
def yJ5_newCapacity_0f7a4 : MethodName := ⟨RJ5, "newCapacity", "(I)I"⟩
abbrev cJ5_inflate_da8c8 : ByteArray := prog_9_method_11_code
def yJ5_inflate_da8c8 : MethodName := ⟨RJ5, "inflate", "()V"⟩
abbrev cJ5_setLength_d00df : ByteArray := prog_9_method_13_code
def yJ5_setLength_d00df : MethodName := ⟨RJ5, "setLength", "(I)V"⟩
abbrev cJ5_charAt_5068e : ByteArray := prog_9_method_14_code
def yJ5_charAt_5068e : MethodName := ⟨RJ5, "charAt", "(I)C"⟩
abbrev cJ5_append_3fe6f : ByteArray := prog_9_method_31_code
def yJ5_append_3fe6f : MethodName := ⟨RJ5, "append", "(C)Ljava/lang/AbstractStringBuilder;"⟩
abbrev cJ5_getValue_6d5f1 : ByteArray := prog_9_method_64_code
def yJ5_getValue_6d5f1 : MethodName := ⟨RJ5, "getValue", "()[B"⟩
abbrev cJ5_isLatin1_aae02 : ByteArray := prog_9_method_68_code
def yJ5_isLatin1_aae02 : MethodName := ⟨RJ5, "isLatin1", "()Z"⟩
def RJx8e188 : String := "java/lang/Cloneable"
def RJ6 : String := "java/lang/Integer"
abbrev cJ6_bitCount_0f7a4 : ByteArray := prog_11_method_49_code
def yJ6_bitCount_0f7a4 : MethodName := ⟨RJ6, "bitCount", "(I)I"⟩
def RJ9 : String := "java/lang/Math"
abbrev cJ9_abs_0f7a4 : ByteArray := prog_12_method_59_code
def yJ9_abs_0f7a4 : MethodName := ⟨RJ9, "abs", "(I)I"⟩
abbrev cJ9_max_7cf53 : ByteArray := prog_12_method_65_code
def yJ9_max_7cf53 : MethodName := ⟨RJ9, "max", "(II)I"⟩
abbrev cJ9_min_7cf53 : ByteArray := prog_12_method_69_code
def yJ9_min_7cf53 : MethodName := ⟨RJ9, "min", "(II)I"⟩
def RJ0 : String := "java/lang/String"
def TJ0 : u_T := fun k => match k with
  | 0 => ("java/lang/String", "value", "[B", true)
  | 1 => ("java/lang/String", "coder", "B", true)
  | 2 => ("java/lang/String", "hash", "I", false)
  | _ => ("java/lang/String", "hashIsZero", "Z", false)
def tyJ0 : Nat → FieldType := fun k => match k with
  | 0 => .array .byte
  | 1 => .byte
  | 2 => .int
  | _ => .boolean
theorem nmJ0 : ∀ a, a < 4 → ∀ b, b < 4 → a ≠ b → (TJ0 a).2.1 ≠ (TJ0 b).2.1 := by decide +kernel
theorem tyJ0_ok : ∀ k, k < 4 → parseFieldDescriptor (TJ0 k).2.2.1 = some (tyJ0 k) := by decide +kernel
abbrev cJ0_init_81219 : ByteArray := prog_13_method_53_code
def yJ0_init_81219 : MethodName := ⟨RJ0, "<init>", "(Ljava/lang/StringBuilder;)V"⟩
abbrev cJ0_length_8abf5 : ByteArray := prog_13_method_54_code
def yJ0_length_8abf5 : MethodName := ⟨RJ0, "length", "()I"⟩
abbrev cJ0_charAt_5068e : ByteArray := prog_13_method_56_code
def yJ0_charAt_5068e : MethodName := ⟨RJ0, "charAt", "(I)C"⟩
abbrev cJ0_init_db425 : ByteArray := prog_13_method_150_code
def yJ0_init_db425 : MethodName := ⟨RJ0, "<init>", "(Ljava/lang/AbstractStringBuilder;Ljava/lang/Void;)V"⟩
abbrev cJ0_coder_7d493 : ByteArray := prog_13_method_152_code
def yJ0_coder_7d493 : MethodName := ⟨RJ0, "coder", "()B"⟩
abbrev cJ0_isLatin1_aae02 : ByteArray := prog_13_method_154_code
def yJ0_isLatin1_aae02 : MethodName := ⟨RJ0, "isLatin1", "()Z"⟩
abbrev cJ0_checkIndex_df160 : ByteArray := prog_13_method_155_code
def yJ0_checkIndex_df160 : MethodName := ⟨RJ0, "checkIndex", "(II)V"⟩
abbrev cJ0_checkBoundsOffCount_cabcc : ByteArray := prog_13_method_157_code
def yJ0_checkBoundsOffCount_cabcc : MethodName := ⟨RJ0, "checkBoundsOffCount", "(III)I"⟩
def RJ4 : String := "java/lang/StringBuilder"
def TJ4 : u_T := fun k => match k with
  | 0 => ("java/lang/AbstractStringBuilder", "value", "[B", false)
  | 1 => ("java/lang/AbstractStringBuilder", "coder", "B", false)
  | 2 => ("java/lang/AbstractStringBuilder", "maybeLatin1", "Z", false)
  | _ => ("java/lang/AbstractStringBuilder", "count", "I", false)
def tyJ4 : Nat → FieldType := fun k => match k with
  | 0 => .array .byte
  | 1 => .byte
  | 2 => .boolean
  | _ => .int
theorem nmJ4 : ∀ a, a < 4 → ∀ b, b < 4 → a ≠ b → (TJ4 a).2.1 ≠ (TJ4 b).2.1 := by decide +kernel
theorem tyJ4_ok : ∀ k, k < 4 → parseFieldDescriptor (TJ4 k).2.2.1 = some (tyJ4 k) := by decide +kernel
abbrev cJ4_init_da8c8 : ByteArray := prog_14_method_1_code
def yJ4_init_da8c8 : MethodName := ⟨RJ4, "<init>", "()V"⟩
abbrev cJ4_append_cf468 : ByteArray := prog_14_method_14_code
def yJ4_append_cf468 : MethodName := ⟨RJ4, "append", "(C)Ljava/lang/StringBuilder;"⟩
abbrev cJ4_toString_0e30d : ByteArray := prog_14_method_42_code
def yJ4_toString_0e30d : MethodName := ⟨RJ4, "toString", "()Ljava/lang/String;"⟩
abbrev cJ4_charAt_5068e : ByteArray := prog_14_method_88_code
def yJ4_charAt_5068e : MethodName := ⟨RJ4, "charAt", "(I)C"⟩
abbrev cJ4_setLength_d00df : ByteArray := prog_14_method_89_code
def yJ4_setLength_d00df : MethodName := ⟨RJ4, "setLength", "(I)V"⟩
abbrev cJ4_length_8abf5 : ByteArray := prog_14_method_93_code
def yJ4_length_8abf5 : MethodName := ⟨RJ4, "length", "()I"⟩
def RJ1 : String := "java/lang/StringLatin1"
abbrev cJ1_charAt_3b067 : ByteArray := prog_15_method_2_code
def yJ1_charAt_3b067 : MethodName := ⟨RJ1, "charAt", "([BI)C"⟩
abbrev cJ1_canEncode_fc78d : ByteArray := prog_15_method_3_code
def yJ1_canEncode_fc78d : MethodName := ⟨RJ1, "canEncode", "(C)Z"⟩
abbrev cJ1_fillNull_b72d1 : ByteArray := prog_15_method_48_code
def yJ1_fillNull_b72d1 : MethodName := ⟨RJ1, "fillNull", "([BII)V"⟩
abbrev cJ1_inflate_0e8fd : ByteArray := prog_15_method_50_code
def yJ1_inflate_0e8fd : MethodName := ⟨RJ1, "inflate", "([BI[BII)V"⟩
def RJ2 : String := "java/lang/StringUTF16"
abbrev cJ2_newBytesFor_77867 : ByteArray := prog_16_method_2_code
def yJ2_newBytesFor_77867 : MethodName := ⟨RJ2, "newBytesFor", "(I)[B"⟩
abbrev cJ2_newBytesLength_0f7a4 : ByteArray := prog_16_method_3_code
def yJ2_newBytesLength_0f7a4 : MethodName := ⟨RJ2, "newBytesLength", "(I)I"⟩
abbrev cJ2_putChar_b72d1 : ByteArray := prog_16_method_4_code
def yJ2_putChar_b72d1 : MethodName := ⟨RJ2, "putChar", "([BII)V"⟩
abbrev cJ2_getChar_3b067 : ByteArray := prog_16_method_5_code
def yJ2_getChar_3b067 : MethodName := ⟨RJ2, "getChar", "([BI)C"⟩
abbrev cJ2_length_9d52b : ByteArray := prog_16_method_6_code
def yJ2_length_9d52b : MethodName := ⟨RJ2, "length", "([B)I"⟩
abbrev cJ2_coderFromArrayLen_85cad : ByteArray := prog_16_method_15_code
def yJ2_coderFromArrayLen_85cad : MethodName := ⟨RJ2, "coderFromArrayLen", "([BI)B"⟩
abbrev cJ2_compress_39247 : ByteArray := prog_16_method_17_code
def yJ2_compress_39247 : MethodName := ⟨RJ2, "compress", "([BII)[B"⟩
abbrev cJ2_compress_5af95 : ByteArray := prog_16_method_22_code
def yJ2_compress_5af95 : MethodName := ⟨RJ2, "compress", "([BI[BII)I"⟩
abbrev cJ2_fillNull_b72d1 : ByteArray := prog_16_method_70_code
def yJ2_fillNull_b72d1 : MethodName := ⟨RJ2, "fillNull", "([BII)V"⟩
abbrev cJ2_putCharSB_b72d1 : ByteArray := prog_16_method_71_code
def yJ2_putCharSB_b72d1 : MethodName := ⟨RJ2, "putCharSB", "([BII)V"⟩
abbrev cJ2_charAt_3b067 : ByteArray := prog_16_method_83_code
def yJ2_charAt_3b067 : MethodName := ⟨RJ2, "charAt", "([BI)C"⟩
abbrev cJ2_inflate_0e8fd : ByteArray := prog_16_method_86_code
def yJ2_inflate_0e8fd : MethodName := ⟨RJ2, "inflate", "([BI[BII)V"⟩
abbrev cJ2_checkIndex_2214a : ByteArray := prog_16_method_91_code
def yJ2_checkIndex_2214a : MethodName := ⟨RJ2, "checkIndex", "(I[B)V"⟩
abbrev cJ2_checkBoundsOffCount_d044e : ByteArray := prog_16_method_94_code
def yJ2_checkBoundsOffCount_d044e : MethodName := ⟨RJ2, "checkBoundsOffCount", "(II[B)V"⟩
def RJ10 : String := "java/lang/System"
def RJ7 : String := "java/util/Arrays"
abbrev cJ7_rangeCheck_23922 : ByteArray := prog_18_method_30_code
def yJ7_rangeCheck_23922 : MethodName := ⟨RJ7, "rangeCheck", "(III)V"⟩
abbrev cJ7_fill_eb02e : ByteArray := prog_18_method_110_code
def yJ7_fill_eb02e : MethodName := ⟨RJ7, "fill", "([BIIB)V"⟩
abbrev cJ7_copyOf_9075b : ByteArray := prog_18_method_121_code
def yJ7_copyOf_9075b : MethodName := ⟨RJ7, "copyOf", "([BI)[B"⟩
abbrev cJ7_checkLength_df160 : ByteArray := prog_18_method_131_code
def yJ7_checkLength_df160 : MethodName := ⟨RJ7, "checkLength", "(II)V"⟩
abbrev cJ7_copyOfRange_39247 : ByteArray := prog_18_method_132_code
def yJ7_copyOfRange_39247 : MethodName := ⟨RJ7, "copyOfRange", "([BII)[B"⟩
abbrev cJ7_copyOfRangeByte_39247 : ByteArray := prog_18_method_133_code
def yJ7_copyOfRangeByte_39247 : MethodName := ⟨RJ7, "copyOfRangeByte", "([BII)[B"⟩
def RJ8 : String := "jdk/internal/util/ArraysSupport"
abbrev cJ8_newLength_cabcc : ByteArray := prog_19_method_27_code
def yJ8_newLength_cabcc : MethodName := ⟨RJ8, "newLength", "(III)I"⟩
abbrev cJ8_hugeLength_7cf53 : ByteArray := prog_19_method_28_code
def yJ8_hugeLength_7cf53 : MethodName := ⟨RJ8, "hugeLength", "(II)I"⟩
def RJ3 : String := "jdk/internal/util/Preconditions"
abbrev cJ3_checkIndex_8e157 : ByteArray := prog_20_method_11_code
def yJ3_checkIndex_8e157 : MethodName := ⟨RJ3, "checkIndex", "(IILjava/util/function/BiFunction;)I"⟩
abbrev cJ3_checkFromIndexSize_8c36e : ByteArray := prog_20_method_13_code
def yJ3_checkFromIndexSize_8c36e : MethodName := ⟨RJ3, "checkFromIndexSize", "(IIILjava/util/function/BiFunction;)I"⟩
def RL : String := "ReceiptRollsLaw"
abbrev cL_law : ByteArray := code
def yL_law : MethodName := ⟨RL, "law", "([I)Z"⟩
abbrev vwCl : List vw_C := [(RJ0, TJ0, 4), (RJ4, TJ4, 4), (RX0, TX0, 2), (RX1, TX1, 4), (RX2, TX2, 14), (RX3, TX3, 6), (RX4, TX4, 13), (RX5, TX5, 5), (RX6, TX6, 15)]
end
section
/-! THE PICTURE: values, cells, heaps as a method's function sees them -/
abbrev AV : Type := Int32 ⊕ (Int64 ⊕ Option Nat)
def tV : AV → Value
  | .inl x => .int x
  | .inr (.inl y) => .long y
  | .inr (.inr r) => va_rf r
abbrev Cl : Type := (Nat × vp_A) ⊕ (Nat × List AV)
/-- the cells, how many addresses are used up, how many slots were made -/
abbrev Hp : Type := (Nat → Option Cl) × Nat × Nat
abbrev Rs : Type := Option (Hp × Option AV)
/-- class numbers and slots; the array classes; the first address that is ours; the statics' references -/
abbrev Cx : Type := va_G × (Nat → ClassId) × Nat × (Nat → Option Nat)
/-- a method: name, code, locals, what it returns, how deep its calls go -/
abbrev MI : Type := MethodName × ByteArray × Nat × Option FieldType × Nat
def tyA : Nat → FieldType
  | 0 => .int
  | 1 => .byte
  | 2 => .boolean
  | 3 => .char
  | 4 => .object "ReceiptRolls$Item"
  | 5 => .object "ReceiptRolls$Receipt"
  | _ => .object "ReceiptRolls$State"
def tysX (X : Cx) : List (ClassId × FieldType) := [(X.2.1 0, .int), (X.2.1 1, .byte), (X.2.1 2, .boolean), (X.2.1 3, .char), (X.2.1 4, .object "ReceiptRolls$Item"), (X.2.1 5, .object "ReceiptRolls$Receipt"), (X.2.1 6, .object "ReceiptRolls$State")]
theorem tysX_at (X : Cx) {k : Nat} (h : k < 7) : (tysX X)[k]? = some (X.2.1 k, tyA k) := by
  match k, h with
  | 0, _ => rfl
  | 1, _ => rfl
  | 2, _ => rfl
  | 3, _ => rfl
  | 4, _ => rfl
  | 5, _ => rfl
  | 6, _ => rfl
/-- ours: what may be written -/
def AX (X : Cx) : Nat → Prop := fun q => X.2.2.1 ≤ q
def rep1 (X : Cx) (s : State) (ws : va_W) (a : Nat) (e : Cl) : Prop := match e with
  | .inl (k, arr) => (k < 7 ∧ ∃ i : Nat, ws[i]? = some (a, .inl (X.2.1 k, arr))) ∨ (k = 10 ∧ ∃ g : Nat → Int32, arr.2 = .inl g ∧ va_T .int a arr.1 (fun j => .int (g j)) (AX X) s s.heap) ∨ (k = 11 ∧ ∃ g : Nat → Int32, arr.2 = .inl g ∧ (∀ j, fits .byte (.int (g j)) = true) ∧ va_T .byte a arr.1 (fun j => .int (g j)) (AX X) s s.heap)
  | .inr (ci, fs) => (ci < 9 ∧ ∃ i : Nat, ws[i]? = some (a, .inr (ci, fs.map tV))) ∨ (ci = 10 ∧ ∃ q : Nat, fs = [.inr (.inr (some q)), .inl 0] ∧ va_O "java/lang/String" a (AX X) s s.heap ∧ va_OF "java/lang/String" "value" "[B" (.ref q) a (AX X) s s.heap ∧ va_OF "java/lang/String" "coder" "B" (.int 0) a (AX X) s s.heap)
/-- the machine's heap holds the picture -/
def RepH (X : Cx) (s : State) (h : Hp) (H : Heap) : Prop := ∃ ws : va_W, va_P X.1 vwCl ws H ∧ va_D (AX X) ws ∧ H.size = h.2.1 ∧ X.2.2.1 ≤ h.2.1 ∧ ∀ a e, h.1 a = some e → rep1 X s ws a e
def FrN (N0 : Nat) (H1 H2 : Heap) : Prop := ∀ q : Nat, q < N0 → H2[q]? = H1[q]?
theorem FrN.rf {N0 : Nat} {H : Heap} : FrN N0 H H := fun _ _ => rfl
theorem FrN.trans {N0 : Nat} {H1 H2 H3 : Heap} (h : FrN N0 H1 H2) (h' : FrN N0 H2 H3) : FrN N0 H1 H3 := fun q hq => (h' q hq).trans (h q hq)
theorem FrN.symm {N0 : Nat} {H1 H2 : Heap} (h : FrN N0 H1 H2) : FrN N0 H2 H1 := fun q hq => (h q hq).symm
/-- what a method needs of its start, beside the words -/
def Env (X : Cx) (U : State) : Prop :=
  va_K X.1 vwCl (tysX X) U ∧ (va_AO "ReceiptRolls$Item" U ∧ va_AO "ReceiptRolls$Receipt" U ∧ va_AO "ReceiptRolls$State" U) ∧
  (va_Nw (.methodLinkNest "ReceiptRolls$State" 31 yX2_init "ReceiptRolls") U ∧ va_Nw (.methodLinkNest "ReceiptRolls" 36 yX3_init "ReceiptRolls") U) ∧
  (va_Nw (.fieldLinkNest "ReceiptRolls$Sheet" 69 "ReceiptRolls" "RATES" "[I" "ReceiptRolls") U ∧ va_Nw (.fieldLinkNest "ReceiptRolls$Receipt" 86 "ReceiptRolls" "RATES" "[I" "ReceiptRolls") U) ∧
  (va_Z "ReceiptRolls" "LEAST_SETTINGS" "[I" (va_rf (X.2.2.2 0)) (AX X) U U.heap ∧ va_Z "ReceiptRolls" "MOST_SETTINGS" "[I" (va_rf (X.2.2.2 1)) (AX X) U U.heap ∧ va_Z "ReceiptRolls" "RATES" "[I" (va_rf (X.2.2.2 2)) (AX X) U U.heap ∧ va_Z "jdk/internal/util/Preconditions" "SIOOBE_FORMATTER" "Ljava/util/function/BiFunction;" (va_rf (X.2.2.2 3)) (AX X) U U.heap ∧ va_Z "java/lang/String" "COMPACT_STRINGS" "Z" (.int 1) (AX X) U U.heap) ∧
  ((∃ a, X.2.2.2 4 = some a ∧ vk_R "ReceiptRolls$Sheet" 19 "#" a U) ∧ (∃ a, X.2.2.2 5 = some a ∧ vk_R "ReceiptRolls$Sheet" 50 "void " a U) ∧ (∃ a, X.2.2.2 6 = some a ∧ vk_R "ReceiptRolls$Sheet" 62 "sum" a U) ∧ (∃ a, X.2.2.2 7 = some a ∧ vk_R "ReceiptRolls$Sheet" 76 "tax " a U)) ∧
  va_Nw (.castable "[B" "java/lang/Cloneable") U
theorem fr_kept {X : Cx} {H1 H2 : Heap} (hf : FrN X.2.2.1 H1 H2) : ∀ a : Nat, a < H1.size → ¬ AX X a → H2[a]? = H1[a]? := fun a _ hA => hf a (Nat.not_le.mp hA)
theorem Env.to {X : Cx} {s U : State} (hW : s.WarmedH U.vm) (hf : FrN X.2.2.1 s.heap U.heap) (h : Env X s) : Env X U := by
  obtain ⟨h1, ⟨a1, a2, a3⟩, ⟨b1, b2⟩, ⟨c1, c2⟩, ⟨z1, z2, z3, z4, z5⟩, ⟨⟨q1, e1, k1⟩, ⟨q2, e2, k2⟩, ⟨q3, e3, k3⟩, ⟨q4, e4, k4⟩⟩, cc⟩ := h
  have hm := hW.alike
  refine ⟨h1.moved hm, ⟨a1.moved hm, a2.moved hm, a3.moved hm⟩, ⟨va_Nw.warmM hW b1, va_Nw.warmM hW b2⟩, ⟨va_Nw.warmF hW c1, va_Nw.warmF hW c2⟩,
    ⟨(va_Z.moved hm z1).kept (fr_kept hf), (va_Z.moved hm z2).kept (fr_kept hf), (va_Z.moved hm z3).kept (fr_kept hf), (va_Z.moved hm z4).kept (fr_kept hf), (va_Z.moved hm z5).kept (fr_kept hf)⟩,
    ⟨⟨q1, e1, k1.warm hW⟩, ⟨q2, e2, k2.warm hW⟩, ⟨q3, e3, k3.warm hW⟩, ⟨q4, e4, k4.warm hW⟩⟩, va_Nw.warmC hW cc⟩
theorem rep1_to {X : Cx} {s U : State} {ws : va_W} {a : Nat} {e : Cl} (hm : s.vm.Alike U.vm) (hf : FrN X.2.2.1 s.heap U.heap) (h : rep1 X s ws a e) : rep1 X U ws a e := by
  obtain ⟨k, arr⟩ | ⟨ci, fs⟩ := e
  · rcases h with h | ⟨h, g, h1, h2⟩ | ⟨h, g, h1, h3, h2⟩
    · exact Or.inl h
    · exact Or.inr (Or.inl ⟨h, g, h1, (va_T.moved hm h2).kept (fr_kept hf)⟩)
    · exact Or.inr (Or.inr ⟨h, g, h1, h3, (va_T.moved hm h2).kept (fr_kept hf)⟩)
  · rcases h with h | ⟨h, q, h1, h2, h3, h4⟩
    · exact Or.inl h
    · exact Or.inr ⟨h, q, h1, (va_O.moved hm h2).kept (fr_kept hf), (va_OF.moved hm h3).kept (fr_kept hf), (va_OF.moved hm h4).kept (fr_kept hf)⟩
theorem RepH.to {X : Cx} {s U : State} {h : Hp} {H : Heap} (hm : s.vm.Alike U.vm) (hf : FrN X.2.2.1 s.heap U.heap) (r : RepH X s h H) : RepH X U h H := by
  obtain ⟨ws, h1, h2, h3, h4, h5⟩ := r
  exact ⟨ws, h1, h2, h3, h4, fun a e he => rep1_to hm hf (h5 a e he)⟩
/-! LOCALS -/
def LV (ls : Array Slot) (n : Nat) (L : List (Option AV)) : Prop := ls.size = n ∧ lv_wf ls ∧ ∀ (i : Nat) (v : AV), L[i]? = some (some v) → ls[i]? = some (.val (tV v))
def lvF (L : List (Option AV)) (i : Nat) : Option (Nat × Value) := match L[i]? with
  | some (some v) => some (i, tV v)
  | _ => none
def lvL (L : List (Option AV)) : List (Nat × Value) := (List.range L.length).filterMap (lvF L)
theorem lvF_some {L : List (Option AV)} {i : Nat} {q : Nat × Value} (h : lvF L i = some q) : ∃ v, L[i]? = some (some v) ∧ q = (i, tV v) := by
  unfold lvF at h
  split at h
  · next v hv => exact ⟨v, hv, (Option.some.inj h).symm⟩
  · cases h
theorem mem_lvL {L : List (Option AV)} {i : Nat} {v : AV} (h : L[i]? = some (some v)) : (i, tV v) ∈ lvL L :=
  List.mem_filterMap.mpr ⟨i, List.mem_range.mpr (List.getElem?_eq_some_iff.mp h).1, by unfold lvF; rw [h]⟩
theorem LV.has {ls : Array Slot} {n : Nat} {L : List (Option AV)} (h : LV ls n L) : lv_has ls n (lvL L) := by
  refine ⟨h.1, h.2.1, fun q hq => ?_⟩
  obtain ⟨i, -, hi⟩ := List.mem_filterMap.mp hq
  obtain ⟨v, h1, rfl⟩ := lvF_some hi
  exact h.2.2 i v h1
/-- the place ahead is no long's -/
def pvOk (L : List (Option AV)) (i : Nat) : Bool := match i with
  | 0 => true
  | j + 1 => match L[j]? with
    | some (some (.inr (.inl _))) => false
    | _ => true
theorem tV_cat1 {v : AV} (h : (tV v).category = 2) : ∃ y, v = .inr (.inl y) := by
  obtain x | y | r := v
  · cases h
  · exact ⟨y, rfl⟩
  · cases r <;> cases h
theorem LV.st1 {ls' : Array Slot} {n : Nat} {L : List (Option AV)} {i : Nat} {v : AV} (hp : pvOk L i = true)
    (h : lv_has ls' n ((i, tV v) :: (lvL L).filter (fun q => !(q.1 == i) && !(q.1 + 1 == i && q.2.category == 2)))) : LV ls' n (L.set i (some v)) := by
  refine ⟨h.1, h.2.1, fun j w hj => ?_⟩
  by_cases hij : j = i
  · subst hij
    have hlt : j < L.length := by
      have := (List.getElem?_eq_some_iff.mp hj).1
      simpa using this
    rw [List.getElem?_set_self hlt] at hj
    cases hj
    exact h.2.2 (j, tV v) List.mem_cons_self
  · rw [List.getElem?_set_ne (fun e => hij e.symm)] at hj
    refine h.2.2 (j, tV w) (List.mem_cons_of_mem _ (List.mem_filter.mpr ⟨mem_lvL hj, ?_⟩))
    simp only [Bool.and_eq_true, Bool.not_eq_true', Bool.and_eq_false_iff, beq_eq_false_iff_ne]
    refine ⟨hij, ?_⟩
    by_cases h1 : j + 1 = i
    · right
      intro h2
      obtain ⟨y, rfl⟩ := tV_cat1 h2
      subst h1
      simp [pvOk, hj] at hp
    · exact Or.inl h1
theorem LV.st2 {ls' : Array Slot} {n : Nat} {L : List (Option AV)} {i : Nat} {v : AV} (hp : pvOk L i = true)
    (h : lv_has ls' n ((i, tV v) :: (lvL L).filter (fun q => !(q.1 == i) && (!(q.1 == i + 1) && !(q.1 + 1 == i && q.2.category == 2))))) : LV ls' n ((L.set (i + 1) none).set i (some v)) := by
  refine ⟨h.1, h.2.1, fun j w hj => ?_⟩
  by_cases hij : j = i
  · subst hij
    have hlt : j < (L.set (j + 1) none).length := by
      have := (List.getElem?_eq_some_iff.mp hj).1
      simpa using this
    rw [List.getElem?_set_self hlt] at hj
    cases hj
    exact h.2.2 (j, tV v) List.mem_cons_self
  · rw [List.getElem?_set_ne (fun e => hij e.symm)] at hj
    by_cases hij1 : j = i + 1
    · subst hij1
      have hlt : i + 1 < L.length := by
        have := (List.getElem?_eq_some_iff.mp hj).1
        simpa using this
      rw [List.getElem?_set_self hlt] at hj
      cases hj
    · rw [List.getElem?_set_ne (fun e => hij1 e.symm)] at hj
      refine h.2.2 (j, tV w) (List.mem_cons_of_mem _ (List.mem_filter.mpr ⟨mem_lvL hj, ?_⟩))
      simp only [Bool.and_eq_true, Bool.not_eq_true', Bool.and_eq_false_iff, beq_eq_false_iff_ne]
      refine ⟨hij, hij1, ?_⟩
      by_cases h1 : j + 1 = i
      · right
        intro h2
        obtain ⟨y, rfl⟩ := tV_cat1 h2
        subst h1
        simp [pvOk, hj] at hp
      · exact Or.inl h1
/-- fewer are known -/
def lvLe (L L' : List (Option AV)) : Prop := ∀ (i : Nat) (v : AV), L'[i]? = some (some v) → L[i]? = some (some v)
theorem LV.le {ls : Array Slot} {n : Nat} {L L' : List (Option AV)} (h : LV ls n L) (hl : lvLe L L') : LV ls n L' := ⟨h.1, h.2.1, fun i v hv => h.2.2 i v (hl i v hv)⟩
def entL : List AV → List (Option AV)
  | [] => []
  | .inr (.inl y) :: as => some (.inr (.inl y)) :: none :: entL as
  | v :: as => some v :: entL as
theorem entL_args : ∀ (as : List AV) (k i : Nat) (v : AV), (entL as)[i]? = some (some v) → (k + i, tV v) ∈ lv_args k (as.map tV) := by
  intro as
  induction as with
  | nil => intro k i v h; simp [entL] at h
  | cons a as ih =>
    intro k i v h
    obtain x | y | r := a
    · cases i with
      | zero => simp only [entL, List.getElem?_cons_zero, Option.some.injEq] at h; subst h; exact List.mem_cons_self
      | succ i =>
        simp only [entL, List.getElem?_cons_succ] at h
        have := ih (k + 1) i v h
        rw [show k + 1 + i = k + (i + 1) by omega] at this
        exact List.mem_cons_of_mem _ this
    · cases i with
      | zero => simp only [entL, List.getElem?_cons_zero, Option.some.injEq] at h; subst h; exact List.mem_cons_self
      | succ i =>
        cases i with
        | zero => simp [entL] at h
        | succ i =>
          simp only [entL, List.getElem?_cons_succ] at h
          have := ih (k + 2) i v h
          rw [show k + 2 + i = k + (i + 1 + 1) by omega] at this
          exact List.mem_cons_of_mem _ this
    · have hc : (tV (.inr (.inr r))).category = 1 := by cases r <;> rfl
      cases i with
      | zero => simp only [entL, List.getElem?_cons_zero, Option.some.injEq] at h; subst h; exact List.mem_cons_self
      | succ i =>
        simp only [entL, List.getElem?_cons_succ] at h
        have := ih (k + 1) i v h
        rw [show k + 1 + i = k + (i + 1) by omega] at this
        show _ ∈ (_, _) :: lv_args (if (tV (.inr (.inr r))).category = 2 then k + 2 else k + 1) _
        rw [hc, if_neg (by decide)]
        exact List.mem_cons_of_mem _ this
theorem entL_len : ∀ (as : List AV), (lg_sl (as.map tV)).length = (entL as).length := by
  intro as
  induction as with
  | nil => rfl
  | cons a as ih =>
    obtain x | y | r := a
    · simp [lg_sl, entL, tV, Value.category] at ih ⊢; omega
    · simp [lg_sl, entL, tV, Value.category] at ih ⊢; omega
    · cases r <;> (simp [lg_sl, entL, tV, va_rf, Value.category] at ih ⊢; omega)
theorem LV.entry (as : List AV) {n : Nat} (h : (entL as).length ≤ n) : LV ((lg_sl (as.map tV) ++ List.replicate (n - (lg_sl (as.map tV)).length) Slot.unset).toArray) n (entL as ++ List.replicate (n - (entL as).length) none) := by
  have h1 := lv_entry (as.map tV) (n := n) (by rw [entL_len]; exact h)
  refine ⟨h1.1, h1.2.1, fun i v hi => ?_⟩
  have h2 : (entL as)[i]? = some (some v) := by
    by_cases hl : i < (entL as).length
    · rw [List.getElem?_append_left hl] at hi; exact hi
    · rw [List.getElem?_append_right (by omega)] at hi
      have := List.eq_of_mem_replicate (List.mem_of_getElem? hi)
      cases this
  have := entL_args as 0 i v h2
  rw [Nat.zero_add] at this
  exact h1.2.2 _ this
end
section
/-! THE JUDGEMENT: what a function says of the machine, from a place in a method's code -/
def HLe (h h' : Hp) : Prop := h.2.1 ≤ h'.2.1 ∧ h.2.2 ≤ h'.2.2
theorem HLe.rf {h : Hp} : HLe h h := ⟨Nat.le_refl _, Nat.le_refl _⟩
theorem HLe.trans {a b c : Hp} (h : HLe a b) (h' : HLe b c) : HLe a c := ⟨Nat.le_trans h.1 h'.1, Nat.le_trans h.2 h'.2⟩
def goodTbl : List Cond := lw_tbl.filter goodWord
theorem gw {w : Cond} (i : Nat) (h : lw_tbl[i]? = some w) (hg : goodWord w = true) : w ∈ goodTbl := List.mem_filter.mpr ⟨List.mem_of_getElem? h, hg⟩
def wsM (M : MI) : List Cond := Cond.code M.1 M.2.1 M.2.2.1 M.2.2.2.1 :: goodTbl
def rmM (M : MI) (h0 hf : Hp) : Room := { frames := M.2.2.2.2, cells := hf.2.1 - h0.2.1, slots := hf.2.2 - h0.2.2, locals := 40 * M.2.2.2.2 }
def At0 (M : MI) (X : Cx) (p : Program) (s : State) (m : MethodId) (args : Array Value) (meth : Method) (c : Code) : Prop :=
  p.tables.exec = Jvm.exec ∧ c.code = M.2.1 ∧ c.maxLocals = M.2.2.1 ∧ s.vm.findClass M.1.cls = some m.cls ∧ meth.name = M.1.name ∧ (∀ w ∈ goodTbl, w.before args s = true) ∧ Env X s ∧ X.2.2.1 ≤ s.heap.size
def RmOk (M : MI) (h0 hf : Hp) (R : Room) : Prop := M.2.2.2.2 ≤ R.frames ∧ 40 * M.2.2.2.2 ≤ R.locals ∧ hf.2.1 - h0.2.1 ≤ R.cells ∧ hf.2.2 - h0.2.2 ≤ R.slots
def Inv (X : Cx) (s : State) (h : Hp) (H : Heap) (locs : List Loc) : Prop := RepH X s h H ∧ FrN X.2.2.1 s.heap H ∧ s.heap.size ≤ H.size ∧ ∀ q ∈ locs, X.2.2.1 ≤ q.base
def retI (i : Instr) (r : Option AV) (ret : Option FieldType) : Prop := match r with
  | some (.inl x) => i = .ireturn ∧ ∃ ty, ret = some ty ∧ narrow ty (.int x) = .int x
  | some (.inr (.inl _)) => False
  | some (.inr (.inr _)) => i = .areturn ∧ ∃ ty, ret = some ty ∧ ((∃ n, ty = .object n) ∨ ∃ t, ty = .array t)
  | none => i = .return_ ∧ ret = none
def RetK (X : Cx) (M : MI) (h0 hf : Hp) (r : Option AV) (l : Launch) (p : Program) (e : Jvm.Env) (R : Room) (s : State) (m : MethodId) (args : Array Value) (below : List Frame) (meth : Method) (c : Code) (Q : State → Prop) : Prop :=
  ∀ (H : Heap) (locs : List Loc) (ls : Array Slot) (pc : Nat) (i : Instr), Inv X s hf H locs → decode M.2.1 pc = .ok (i, 1) → retI i r M.2.2.2.1 →
    W p l e R s m args below meth c H locs (hf.2.1 - h0.2.1) (hf.2.2 - h0.2.2) Q (F0 m pc ls (r.toList.map tV))
def GW (X : Cx) (M : MI) (h0 hf : Hp) (r : Option AV) (h : Hp) (pc : Nat) (L : List (Option AV)) (st : List AV) : Prop :=
  ∀ (l : Launch) (p : Program) (e : Jvm.Env) (R : Room) (s : State) (m : MethodId) (args : Array Value) (below : List Frame) (meth : Method) (c : Code) (Q : State → Prop),
    At0 M X p s m args meth c → RmOk M h0 hf R → RetK X M h0 hf r l p e R s m args below meth c Q → ∀ (H : Heap) (locs : List Loc) (ls : Array Slot), Inv X s h H locs → LV ls M.2.2.1 L →
    W p l e R s m args below meth c H locs (h.2.1 - h0.2.1) (h.2.2 - h0.2.2) Q (F0 m pc ls (st.map tV))
def Gd (X : Cx) (M : MI) (h0 : Hp) (o : Rs) (h : Hp) (pc : Nat) (L : List (Option AV)) (st : List AV) : Prop :=
  ∀ (hf : Hp) (r : Option AV), o = some (hf, r) → HLe h hf ∧ (HLe h0 h → GW X M h0 hf r h pc L st)
/-! a method as a whole -/
def PcM (X : Cx) (h : Hp) (as : List AV) : Array Value → State → Prop := fun v U => v = (as.map tV).toArray ∧ RepH X U h U.heap ∧ Env X U ∧ X.2.2.1 ≤ U.heap.size
def QcM (X : Cx) (hf : Hp) (r : Option AV) : Array Value → State → Outcome → State → Prop := fun _ st o t => o = .returned (r.map tV) ∧ RepH X t hf t.heap ∧ FrN X.2.2.1 st.heap t.heap ∧ st.heap.size ≤ t.heap.size
def SO (X : Cx) (M : MI) (as : List AV) (h : Hp) (o : Rs) : Prop :=
  ∀ (hf : Hp) (r : Option AV), o = some (hf, r) → HLe h hf ∧ ∀ l : Launch, Met l M.1 (wsM M) (rmM M h hf) (PcM X h as) (QcM X hf r) (hf.2.1 - h.2.1) (hf.2.2 - h.2.2) (fun q => X.2.2.1 ≤ q)
set_option maxHeartbeats 4000000 in
theorem so_of {X : Cx} {M : MI} {as : List AV} {h : Hp} {o : Rs} (hy : plainName M.1.cls = true) (hn : (entL as).length ≤ M.2.2.1)
    (k : Gd X M h o h 0 (entL as ++ List.replicate (M.2.2.1 - (entL as).length) none) []) : SO X M as h o := by
  intro hf r ho
  obtain ⟨hle, k⟩ := k hf r ho
  refine ⟨hle, fun l => ?_⟩
  refine Met.ofW (cc := M.2.1) (maxL := M.2.2.1) (ret := M.2.2.2.1) (ws' := goodTbl) hy rfl ?_
  intro p e s m args below meth c s₁ B hml hv
  obtain ⟨rfl, hrep, henv, hN⟩ := hv
  have hts := atoms_spec (ws := wsM M) B.pre
  have hlocks : meth.locks = false := B.notSynchronized
  have hat : At0 M X p s m (as.map tV).toArray meth c := ⟨B.exec, B.bytes, hml, findClass_of_methodNamed B.named, (name_of_methodNamed B.named B.method).1, fun w hw => hts w (List.mem_cons_of_mem _ hw), henv, hN⟩
  have hr := B.returns
  rw [lg_entry_eq]
  have h0 := k HLe.rf l p e (headSpec (wsM M) (rmM M h hf)).room s m (as.map tV).toArray below meth c (MQ below (QcM X hf r) (as.map tV).toArray s (hf.2.1 - h.2.1) (hf.2.2 - h.2.2) (fun q => X.2.2.1 ≤ q)) hat
    ⟨Nat.le_refl _, Nat.le_refl _, Nat.le_refl _, Nat.le_refl _⟩ ?_ s.heap [] _ ⟨hrep, FrN.rf, Nat.le_refl _, fun q hq => by cases hq⟩ (LV.entry as hn)
  · rw [Nat.sub_self, Nat.sub_self] at h0
    exact h0
  · intro H locs ls pc i hI hd hri
    obtain ⟨hI1, hI2, hI3, hI4⟩ := hI
    have fin : ∀ (v : Option Value), v = r.map tV → ∀ t : State, t.heap = H → s.WarmedH t.vm → QcM X hf r (as.map tV).toArray s (.returned v) t := fun v hv t ht hW => ⟨by rw [hv], by rw [ht]; exact RepH.to hW.alike (by rw [ht]; exact hI2) hI1, by rw [ht]; exact hI2, by rw [ht]; exact hI3⟩
    obtain _ | x | y | q := r
    · obtain ⟨rfl, hret⟩ := hri
      exact W.vret B.exec B.bytes (hr.trans hret) (fin none rfl) hI4 hd
    · obtain ⟨rfl, ty, hret, hna⟩ := hri
      exact W.zret B.exec B.bytes (hr.trans hret) hna (fin _ rfl) hI4 hd
    · exact hri.elim
    · obtain ⟨rfl, ty, hret, hty⟩ := hri
      exact W.aret (v := va_rf q) B.exec B.bytes (hr.trans hret) hty (by cases q with
        | none => exact Or.inl rfl
        | some a => exact Or.inr ⟨a, rfl⟩) (fin _ rfl) hI4 hd
theorem gd_none {X : Cx} {M : MI} {h0 h : Hp} {pc : Nat} {L : List (Option AV)} {st : List AV} : Gd X M h0 none h pc L st := fun _ _ e => by cases e
/-! STEPS THAT LEAVE THE HEAP ALONE, by a table of the code: place, instruction, length, constant, target -/
abbrev TE : Type := Nat × Instr × Nat × Int32 × Nat
def chI (x : Int32) : Int32 := (x.toUInt32 % 65536).toInt32
def byI (x : Int32) : Int32 := x.toInt8.toInt32
def shlI (x y : Int32) : Int32 := x <<< (y &&& 31)
def shrI (x y : Int32) : Int32 := x >>> (y &&& 31)
def ushrI (x y : Int32) : Int32 := (x.toUInt32 >>> (y.toUInt32 &&& Int32.toUInt32 31)).toInt32
def shlL (x : Int64) (y : Int32) : Int64 := x <<< (y.toInt64 &&& 63)
def ushrL (x : Int64) (y : Int32) : Int64 := (x.toUInt64 >>> (y.toInt64.toUInt64 &&& Int64.toUInt64 63)).toInt64
def cvB (x : TE) : Bool := match x.2.1 with
  | .iconst k => x.2.2.1 == 1 && x.2.2.2.1 == Int32.ofInt k
  | .bipush k => x.2.2.1 == 2 && x.2.2.2.1 == (Int8.ofInt k).toInt32
  | .sipush k => x.2.2.1 == 3 && x.2.2.2.1 == (Int16.ofInt k).toInt32
  | .iinc _ k => x.2.2.1 == 3 && x.2.2.2.1 == Int32.ofInt k
  | .iload _ | .aload _ | .lload _ | .istore _ | .astore _ | .lstore _ => x.2.2.1 == 2
  | .iload_n _ | .aload_n _ | .lload_n _ | .istore_n _ | .astore_n _ | .lstore_n _ => x.2.2.1 == 1
  | .iadd | .isub | .imul | .iand | .ior | .ixor | .ineg | .ishl | .ishr | .iushr | .land | .lor | .lushr | .lshl | .i2l | .l2i | .i2b | .i2c | .lcmp | .dup | .dup_x1 | .dup2 | .pop | .aconst_null => x.2.2.1 == 1
  | .goto o | .ifCond _ o | .if_icmp _ o | .ifnull o | .ifnonnull o => x.2.2.1 == 3 && decide ((x.1 : Int) + o = (x.2.2.2.2 : Int))
  | .getfield _ | .putfield _ | .getstatic _ | .invokevirtual _ | .invokespecial _ | .invokestatic _ | .new _ | .anewarray _ | .ldc2_w _ | .checkcast _ => x.2.2.1 == 3
  | .newarray _ | .ldc _ => x.2.2.1 == 2
  | .iaload | .baload | .caload | .aaload | .iastore | .bastore | .castore | .aastore | .arraylength | .idiv | .irem | .ireturn | .areturn | .return_ | .lconst _ => x.2.2.1 == 1
  | _ => true
def tbB (cc : ByteArray) (x : TE) : Bool := decide (decode cc x.1 = .ok (x.2.1, x.2.2.1)) && cvB x
abbrev PS : Type := Option (Nat × List (Option AV) × List AV)
def ldI (x : TE) (k : Nat) (L : List (Option AV)) (st : List AV) : PS := match L[k]? with
  | some (some (.inl v)) => some (x.1 + x.2.2.1, L, .inl v :: st)
  | _ => none
def ldA (x : TE) (k : Nat) (L : List (Option AV)) (st : List AV) : PS := match L[k]? with
  | some (some (.inr (.inr v))) => some (x.1 + x.2.2.1, L, .inr (.inr v) :: st)
  | _ => none
def ldL (x : TE) (k : Nat) (L : List (Option AV)) (st : List AV) : PS := match L[k]? with
  | some (some (.inr (.inl v))) => some (x.1 + x.2.2.1, L, .inr (.inl v) :: st)
  | _ => none
def stI (x : TE) (k nL : Nat) (L : List (Option AV)) (st : List AV) : PS := match st with
  | .inl v :: r => if Nat.blt k nL && pvOk L k then some (x.1 + x.2.2.1, L.set k (some (.inl v)), r) else none
  | _ => none
def stA (x : TE) (k nL : Nat) (L : List (Option AV)) (st : List AV) : PS := match st with
  | .inr (.inr v) :: r => if Nat.blt k nL && pvOk L k then some (x.1 + x.2.2.1, L.set k (some (.inr (.inr v))), r) else none
  | _ => none
def stL (x : TE) (k nL : Nat) (L : List (Option AV)) (st : List AV) : PS := match st with
  | .inr (.inl v) :: r => if Nat.blt (k + 1) nL && pvOk L k then some (x.1 + x.2.2.1, (L.set (k + 1) none).set k (some (.inr (.inl v))), r) else none
  | _ => none
def bin (x : TE) (f : Int32 → Int32 → Int32) (L : List (Option AV)) (st : List AV) : PS := match st with
  | .inl w :: .inl v :: r => some (x.1 + 1, L, .inl (f v w) :: r)
  | _ => none
def un1 (x : TE) (f : Int32 → Int32) (L : List (Option AV)) (st : List AV) : PS := match st with
  | .inl v :: r => some (x.1 + 1, L, .inl (f v) :: r)
  | _ => none
def binL (x : TE) (f : Int64 → Int64 → Int64) (L : List (Option AV)) (st : List AV) : PS := match st with
  | .inr (.inl w) :: .inr (.inl v) :: r => some (x.1 + 1, L, .inr (.inl (f v w)) :: r)
  | _ => none
def shL (x : TE) (f : Int64 → Int32 → Int64) (L : List (Option AV)) (st : List AV) : PS := match st with
  | .inl w :: .inr (.inl v) :: r => some (x.1 + 1, L, .inr (.inl (f v w)) :: r)
  | _ => none
def c1 (v : AV) : Bool := match v with
  | .inr (.inl _) => false
  | _ => true
def ps (x : TE) (nL : Nat) (L : List (Option AV)) (st : List AV) : PS := match x.2.1 with
  | .iconst _ => some (x.1 + x.2.2.1, L, .inl x.2.2.2.1 :: st)
  | .bipush _ => some (x.1 + x.2.2.1, L, .inl x.2.2.2.1 :: st)
  | .sipush _ => some (x.1 + x.2.2.1, L, .inl x.2.2.2.1 :: st)
  | .iload k => ldI x k L st
  | .iload_n k => ldI x k L st
  | .aload k => ldA x k L st
  | .aload_n k => ldA x k L st
  | .lload k => ldL x k L st
  | .lload_n k => ldL x k L st
  | .istore k => stI x k nL L st
  | .istore_n k => stI x k nL L st
  | .astore k => stA x k nL L st
  | .astore_n k => stA x k nL L st
  | .lstore k => stL x k nL L st
  | .lstore_n k => stL x k nL L st
  | .iinc k _ => match L[k]? with
    | some (some (.inl v)) => if Nat.blt k nL && pvOk L k then some (x.1 + x.2.2.1, L.set k (some (.inl (v + x.2.2.2.1))), st) else none
    | _ => none
  | .iadd => bin x (· + ·) L st
  | .isub => bin x (· - ·) L st
  | .imul => bin x (· * ·) L st
  | .iand => bin x (· &&& ·) L st
  | .ior => bin x (· ||| ·) L st
  | .ixor => bin x (· ^^^ ·) L st
  | .ishl => bin x shlI L st
  | .ishr => bin x shrI L st
  | .iushr => bin x ushrI L st
  | .ineg => un1 x (fun v => -v) L st
  | .i2b => un1 x byI L st
  | .i2c => un1 x chI L st
  | .land => binL x (· &&& ·) L st
  | .lor => binL x (· ||| ·) L st
  | .lushr => shL x ushrL L st
  | .lshl => shL x shlL L st
  | .i2l => match st with
    | .inl v :: r => some (x.1 + 1, L, .inr (.inl v.toInt64) :: r)
    | _ => none
  | .l2i => match st with
    | .inr (.inl v) :: r => some (x.1 + 1, L, .inl v.toInt32 :: r)
    | _ => none
  | .lcmp => match st with
    | .inr (.inl w) :: .inr (.inl v) :: r => some (x.1 + 1, L, .inl (lg_cmp v w) :: r)
    | _ => none
  | .dup => match st with
    | v :: r => if c1 v then some (x.1 + 1, L, v :: v :: r) else none
    | _ => none
  | .dup_x1 => match st with
    | v :: w :: r => if c1 v && c1 w then some (x.1 + 1, L, v :: w :: v :: r) else none
    | _ => none
  | .dup2 => match st with
    | v :: w :: r => if c1 v && c1 w then some (x.1 + 1, L, v :: w :: v :: w :: r) else none
    | _ => none
  | .pop => match st with
    | v :: r => if c1 v then some (x.1 + 1, L, r) else none
    | _ => none
  | .aconst_null => some (x.1 + 1, L, .inr (.inr none) :: st)
  | .goto _ => some (x.2.2.2.2, L, st)
  | _ => none
theorem c1_cat {v : AV} (h : c1 v = true) : (tV v).category = 1 := by
  obtain x | y | r := v
  · rfl
  · cases h
  · cases r <;> rfl
section PSW
variable {p : Program} {l : Launch} {e : Jvm.Env} {R : Room} {s : State} {m : MethodId} {args : Array Value} {below : List Frame} {meth : Method} {c : Code} {H : Heap} {locs : List Loc} {cells slots : Nat} {Q : State → Prop}
variable {cc : ByteArray} {ls : Array Slot} {x : TE} {nL pc' : Nat} {L L' : List (Option AV)} {st st' : List AV} {i : Nat}
theorem blt_and {a b : Nat} {q : Bool} (h : (Nat.blt a b && q) = true) : a < b ∧ q = true := by
  rw [Bool.and_eq_true] at h
  exact ⟨Nat.le_of_ble_eq_true h.1, h.2⟩
set_option maxHeartbeats 4000000 in
theorem ps_W (hexec : p.tables.exec = Jvm.exec) (hb : c.code = cc) (hx : tbB cc x = true) (hp : ps x nL L st = some (pc', L', st')) (hl : LV ls nL L)
    (k : ∀ ls' : Array Slot, LV ls' nL L' → W p l e R s m args below meth c H locs cells slots Q (F0 m pc' ls' (st'.map tV))) : W p l e R s m args below meth c H locs cells slots Q (F0 m x.1 ls (st.map tV)) := by
  obtain ⟨pc, ins, len, cv, tgt⟩ := x
  unfold tbB at hx
  rw [Bool.and_eq_true, decide_eq_true_eq] at hx
  obtain ⟨hd, hcv⟩ := hx
  dsimp only at hd hcv ⊢
  unfold ps at hp
  dsimp only at hp
  have one : ∀ {n : Nat}, (len == n) = true → len = n := fun h => by simpa using h
  split at hp
  all_goals (try (simp only [cvB] at hcv))
  · rw [Bool.and_eq_true] at hcv
    obtain rfl := one hcv.1
    cases hp
    exact lv_iconst (v := cv) hexec hb hd (by have := hcv.2; simp at this; exact this.symm) (k ls hl)
  · rw [Bool.and_eq_true] at hcv
    obtain rfl := one hcv.1
    cases hp
    exact lv_bipush (v := cv) hexec hb hd (by have := hcv.2; simp at this; exact this.symm) (k ls hl)
  · rw [Bool.and_eq_true] at hcv
    obtain rfl := one hcv.1
    cases hp
    exact lv_sipush (v := cv) hexec hb hd (by have := hcv.2; simp at this; exact this.symm) (k ls hl)
  · obtain rfl := one hcv
    unfold ldI at hp
    split at hp
    · next v hv => cases hp; exact lv_iload hexec hb hd (hl.2.2 _ _ hv) (k ls hl)
    · cases hp
  · obtain rfl := one hcv
    unfold ldI at hp
    split at hp
    · next v hv => cases hp; exact lv_iload_n hexec hb hd rfl (hl.2.2 _ _ hv) (k ls hl)
    · cases hp
  · obtain rfl := one hcv
    unfold ldA at hp
    split at hp
    · next v hv =>
      cases hp
      cases v with
      | none => exact lv_aloadN hexec hb hd (hl.2.2 _ _ hv) (k ls hl)
      | some a => exact lv_aload hexec hb hd (hl.2.2 _ _ hv) (k ls hl)
    · cases hp
  · obtain rfl := one hcv
    unfold ldA at hp
    split at hp
    · next v hv =>
      cases hp
      cases v with
      | none => exact lv_aload_nN hexec hb hd rfl (hl.2.2 _ _ hv) (k ls hl)
      | some a => exact lv_aload_n hexec hb hd rfl (hl.2.2 _ _ hv) (k ls hl)
    · cases hp
  · obtain rfl := one hcv
    unfold ldL at hp
    split at hp
    · next v hv => cases hp; exact lv_lload hexec hb hd (hl.2.2 _ _ hv) (k ls hl)
    · cases hp
  · obtain rfl := one hcv
    unfold ldL at hp
    split at hp
    · next v hv => cases hp; exact lv_lload_n hexec hb hd rfl (hl.2.2 _ _ hv) (k ls hl)
    · cases hp
  · obtain rfl := one hcv
    unfold stI at hp
    split at hp
    · split at hp
      · next hc => cases hp; obtain ⟨h1, h2⟩ := blt_and hc; exact lv_istore hexec hb hd hl.has h1 rfl (fun ls' h => k ls' (LV.st1 h2 h))
      · cases hp
    · cases hp
  · obtain rfl := one hcv
    unfold stI at hp
    split at hp
    · split at hp
      · next hc => cases hp; obtain ⟨h1, h2⟩ := blt_and hc; exact lv_istore_n hexec hb hd rfl hl.has h1 rfl (fun ls' h => k ls' (LV.st1 h2 h))
      · cases hp
    · cases hp
  · obtain rfl := one hcv
    unfold stA at hp
    split at hp
    · next v r =>
      split at hp
      · next hc =>
        cases hp
        obtain ⟨h1, h2⟩ := blt_and hc
        cases v with
        | none => exact lv_astoreN hexec hb hd hl.has h1 rfl (fun ls' h => k ls' (LV.st1 (v := .inr (.inr none)) h2 h))
        | some a => exact lv_astore hexec hb hd hl.has h1 rfl (fun ls' h => k ls' (LV.st1 (v := .inr (.inr (some a))) h2 h))
      · cases hp
    · cases hp
  · obtain rfl := one hcv
    unfold stA at hp
    split at hp
    · next v r =>
      split at hp
      · next hc =>
        cases hp
        obtain ⟨h1, h2⟩ := blt_and hc
        cases v with
        | none => exact lv_astore_nN hexec hb hd rfl hl.has h1 rfl (fun ls' h => k ls' (LV.st1 (v := .inr (.inr none)) h2 h))
        | some a => exact lv_astore_n hexec hb hd rfl hl.has h1 rfl (fun ls' h => k ls' (LV.st1 (v := .inr (.inr (some a))) h2 h))
      · cases hp
    · cases hp
  · obtain rfl := one hcv
    unfold stL at hp
    split at hp
    · split at hp
      · next hc => cases hp; obtain ⟨h1, h2⟩ := blt_and hc; exact lv_lstore hexec hb hd hl.has h1 rfl (fun ls' h => k ls' (LV.st2 h2 h))
      · cases hp
    · cases hp
  · obtain rfl := one hcv
    unfold stL at hp
    split at hp
    · split at hp
      · next hc => cases hp; obtain ⟨h1, h2⟩ := blt_and hc; exact lv_lstore_n hexec hb hd rfl hl.has h1 rfl (fun ls' h => k ls' (LV.st2 h2 h))
      · cases hp
    · cases hp
  · rw [Bool.and_eq_true] at hcv
    obtain rfl := one hcv.1
    split at hp
    · next v hv =>
      split at hp
      · next hc =>
        cases hp
        obtain ⟨h1, h2⟩ := blt_and hc
        have hcv2 := hcv.2
        simp only [beq_iff_eq] at hcv2
        obtain ⟨j, hj⟩ := List.getElem?_of_mem (mem_lvL hv)
        exact lv_iinc (v := v + cv) hexec hb hd hl.has hj (by rw [hcv2]) h1 rfl (fun ls' h => k ls' (LV.st1 (v := .inl (v + cv)) h2 h))
      · cases hp
    · cases hp
  · obtain rfl := one hcv
    unfold bin at hp
    split at hp
    · cases hp; exact lv_iadd hexec hb hd (k ls hl)
    · cases hp
  · obtain rfl := one hcv
    unfold bin at hp
    split at hp
    · cases hp; exact lv_isub hexec hb hd (k ls hl)
    · cases hp
  · obtain rfl := one hcv
    unfold bin at hp
    split at hp
    · cases hp; exact lv_imul hexec hb hd (k ls hl)
    · cases hp
  · obtain rfl := one hcv
    unfold bin at hp
    split at hp
    · cases hp; exact lv_iand hexec hb hd (k ls hl)
    · cases hp
  · obtain rfl := one hcv
    unfold bin at hp
    split at hp
    · cases hp; exact lv_ior hexec hb hd (k ls hl)
    · cases hp
  · obtain rfl := one hcv
    unfold bin at hp
    split at hp
    · cases hp; exact lv_ixor hexec hb hd (k ls hl)
    · cases hp
  · obtain rfl := one hcv
    unfold bin at hp
    split at hp
    · cases hp; exact lv_ishl hexec hb hd (k ls hl)
    · cases hp
  · obtain rfl := one hcv
    unfold bin at hp
    split at hp
    · cases hp; exact lv_ishr hexec hb hd (k ls hl)
    · cases hp
  · obtain rfl := one hcv
    unfold bin at hp
    split at hp
    · cases hp; exact lv_iushr hexec hb hd rfl (k ls hl)
    · cases hp
  · obtain rfl := one hcv
    unfold un1 at hp
    split at hp
    · cases hp; exact lv_ineg hexec hb hd (k ls hl)
    · cases hp
  · obtain rfl := one hcv
    unfold un1 at hp
    split at hp
    · cases hp; exact lv_i2b hexec hb hd rfl (k ls hl)
    · cases hp
  · obtain rfl := one hcv
    unfold un1 at hp
    split at hp
    · cases hp; exact lv_i2c hexec hb hd rfl (k ls hl)
    · cases hp
  · obtain rfl := one hcv
    unfold binL at hp
    split at hp
    · cases hp; exact lv_land hexec hb hd (k ls hl)
    · cases hp
  · obtain rfl := one hcv
    unfold binL at hp
    split at hp
    · cases hp; exact lv_lor hexec hb hd (k ls hl)
    · cases hp
  · obtain rfl := one hcv
    unfold shL at hp
    split at hp
    · cases hp; exact lv_lushr hexec hb hd rfl (k ls hl)
    · cases hp
  · obtain rfl := one hcv
    unfold shL at hp
    split at hp
    · cases hp; exact lv_lshl hexec hb hd rfl (k ls hl)
    · cases hp
  · obtain rfl := one hcv
    split at hp
    · cases hp; exact lv_i2l hexec hb hd rfl (k ls hl)
    · cases hp
  · obtain rfl := one hcv
    split at hp
    · cases hp; exact lv_l2i hexec hb hd rfl (k ls hl)
    · cases hp
  · obtain rfl := one hcv
    split at hp
    · cases hp; exact W.lcmp hexec hb hd (k ls hl)
    · cases hp
  · obtain rfl := one hcv
    split at hp
    · split at hp
      · next h1 => cases hp; exact lv_dup hexec hb hd (c1_cat h1) (k ls hl)
      · cases hp
    · cases hp
  · obtain rfl := one hcv
    split at hp
    · split at hp
      · next h1 => cases hp; rw [Bool.and_eq_true] at h1; exact lv_dup_x1 hexec hb hd (c1_cat h1.1) (c1_cat h1.2) (k ls hl)
      · cases hp
    · cases hp
  · obtain rfl := one hcv
    split at hp
    · split at hp
      · next h1 => cases hp; rw [Bool.and_eq_true] at h1; exact lv_dup2_11 hexec hb hd (c1_cat h1.1) (c1_cat h1.2) (k ls hl)
      · cases hp
    · cases hp
  · obtain rfl := one hcv
    split at hp
    · split at hp
      · next h1 => cases hp; exact lv_pop hexec hb hd (c1_cat h1) (k ls hl)
      · cases hp
    · cases hp
  · obtain rfl := one hcv
    cases hp
    exact lv_null hexec hb hd (k ls hl)
  · rw [Bool.and_eq_true] at hcv
    obtain rfl := one hcv.1
    have ht := hcv.2
    simp only [decide_eq_true_eq] at ht
    cases hp
    exact lv_goto hexec hb hd ht (k ls hl)
  · cases hp
end PSW
section QS
variable {X : Cx} {M : MI} {h0 h : Hp} {o a b : Rs} {L L' : List (Option AV)} {st st' : List AV} {pc pc' : Nat}
theorem q_step (x : TE) (hx : tbB M.2.1 x = true) (hp : ps x M.2.2.1 L st = some (pc', L', st')) (k : Gd X M h0 o h pc' L' st') : Gd X M h0 o h x.1 L st := by
  intro hf r ho
  obtain ⟨hle, k⟩ := k hf r ho
  refine ⟨hle, fun h0h l p e R s m args below meth c Q hat hrm hret H locs ls hI hl => ?_⟩
  exact ps_W hat.1 hat.2.1 hx hp hl (fun ls' hl' => k h0h l p e R s m args below meth c Q hat hrm hret H locs ls' hI hl')
def prn (nL : Nat) : List TE → Nat → Nat → List (Option AV) → List AV → PS
  | _, 0, pc, L, st => some (pc, L, st)
  | [], _ + 1, _, _, _ => none
  | x :: xs, k + 1, pc, L, st => if Nat.beq x.1 pc then (match ps x nL L st with
    | some (pc', L', st') => prn nL xs k pc' L' st'
    | none => none) else none
theorem prn_ok (nL : Nat) (tb : List TE) : ∀ (k : Nat) (pc : Nat) (L : List (Option AV)) (st : List AV), (∀ x ∈ tb, tbB M.2.1 x = true) → nL = M.2.2.1 → prn nL tb k pc L st = some (pc', L', st') → Gd X M h0 o h pc' L' st' → Gd X M h0 o h pc L st := by
  induction tb with
  | nil =>
    intro k pc L st _ _ hp g
    cases k with
    | zero => cases hp; exact g
    | succ k => cases hp
  | cons x xs ih =>
    intro k pc L st ht hn hp g
    cases k with
    | zero => cases hp; exact g
    | succ k =>
      unfold prn at hp
      split at hp
      · next hpc =>
        have hpc' : x.1 = pc := Nat.eq_of_beq_eq_true hpc
        subst hpc'
        split at hp
        · next pc2 L2 st2 hps =>
          subst hn
          exact q_step x (ht x List.mem_cons_self) hps (ih k pc2 L2 st2 (fun y hy => ht y (List.mem_cons_of_mem _ hy)) rfl hp g)
        · cases hp
      · cases hp
/-- n steps from row i of the table on -/
theorem q_run {tb : List TE} (ht : ∀ x ∈ tb, tbB M.2.1 x = true) (i n : Nat) (hp : prn M.2.2.1 (tb.drop i) n pc L st = some (pc', L', st')) (g : Gd X M h0 o h pc' L' st') : Gd X M h0 o h pc L st :=
  prn_ok M.2.2.1 (tb.drop i) n pc L st (fun x hx => ht x (List.mem_of_mem_drop hx)) rfl hp g
theorem q_le (hl : lvLe L L') (g : Gd X M h0 o h pc L' st) : Gd X M h0 o h pc L st := by
  intro hf r ho
  obtain ⟨hle, k⟩ := g hf r ho
  exact ⟨hle, fun h0h l p e R s m args below meth c Q hat hrm hret H locs ls hI hl' => k h0h l p e R s m args below meth c Q hat hrm hret H locs ls hI (hl'.le hl)⟩
theorem tbm {tb : List TE} {cc : ByteArray} (ht : ∀ x ∈ tb, tbB cc x = true) {i : Nat} {x : TE} (h : tb[i]? = some x) : tbB cc x = true := ht x (List.mem_of_getElem? h)
theorem tb_all {cc : ByteArray} {tb : List TE} (h : tb.all (tbB cc) = true) : ∀ x ∈ tb, tbB cc x = true := fun x hx => List.all_eq_true.mp h x hx
end QS
end
section
/-! WHAT A FUNCTION DOES WITH THE HEAP -/
def upH (h : Hp) (a : Nat) (e : Cl) : Hp := (fun b => if b = a then some e else h.1 b, h.2.1, h.2.2)
def pushH (h : Hp) (e : Cl) (n : Nat) : Hp := (fun b => if b = h.2.1 then some e else h.1 b, h.2.1 + 1, h.2.2 + n)
def tgo (c ci : Nat) : Bool := (c == ci && Nat.blt c 9) || (c == 10 && ci == 0)
def ob (h : Hp) (r : Option Nat) (ci : Nat) : Option (Nat × Nat × List AV) := match r with
  | none => none
  | some a => match h.1 a with
    | some (.inr (c, fs)) => if tgo c ci then some (a, c, fs) else none
    | _ => none
def ar (h : Hp) (r : Option Nat) : Option (Nat × Nat × vp_A) := match r with
  | none => none
  | some a => match h.1 a with
    | some (.inl (k, x)) => some (a, k, x)
    | _ => none
def tyC (ci k : Nat) : FieldType := match ci with
  | 0 => tyJ0 k
  | 1 => tyJ4 k
  | 2 => tyX0 k
  | 3 => tyX1 k
  | 4 => tyX2 k
  | 5 => tyX3 k
  | 6 => tyX4 k
  | 7 => tyX5 k
  | _ => tyX6 k
def nmC (ci : Nat) : Nat := match ci with
  | 0 => 4
  | 1 => 4
  | 2 => 2
  | 3 => 4
  | 4 => 14
  | 5 => 6
  | 6 => 13
  | 7 => 5
  | _ => 15
def dfC (ci : Nat) : List AV := match ci with
  | 0 => [.inr (.inr none), .inl 0, .inl 0, .inl 0]
  | 1 => [.inr (.inr none), .inl 0, .inl 0, .inl 0]
  | 2 => [.inl 0, .inr (.inr none)]
  | 3 => [.inr (.inr none), .inl 0, .inl 0, .inl 0]
  | 4 => [.inl 0, .inl 0, .inl 0, .inl 0, .inl 0, .inl 0, .inl 0, .inl 0, .inl 0, .inl 0, .inl 0, .inl 0, .inr (.inr none), .inr (.inr none)]
  | 5 => [.inl 0, .inl 0, .inl 0, .inl 0, .inl 0, .inr (.inr none)]
  | 6 => [.inl 0, .inl 0, .inl 0, .inl 0, .inl 0, .inl 0, .inl 0, .inl 0, .inl 0, .inl 0, .inr (.inr none), .inr (.inr none), .inr (.inr none)]
  | 7 => [.inr (.inr none), .inr (.inr none), .inr (.inr none), .inr (.inr none), .inr (.inr none)]
  | _ => [.inl 0, .inr (.inr none), .inr (.inr none), .inl 0, .inr (.inr none), .inr (.inr none), .inr (.inr none), .inl 0, .inr (.inr none), .inl 0, .inl 0, .inl 0, .inl 0, .inr (.inr none), .inl 0]
def vfit (ty : FieldType) (v : AV) : Bool := match ty, v with
  | .int, .inl _ => true
  | .byte, .inl x => x.toInt8.toInt32 == x
  | .boolean, .inl x => x == 0 || x == 1
  | .object _, .inr (.inr _) => true
  | .array _, .inr (.inr _) => true
  | _, _ => false
def rdI (h : Hp) (r : Option Nat) (ci k : Nat) (f : Int32 → Rs) : Rs := match ob h r ci with
  | some (_, _, fs) => match fs[k]? with
    | some (.inl x) => f x
    | _ => none
  | none => none
def rdR (h : Hp) (r : Option Nat) (ci k : Nat) (f : Option Nat → Rs) : Rs := match ob h r ci with
  | some (_, _, fs) => match fs[k]? with
    | some (.inr (.inr x)) => f x
    | _ => none
  | none => none
def wr (h : Hp) (r : Option Nat) (ci k : Nat) (v : AV) (f : Hp → Rs) : Rs := match ob h r ci with
  | some (a, c, fs) => if Nat.blt k fs.length && (Nat.blt c 9 && vfit (tyC ci k) v) then f (upH h a (.inr (ci, fs.set k v))) else none
  | none => none
def ck (h : Hp) (r : Option Nat) (ci : Nat) (o : Rs) : Rs := match ob h r ci with
  | some _ => o
  | none => none
def inB (i : Int32) (n : Nat) : Bool := !(decide (i < 0)) && Nat.blt i.toNatClampNeg n
def aldI (h : Hp) (r : Option Nat) (ks : List Nat) (i : Int32) (f : Int32 → Rs) : Rs := match ar h r with
  | some (_, k, (n, .inl g)) => if ks.contains k && inB i n then f (g i.toNatClampNeg) else none
  | _ => none
def aldR (h : Hp) (r : Option Nat) (i : Int32) (f : Option Nat → Rs) : Rs := match ar h r with
  | some (_, k, (n, .inr (.inr (.inr (.inr g))))) => if (Nat.blt 3 k && Nat.blt k 7) && inB i n then f (g i.toNatClampNeg) else none
  | _ => none
def nar (k : Nat) (x : Int32) : Int32 := match k with
  | 0 => x
  | 1 => vp_nar .byte x
  | 2 => vp_nar .boolean x
  | _ => vp_nar .char x
def astI (h : Hp) (r : Option Nat) (ks : List Nat) (i x : Int32) (f : Hp → Rs) : Rs := match ar h r with
  | some (a, k, (n, .inl g)) => if (ks.contains k && Nat.blt k 4) && inB i n then f (upH h a (.inl (k, n, .inl (upd g i.toNatClampNeg (nar k x))))) else none
  | _ => none
def ecl (k : Nat) : Nat := match k with
  | 4 => 3
  | 5 => 4
  | _ => 6
def isEl (h : Hp) (k : Nat) (v : Option Nat) : Bool := match v with
  | none => true
  | some b => match h.1 b with
    | some (.inr (c, _)) => c == ecl k
    | _ => false
def astR (h : Hp) (r : Option Nat) (i : Int32) (v : Option Nat) (f : Hp → Rs) : Rs := match ar h r with
  | some (a, k, (n, .inr (.inr (.inr (.inr g))))) => if (Nat.blt 3 k && Nat.blt k 7) && (inB i n && isEl h k v) then f (upH h a (.inl (k, n, .inr (.inr (.inr (.inr (va_up g i.toNatClampNeg v))))))) else none
  | _ => none
def lenA (h : Hp) (r : Option Nat) (f : Int32 → Rs) : Rs := match ar h r with
  | some (_, _, (n, _)) => f (Int32.ofNat n)
  | none => none
def nwO (h : Hp) (ci : Nat) (f : Hp → Option Nat → Rs) : Rs := f (pushH h (.inr (ci, dfC ci)) (nmC ci)) (some h.2.1)
def nwA (h : Hp) (k : Nat) (x : Int32) (f : Hp → Option Nat → Rs) : Rs := if !(decide (x < 0)) && Nat.ble x.toNatClampNeg 1000000 then f (pushH h (.inl (k, x.toNatClampNeg, .inl (fun _ => 0))) x.toNatClampNeg) (some h.2.1) else none
def nwR (h : Hp) (k : Nat) (x : Int32) (f : Hp → Option Nat → Rs) : Rs := if !(decide (x < 0)) && Nat.ble x.toNatClampNeg 1000000 then f (pushH h (.inl (k, x.toNatClampNeg, .inr (.inr (.inr (.inr (fun _ => none)))))) x.toNatClampNeg) (some h.2.1) else none
def cc (o : Rs) (k : Hp → Option AV → Rs) : Rs := match o with
  | some (h', r) => k h' r
  | none => none
def kI (f : Hp → Int32 → Rs) : Hp → Option AV → Rs := fun h r => match r with
  | some (.inl x) => f h x
  | _ => none
def kR (f : Hp → Option Nat → Rs) : Hp → Option AV → Rs := fun h r => match r with
  | some (.inr (.inr x)) => f h x
  | _ => none
def kV (f : Hp → Rs) : Hp → Option AV → Rs := fun h r => match r with
  | none => f h
  | _ => none
def dv (y : Int32) (o : Rs) : Rs := if y = 0 then none else o
def dn (r : Option Nat) (o : Rs) : Rs := match r with
  | some _ => o
  | none => none
def ifN (r : Option Nat) (a b : Rs) : Rs := match r with
  | none => a
  | some _ => b
def rtI (ty : FieldType) (h : Hp) (x : Int32) : Rs := if vp_nar ty x = x then some (h, some (.inl x)) else none
/-! facts -/
theorem ob_some {h : Hp} {r : Option Nat} {ci a c : Nat} {fs : List AV} (e : ob h r ci = some (a, c, fs)) : r = some a ∧ h.1 a = some (.inr (c, fs)) ∧ tgo c ci = true := by
  unfold ob at e
  split at e
  · cases e
  · split at e
    · split at e
      · next hc ht => cases e; exact ⟨rfl, hc, ht⟩
      · cases e
    · cases e
theorem ar_some {h : Hp} {r : Option Nat} {a k : Nat} {x : vp_A} (e : ar h r = some (a, k, x)) : r = some a ∧ h.1 a = some (.inl (k, x)) := by
  unfold ar at e
  split at e
  · cases e
  · split at e
    · next hc => cases e; exact ⟨rfl, hc⟩
    · cases e
theorem tgo_cases {c ci : Nat} (h : tgo c ci = true) : (c = ci ∧ c < 9) ∨ (c = 10 ∧ ci = 0) := by
  unfold tgo at h
  rw [Bool.or_eq_true, Bool.and_eq_true, Bool.and_eq_true] at h
  rcases h with ⟨h1, h2⟩ | ⟨h1, h2⟩
  · exact Or.inl ⟨by simpa using h1, Nat.le_of_ble_eq_true h2⟩
  · exact Or.inr ⟨by simpa using h1, by simpa using h2⟩
theorem inB_in {i : Int32} {n : Nat} (h : inB i n = true) : vp_in i n := by
  unfold inB at h
  rw [Bool.and_eq_true] at h
  have h2 : i.toNatClampNeg < n := Nat.le_of_ble_eq_true h.2
  have h1 : ¬ i < 0 := by simpa using h.1
  intro q
  rcases q with q | q
  · exact h1 q
  · omega
theorem vfit_ok {ty : FieldType} {v : AV} (h : vfit ty v = true) : narrow ty (tV v) = tV v ∧ fits ty (tV v) = true := by
  unfold vfit at h
  split at h
  · exact ⟨rfl, rfl⟩
  · next x =>
    have e : x.toInt8.toInt32 = x := by simpa using h
    refine ⟨by show Value.int _ = Value.int _; rw [e], ?_⟩
    show fits .byte (.int x) = true
    rw [← e]
    exact pk_fb x
  · next x =>
    have e : x = 0 ∨ x = 1 := by simpa using h
    rcases e with rfl | rfl
    · exact ⟨by decide, by decide⟩
    · exact ⟨by decide, by decide⟩
  · next r => cases r <;> exact ⟨rfl, rfl⟩
  · next r => cases r <;> exact ⟨rfl, rfl⟩
  · cases h
theorem cl_9 {ci : Nat} (h : ci < 9) : ∃ C T N, vwCl[ci]? = some (C, T, N) ∧ (∀ k, k < N → parseFieldDescriptor (T k).2.2.1 = some (tyC ci k)) ∧ (∀ a, a < N → ∀ b, b < N → a ≠ b → (T a).2.1 ≠ (T b).2.1) ∧ N = nmC ci ∧ (∀ j, j < N → defaultValue (tyC ci j) = vp_V ((dfC ci).map tV) j) := by
  match ci, h with
  | 0, _ => exact ⟨_, _, _, rfl, tyJ0_ok, nmJ0, rfl, by decide +kernel⟩
  | 1, _ => exact ⟨_, _, _, rfl, tyJ4_ok, nmJ4, rfl, by decide +kernel⟩
  | 2, _ => exact ⟨_, _, _, rfl, tyX0_ok, nmX0, rfl, by decide +kernel⟩
  | 3, _ => exact ⟨_, _, _, rfl, tyX1_ok, nmX1, rfl, by decide +kernel⟩
  | 4, _ => exact ⟨_, _, _, rfl, tyX2_ok, nmX2, rfl, by decide +kernel⟩
  | 5, _ => exact ⟨_, _, _, rfl, tyX3_ok, nmX3, rfl, by decide +kernel⟩
  | 6, _ => exact ⟨_, _, _, rfl, tyX4_ok, nmX4, rfl, by decide +kernel⟩
  | 7, _ => exact ⟨_, _, _, rfl, tyX5_ok, nmX5, rfl, by decide +kernel⟩
  | 8, _ => exact ⟨_, _, _, rfl, tyX6_ok, nmX6, rfl, by decide +kernel⟩
theorem uws_ok : ∀ (q : vw_C), q ∈ vwCl → ∀ w ∈ u_ws q.1 q.2.1 q.2.2, w ∈ goodTbl := by decide +kernel
theorem cl_in {ci : Nat} {C : String} {T : u_T} {N : Nat} (h : vwCl[ci]? = some (C, T, N)) : ∀ w ∈ u_ws C T N, w ∈ goodTbl := uws_ok (C, T, N) (List.mem_of_getElem? h)
/-! the picture after a store, after a making -/
theorem RepH.put {X : Cx} {s : State} {h : Hp} {H H1 : Heap} {ws : va_W} (hP : va_P X.1 vwCl ws H) (hD : va_D (AX X) ws) (hz : H.size = h.2.1) (hN : X.2.2.1 ≤ h.2.1) (hr : ∀ a e, h.1 a = some e → rep1 X s ws a e)
    {i a : Nat} {e0 e1 : va_E} {e : Cl} (hi : ws[i]? = some (a, e0)) (hat : va_at X.1 vwCl (a, e1) H1) (z : H1.size = H.size) (oq : ∀ q : Nat, q ≠ a → H1[q]? = H[q]?) (he : ∀ ws' : va_W, ws'[i]? = some (a, e1) → rep1 X s ws' a e) : RepH X s (upH h a e) H1 := by
  have hlt : i < ws.length := (List.getElem?_eq_some_iff.mp hi).1
  have other : ∀ (j b : Nat) (x : va_E), b ≠ a → ws[j]? = some (b, x) → (ws.set i (a, e1))[j]? = some (b, x) := by
    intro j b x hb hj
    have hij : i ≠ j := by
      intro q
      subst q
      rw [hi] at hj
      cases hj
      exact hb rfl
    rw [List.getElem?_set_ne hij]
    exact hj
  refine ⟨ws.set i (a, e1), hP.set hD hi hat oq, hD.set hi, z.trans hz, hN, fun b x hx => ?_⟩
  by_cases hb : b = a
  · subst hb
    have hx' : some e = some x := by simpa [upH] using hx
    cases hx'
    exact he _ (by rw [List.getElem?_set_self hlt])
  · have hx' : h.1 b = some x := by simpa [upH, hb] using hx
    have h2 := hr b x hx'
    obtain ⟨k, arr⟩ | ⟨ci, fs⟩ := x
    · rcases h2 with ⟨h3, j, hj⟩ | h2
      · exact Or.inl ⟨h3, j, other j b _ hb hj⟩
      · exact Or.inr h2
    · rcases h2 with ⟨h3, j, hj⟩ | h2
      · exact Or.inl ⟨h3, j, other j b _ hb hj⟩
      · exact Or.inr h2
theorem RepH.push {X : Cx} {s : State} {h : Hp} {H H1 : Heap} (r : RepH X s h H) {e1 : va_E} {e : Cl} {n : Nat} (hat : va_at X.1 vwCl (H.size, e1) H1) (z : H1.size = H.size + 1) (oq : ∀ q : Nat, q < H.size → H1[q]? = H[q]?)
    (he : ∀ (ws' : va_W) (i : Nat), ws'[i]? = some (H.size, e1) → rep1 X s ws' H.size e) : RepH X s (pushH h e n) H1 := by
  obtain ⟨ws, hP, hD, hz, hN, hr⟩ := r
  have hk : ∀ (k : Nat) (x : Nat × va_E), ws[k]? = some x → H1[x.1]? = H[x.1]? := fun k x hx => oq x.1 ((hP k x hx).lt)
  have new : (ws ++ [(H.size, e1)])[ws.length]? = some (H.size, e1) := by simp
  have old : ∀ (j b : Nat) (x : va_E), ws[j]? = some (b, x) → (ws ++ [(H.size, e1)])[j]? = some (b, x) := by
    intro j b x hj
    rw [List.getElem?_append_left (List.getElem?_eq_some_iff.mp hj).1]
    exact hj
  refine ⟨ws ++ [(H.size, e1)], (hP.kept hk).app (fun k x hx => ?_), hD.push hP rfl (by show X.2.2.1 ≤ H.size; rw [hz]; exact hN), by show _ = h.2.1 + 1; rw [z, hz], Nat.le_succ_of_le hN, fun b x hx => ?_⟩
  · have hz2 : k < 1 := (List.getElem?_eq_some_iff.mp hx).1
    rw [show k = 0 by omega] at hx
    cases hx
    exact hat
  · by_cases hb : b = h.2.1
    · have hx' : some e = some x := by simpa [pushH, hb] using hx
      cases hx'
      rw [hb, ← hz]
      exact he _ _ new
    · have hx' : h.1 b = some x := by simpa [pushH, hb] using hx
      have h2 := hr b x hx'
      obtain ⟨k, arr⟩ | ⟨ci, fs⟩ := x
      · rcases h2 with ⟨h3, j, hj⟩ | h2
        · exact Or.inl ⟨h3, j, old j b _ hj⟩
        · exact Or.inr h2
      · rcases h2 with ⟨h3, j, hj⟩ | h2
        · exact Or.inl ⟨h3, j, old j b _ hj⟩
        · exact Or.inr h2
theorem Inv.S {X : Cx} {s : State} {h : Hp} {H : Heap} {locs : List Loc} (i : Inv X s h H locs) : va_S (AX X) s.heap H locs :=
  ⟨i.2.2.1, fun q _ hA => i.2.1 q (Nat.not_le.mp hA), i.2.2.2⟩
theorem Inv.put {X : Cx} {s : State} {h h1 : Hp} {H H1 : Heap} {locs : List Loc} {a k : Nat} (i : Inv X s h H locs) (r : RepH X s h1 H1) (z : H1.size = H.size) (oq : ∀ q : Nat, q ≠ a → H1[q]? = H[q]?) (ha : AX X a) : Inv X s h1 H1 (locs ++ [⟨a, k⟩]) := by
  refine ⟨r, fun q hq => ?_, by rw [z]; exact i.2.2.1, fun q hq => ?_⟩
  · rw [oq q (fun e => by subst e; exact absurd hq (Nat.not_lt.mpr ha))]
    exact i.2.1 q hq
  · rcases List.mem_append.mp hq with h | h
    · exact i.2.2.2 q h
    · rw [List.mem_singleton] at h
      subst h
      exact ha
theorem Inv.push {X : Cx} {s : State} {h h1 : Hp} {H H1 : Heap} {locs : List Loc} (i : Inv X s h H locs) (r : RepH X s h1 H1) (z : H1.size = H.size + 1) (oq : ∀ q : Nat, q < H.size → H1[q]? = H[q]?) : Inv X s h1 H1 locs := by
  have hz : X.2.2.1 ≤ H.size := by
    obtain ⟨ws, -, -, hz, hN, -⟩ := i.1
    rw [hz]; exact hN
  refine ⟨r, fun q hq => ?_, by rw [z]; exact Nat.le_succ_of_le i.2.2.1, i.2.2.2⟩
  rw [oq q (Nat.lt_of_lt_of_le hq hz)]
  exact i.2.1 q hq
end
section
/-! THE RULES: a row of code against a row of the function -/
theorem tb_d {cc : ByteArray} {x : TE} (h : tbB cc x = true) : decode cc x.1 = .ok (x.2.1, x.2.2.1) := by
  unfold tbB at h
  rw [Bool.and_eq_true, decide_eq_true_eq] at h
  exact h.1
theorem tb_len {cc : ByteArray} {pc len tgt n : Nat} {ins : Instr} {v : Int32} (h : tbB cc (pc, ins, len, v, tgt) = true) (hn : cvB (pc, ins, len, v, tgt) = (len == n)) : decode cc pc = .ok (ins, n) := by
  have hd := tb_d h
  unfold tbB at h
  rw [Bool.and_eq_true] at h
  have h2 := h.2
  rw [hn] at h2
  have e : len = n := by simpa using h2
  rw [← e]
  exact hd
theorem tb_jmp {cc : ByteArray} {pc len tgt : Nat} {ins : Instr} {v : Int32} {off : Int} (h : tbB cc (pc, ins, len, v, tgt) = true) (hn : cvB (pc, ins, len, v, tgt) = (len == 3 && decide ((pc : Int) + off = (tgt : Int)))) : decode cc pc = .ok (ins, 3) ∧ (pc : Int) + off = (tgt : Int) := by
  have hd := tb_d h
  unfold tbB at h
  rw [Bool.and_eq_true] at h
  have h2 := h.2
  rw [hn, Bool.and_eq_true] at h2
  have e : len = 3 := by simpa using h2.1
  refine ⟨?_, by simpa using h2.2⟩
  rw [← e]
  exact hd
section RULES
variable {X : Cx} {M : MI} {h0 h : Hp} {o a b : Rs} {L : List (Option AV)} {st : List AV} {pc len tgt idx : Nat} {v x y : Int32} {off : Int} {r : Option Nat} {ci k : Nat}
/-- a branch, by what the machine does at it -/
theorem q_br {cnd : Prop} [Decidable cnd] {pa pb : Nat} {st0 : List AV} (ga : Gd X M h0 a h pa L st) (gb : Gd X M h0 b h pb L st)
    (w : ∀ {p : Program} {l : Launch} {e : Jvm.Env} {R : Room} {s : State} {m : MethodId} {args : Array Value} {below : List Frame} {meth : Method} {c : Code} {H : Heap} {locs : List Loc} {cells slots : Nat} {Q : State → Prop} {ls : Array Slot}, p.tables.exec = Jvm.exec → c.code = M.2.1 → (cnd → W p l e R s m args below meth c H locs cells slots Q (F0 m pa ls (st.map tV))) → (¬ cnd → W p l e R s m args below meth c H locs cells slots Q (F0 m pb ls (st.map tV))) → W p l e R s m args below meth c H locs cells slots Q (F0 m pc ls (st0.map tV))) :
    Gd X M h0 (if cnd then a else b) h pc L st0 := by
  intro hf res ho
  by_cases hc : cnd
  · rw [if_pos hc] at ho
    obtain ⟨hle, g⟩ := ga hf res ho
    exact ⟨hle, fun h0h l p e R s m args below meth c Q hat hrm hret H locs ls hI hl => w hat.1 hat.2.1 (fun _ => g h0h l p e R s m args below meth c Q hat hrm hret H locs ls hI hl) (fun q => absurd hc q)⟩
  · rw [if_neg hc] at ho
    obtain ⟨hle, g⟩ := gb hf res ho
    exact ⟨hle, fun h0h l p e R s m args below meth c Q hat hrm hret H locs ls hI hl => w hat.1 hat.2.1 (fun q => absurd q hc) (fun _ => g h0h l p e R s m args below meth c Q hat hrm hret H locs ls hI hl)⟩
theorem q_icmp_eq (hx : tbB M.2.1 (pc, .if_icmp .eq off, len, v, tgt) = true) (ga : Gd X M h0 a h tgt L st) (gb : Gd X M h0 b h (pc + 3) L st) : Gd X M h0 (if x = y then a else b) h pc L (.inl y :: .inl x :: st) := by
  obtain ⟨hd, ht⟩ := tb_jmp hx rfl
  exact q_br ga gb (fun hexec hb ka kb => lv_icmp_eq hexec hb hd ht ka kb)
theorem q_icmp_ne (hx : tbB M.2.1 (pc, .if_icmp .ne off, len, v, tgt) = true) (ga : Gd X M h0 a h (pc + 3) L st) (gb : Gd X M h0 b h tgt L st) : Gd X M h0 (if x = y then a else b) h pc L (.inl y :: .inl x :: st) := by
  obtain ⟨hd, ht⟩ := tb_jmp hx rfl
  exact q_br ga gb (fun hexec hb ka kb => lv_icmp_ne hexec hb hd ht kb ka)
theorem q_icmp_lt (hx : tbB M.2.1 (pc, .if_icmp .lt off, len, v, tgt) = true) (ga : Gd X M h0 a h tgt L st) (gb : Gd X M h0 b h (pc + 3) L st) : Gd X M h0 (if x < y then a else b) h pc L (.inl y :: .inl x :: st) := by
  obtain ⟨hd, ht⟩ := tb_jmp hx rfl
  exact q_br ga gb (fun hexec hb ka kb => lv_icmp_lt hexec hb hd ht ka kb)
theorem q_icmp_ge (hx : tbB M.2.1 (pc, .if_icmp .ge off, len, v, tgt) = true) (ga : Gd X M h0 a h (pc + 3) L st) (gb : Gd X M h0 b h tgt L st) : Gd X M h0 (if x < y then a else b) h pc L (.inl y :: .inl x :: st) := by
  obtain ⟨hd, ht⟩ := tb_jmp hx rfl
  exact q_br ga gb (fun hexec hb ka kb => lv_icmp_ge hexec hb hd ht (fun q => kb (k2_nlt q)) (fun q => ka (k2_lt q)))
theorem q_icmp_gt (hx : tbB M.2.1 (pc, .if_icmp .gt off, len, v, tgt) = true) (ga : Gd X M h0 a h tgt L st) (gb : Gd X M h0 b h (pc + 3) L st) : Gd X M h0 (if y < x then a else b) h pc L (.inl y :: .inl x :: st) := by
  obtain ⟨hd, ht⟩ := tb_jmp hx rfl
  exact q_br ga gb (fun hexec hb ka kb => lv_icmp_gt hexec hb hd ht ka kb)
theorem q_icmp_le (hx : tbB M.2.1 (pc, .if_icmp .le off, len, v, tgt) = true) (ga : Gd X M h0 a h (pc + 3) L st) (gb : Gd X M h0 b h tgt L st) : Gd X M h0 (if y < x then a else b) h pc L (.inl y :: .inl x :: st) := by
  obtain ⟨hd, ht⟩ := tb_jmp hx rfl
  exact q_br ga gb (fun hexec hb ka kb => lv_icmp_le hexec hb hd ht (fun q => kb (k2_nlt q)) (fun q => ka (k2_lt q)))
theorem q_if_eq (hx : tbB M.2.1 (pc, .ifCond .eq off, len, v, tgt) = true) (ga : Gd X M h0 a h tgt L st) (gb : Gd X M h0 b h (pc + 3) L st) : Gd X M h0 (if x = 0 then a else b) h pc L (.inl x :: st) := by
  obtain ⟨hd, ht⟩ := tb_jmp hx rfl
  exact q_br ga gb (fun hexec hb ka kb => lv_if_eq hexec hb hd ht ka kb)
theorem q_if_ne (hx : tbB M.2.1 (pc, .ifCond .ne off, len, v, tgt) = true) (ga : Gd X M h0 a h (pc + 3) L st) (gb : Gd X M h0 b h tgt L st) : Gd X M h0 (if x = 0 then a else b) h pc L (.inl x :: st) := by
  obtain ⟨hd, ht⟩ := tb_jmp hx rfl
  exact q_br ga gb (fun hexec hb ka kb => lv_if_ne hexec hb hd ht kb ka)
theorem q_if_lt (hx : tbB M.2.1 (pc, .ifCond .lt off, len, v, tgt) = true) (ga : Gd X M h0 a h tgt L st) (gb : Gd X M h0 b h (pc + 3) L st) : Gd X M h0 (if x < 0 then a else b) h pc L (.inl x :: st) := by
  obtain ⟨hd, ht⟩ := tb_jmp hx rfl
  exact q_br ga gb (fun hexec hb ka kb => lv_if_lt hexec hb hd ht ka kb)
theorem q_if_ge (hx : tbB M.2.1 (pc, .ifCond .ge off, len, v, tgt) = true) (ga : Gd X M h0 a h (pc + 3) L st) (gb : Gd X M h0 b h tgt L st) : Gd X M h0 (if x < 0 then a else b) h pc L (.inl x :: st) := by
  obtain ⟨hd, ht⟩ := tb_jmp hx rfl
  exact q_br ga gb (fun hexec hb ka kb => lv_if_ge hexec hb hd ht (fun q => kb (k2_nlt q)) (fun q => ka (k2_lt q)))
theorem q_if_gt (hx : tbB M.2.1 (pc, .ifCond .gt off, len, v, tgt) = true) (ga : Gd X M h0 a h tgt L st) (gb : Gd X M h0 b h (pc + 3) L st) : Gd X M h0 (if 0 < x then a else b) h pc L (.inl x :: st) := by
  obtain ⟨hd, ht⟩ := tb_jmp hx rfl
  exact q_br ga gb (fun hexec hb ka kb => lv_if_gt hexec hb hd ht ka kb)
theorem q_if_le (hx : tbB M.2.1 (pc, .ifCond .le off, len, v, tgt) = true) (ga : Gd X M h0 a h (pc + 3) L st) (gb : Gd X M h0 b h tgt L st) : Gd X M h0 (if 0 < x then a else b) h pc L (.inl x :: st) := by
  obtain ⟨hd, ht⟩ := tb_jmp hx rfl
  exact q_br ga gb (fun hexec hb ka kb => lv_if_le hexec hb hd ht (fun q => kb (k2_nlt q)) (fun q => ka (k2_lt q)))
theorem q_ifnull (hx : tbB M.2.1 (pc, .ifnull off, len, v, tgt) = true) (ga : Gd X M h0 a h tgt L st) (gb : Gd X M h0 b h (pc + 3) L st) : Gd X M h0 (ifN r a b) h pc L (.inr (.inr r) :: st) := by
  obtain ⟨hd, ht⟩ := tb_jmp hx rfl
  intro hf res ho
  cases r with
  | none =>
    obtain ⟨hle, g⟩ := ga hf res ho
    exact ⟨hle, fun h0h l p e R s m args below meth c Q hat hrm hret H locs ls hI hl => lv_ifnullN hat.1 hat.2.1 hd ht (g h0h l p e R s m args below meth c Q hat hrm hret H locs ls hI hl)⟩
  | some q =>
    obtain ⟨hle, g⟩ := gb hf res ho
    exact ⟨hle, fun h0h l p e R s m args below meth c Q hat hrm hret H locs ls hI hl => lv_ifnull hat.1 hat.2.1 hd (g h0h l p e R s m args below meth c Q hat hrm hret H locs ls hI hl)⟩
theorem q_ifnonnull (hx : tbB M.2.1 (pc, .ifnonnull off, len, v, tgt) = true) (ga : Gd X M h0 a h (pc + 3) L st) (gb : Gd X M h0 b h tgt L st) : Gd X M h0 (ifN r a b) h pc L (.inr (.inr r) :: st) := by
  obtain ⟨hd, ht⟩ := tb_jmp hx rfl
  intro hf res ho
  cases r with
  | none =>
    obtain ⟨hle, g⟩ := ga hf res ho
    exact ⟨hle, fun h0h l p e R s m args below meth c Q hat hrm hret H locs ls hI hl => lv_ifnonnullN hat.1 hat.2.1 hd (g h0h l p e R s m args below meth c Q hat hrm hret H locs ls hI hl)⟩
  | some q =>
    obtain ⟨hle, g⟩ := gb hf res ho
    exact ⟨hle, fun h0h l p e R s m args below meth c Q hat hrm hret H locs ls hI hl => lv_ifnonnull hat.1 hat.2.1 hd ht (g h0h l p e R s m args below meth c Q hat hrm hret H locs ls hI hl)⟩
/-- one way on -/
theorem q_w {pb : Nat} {L' : List (Option AV)} {st0 : List AV} (g : Gd X M h0 o h pb L' st)
    (w : ∀ {p : Program} {l : Launch} {e : Jvm.Env} {R : Room} {s : State} {m : MethodId} {args : Array Value} {below : List Frame} {meth : Method} {c : Code} {H : Heap} {locs : List Loc} {cells slots : Nat} {Q : State → Prop} {ls : Array Slot}, At0 M X p s m args meth c → Inv X s h H locs → 1 ≤ M.2.2.2.2 ∧ 40 * M.2.2.2.2 ≤ R.locals ∨ True → LV ls M.2.2.1 L → (∀ ls', LV ls' M.2.2.1 L' → W p l e R s m args below meth c H locs cells slots Q (F0 m pb ls' (st.map tV))) → W p l e R s m args below meth c H locs cells slots Q (F0 m pc ls (st0.map tV))) : Gd X M h0 o h pc L st0 := by
  intro hf res ho
  obtain ⟨hle, g⟩ := g hf res ho
  exact ⟨hle, fun h0h l p e R s m args below meth c Q hat hrm hret H locs ls hI hl => w hat hI (Or.inr trivial) hl (fun ls' hl' => g h0h l p e R s m args below meth c Q hat hrm hret H locs ls' hI hl')⟩
theorem q_div (hx : tbB M.2.1 (pc, .idiv, len, v, tgt) = true) (g : Gd X M h0 o h (pc + 1) L (.inl (x / y) :: st)) : Gd X M h0 (dv y o) h pc L (.inl y :: .inl x :: st) := by
  have hd := tb_len hx rfl
  unfold dv
  split
  · exact gd_none
  · next hy => exact q_w g (fun hat _ _ hl k => lv_idiv hat.1 hat.2.1 hd hy (k _ hl))
theorem q_rem (hx : tbB M.2.1 (pc, .irem, len, v, tgt) = true) (g : Gd X M h0 o h (pc + 1) L (.inl (x - x / y * y) :: st)) : Gd X M h0 (dv y o) h pc L (.inl y :: .inl x :: st) := by
  have hd := tb_len hx rfl
  unfold dv
  split
  · exact gd_none
  · next hy => exact q_w g (fun hat _ _ hl k => lv_irem hat.1 hat.2.1 hd hy (k _ hl))
theorem q_ldc {w : Int32} (hx : tbB M.2.1 (pc, .ldc idx, len, v, tgt) = true) (hw : Cond.constant M.1.cls idx w ∈ goodTbl) (g : Gd X M h0 o h (pc + 2) L (.inl w :: st)) : Gd X M h0 o h pc L st := by
  have hd := tb_len hx rfl
  exact q_w g (fun hat _ _ hl k => lv_ldc hat.1 hat.2.1 hat.2.2.2.1 (hat.2.2.2.2.2.1 _ hw) hd (k _ hl))
theorem q_ldc2 {w : Int64} (hx : tbB M.2.1 (pc, .ldc2_w idx, len, v, tgt) = true) (hw : Cond.constantLong M.1.cls idx w ∈ goodTbl) (g : Gd X M h0 o h (pc + 3) L (.inr (.inl w) :: st)) : Gd X M h0 o h pc L st := by
  have hd := tb_len hx rfl
  exact q_w g (fun hat _ _ hl k => lv_ldc2 hat.1 hat.2.1 hat.2.2.2.1 (hat.2.2.2.2.2.1 _ hw) hd (k _ hl))
theorem q_lconst {n : Fin 2} {w : Int64} (hx : tbB M.2.1 (pc, .lconst n, len, v, tgt) = true) (hw : Int64.ofNat (n : Nat) = w) (g : Gd X M h0 o h (pc + 1) L (.inr (.inl w) :: st)) : Gd X M h0 o h pc L st := by
  have hd := tb_len hx rfl
  exact q_w g (fun hat _ _ hl k => lv_lconst hat.1 hat.2.1 hd hw (k _ hl))
theorem q_ldcS {i : Nat} {tx : String} (hx : tbB M.2.1 (pc, .ldc idx, len, v, tgt) = true) (hw : ∀ s, Env X s → ∃ a, X.2.2.2 i = some a ∧ vk_R M.1.cls idx tx a s) (g : Gd X M h0 o h (pc + 2) L (.inr (.inr (X.2.2.2 i)) :: st)) : Gd X M h0 o h pc L st := by
  have hd := tb_len hx rfl
  refine q_w g (fun {p l e R s m args below meth c H locs cells slots Q ls} hat _ _ hl k => ?_)
  obtain ⟨q, hq, hk⟩ := hw s hat.2.2.2.2.2.2.1
  have k := k ls hl
  rw [hq] at k
  exact va_ldcS hat.1 hat.2.1 hat.2.2.2.1 hk hd k
theorem q_gs {C n d : String} {w : AV} (hx : tbB M.2.1 (pc, .getstatic idx, len, v, tgt) = true) (hz : ∀ s, Env X s → va_Z C n d (tV w) (AX X) s s.heap) (hw : Cond.fieldLink M.1.cls idx C n d ∈ goodTbl) (g : Gd X M h0 o h (pc + 3) L (w :: st)) : Gd X M h0 o h pc L st := by
  have hd := tb_len hx rfl
  exact q_w g (fun hat hI _ hl k => va_gets hat.1 hat.2.1 (hz _ hat.2.2.2.2.2.2.1) hI.S hat.2.2.2.1 (hat.2.2.2.2.2.1 _ hw) (fun _ q => q) hd (k _ hl))
theorem q_gsN {C n d host : String} {w : AV} (hx : tbB M.2.1 (pc, .getstatic idx, len, v, tgt) = true) (hz : ∀ s, Env X s → va_Z C n d (tV w) (AX X) s s.heap) (hw : ∀ s, Env X s → va_Nw (.fieldLinkNest M.1.cls idx C n d host) s) (g : Gd X M h0 o h (pc + 3) L (w :: st)) : Gd X M h0 o h pc L st := by
  have hd := tb_len hx rfl
  exact q_w g (fun hat hI _ hl k => va_getsN hat.1 hat.2.1 (hz _ hat.2.2.2.2.2.2.1) hI.S hat.2.2.2.1 (va_Nw.use rfl (hw _ hat.2.2.2.2.2.2.1)) (fun _ q => q) hd (k _ hl))
theorem q_obj (hx : tbB M.2.1 (pc, .invokespecial idx, len, v, tgt) = true) (hd0 : 1 ≤ M.2.2.2.2) (hs : (st.map fun v => (tV v).category).sum ≤ 20) (hw : Cond.methodLink M.1.cls idx Lib.objectInit ∈ goodTbl ∧ Cond.instanceMethod Lib.objectInit ∈ goodTbl ∧ Cond.code Lib.objectInit ⟨#[0xb1]⟩ 1 none ∈ goodTbl)
    (g : Gd X M h0 o h (pc + 3) L st) : Gd X M h0 (dn r o) h pc L (.inr (.inr r) :: st) := by
  have hd := tb_len hx rfl
  cases r with
  | none => exact gd_none
  | some q =>
    intro hf res ho
    obtain ⟨hle, g⟩ := g hf res ho
    refine ⟨hle, fun h0h l p e R s m args below meth c Q hat hrm hret H locs ls hI hl => ?_⟩
    have hts := hat.2.2.2.2.2.1
    exact W.objInit hat.1 hat.2.1 hat.2.2.2.1 (hts _ hw.1) (hts _ hw.2.1) (hts _ hw.2.2) rfl (hl.1.trans hat.2.2.1.symm) rfl hd (Nat.le_trans hd0 hrm.1)
      (by have h1 := hrm.2.1; show 2 * 0 + ((st.map tV).map fun v => v.category).sum + 12 ≤ _; rw [List.map_map]; have : ((fun v => Value.category v) ∘ tV) = fun v => (tV v).category := rfl; rw [this]; omega)
      (g h0h l p e R s m args below meth c Q hat hrm hret H locs ls hI hl)
/-! fields -/
theorem q_rdW {fs : List AV} {w : AV} {a0 c0 : Nat} {C : String} {T : u_T} {N : Nat} (hx : tbB M.2.1 (pc, .getfield idx, len, v, tgt) = true) (hc : vwCl[ci]? = some (C, T, N)) (hk : k < N) (hw : Cond.fieldLink M.1.cls idx (T k).1 (T k).2.1 (T k).2.2.1 ∈ goodTbl)
    (e : ob h r ci = some (a0, c0, fs)) (hv : fs[k]? = some w) (g : Gd X M h0 o h (pc + 3) L (w :: st)) : Gd X M h0 o h pc L (.inr (.inr r) :: st) := by
  have hd := tb_len hx rfl
  obtain ⟨rfl, hcell, htg⟩ := ob_some e
  refine q_w g (fun {p l e R s m args below meth c H locs cells slots Q ls} hat hI _ hl kk => ?_)
  have kk := kk ls hl
  obtain ⟨ws, hP, hD, hz, hN, hr⟩ := hI.1
  have hrep := hr a0 _ hcell
  rcases tgo_cases htg with ⟨rfl, h9⟩ | ⟨rfl, rfl⟩
  · rcases hrep with ⟨-, i, hi⟩ | ⟨h10, -⟩
    · exact va_get hat.1 hat.2.1 hat.2.2.2.2.2.1 (cl_in hc) hat.2.2.2.1 hat.2.2.2.2.2.2.1.1 hP i hi hc k hk (hat.2.2.2.2.2.1 _ hw) (fun _ q => q) (v := tV w) (by rw [List.getElem?_map, hv]; rfl) hd kk
    · omega
  · rcases hrep with ⟨h9, -⟩ | ⟨-, q, rfl, h1, h2, h3⟩
    · omega
    · have hc' : (RJ0, TJ0, 4) = (C, T, N) := Option.some.inj hc
      cases hc'
      match k, hv with
      | 0, hv =>
        cases hv
        exact vk_getf hat.1 hat.2.1 h2 hI.S hat.2.2.2.1 (hat.2.2.2.2.2.1 _ hw) (fun _ q => q) hd kk
      | 1, hv =>
        cases hv
        exact vk_getf hat.1 hat.2.1 h3 hI.S hat.2.2.2.1 (hat.2.2.2.2.2.1 _ hw) (fun _ q => q) hd kk
      | n + 2, hv => simp at hv
theorem q_rdI {f : Int32 → Rs} (C : String) (T : u_T) (N : Nat) (hx : tbB M.2.1 (pc, .getfield idx, len, v, tgt) = true) (hc : vwCl[ci]? = some (C, T, N)) (hk : k < N) (hw : Cond.fieldLink M.1.cls idx (T k).1 (T k).2.1 (T k).2.2.1 ∈ goodTbl)
    (g : ∀ w, Gd X M h0 (f w) h (pc + 3) L (.inl w :: st)) : Gd X M h0 (rdI h r ci k f) h pc L (.inr (.inr r) :: st) := by
  unfold rdI
  split
  · next e =>
    split
    · next hv => exact q_rdW hx hc hk hw e hv (g _)
    · exact gd_none
  · exact gd_none
theorem q_rdR {f : Option Nat → Rs} (C : String) (T : u_T) (N : Nat) (hx : tbB M.2.1 (pc, .getfield idx, len, v, tgt) = true) (hc : vwCl[ci]? = some (C, T, N)) (hk : k < N) (hw : Cond.fieldLink M.1.cls idx (T k).1 (T k).2.1 (T k).2.2.1 ∈ goodTbl)
    (g : ∀ w, Gd X M h0 (f w) h (pc + 3) L (.inr (.inr w) :: st)) : Gd X M h0 (rdR h r ci k f) h pc L (.inr (.inr r) :: st) := by
  unfold rdR
  split
  · next e =>
    split
    · next hv => exact q_rdW hx hc hk hw e hv (g _)
    · exact gd_none
  · exact gd_none
/-- a step that changes the heap but makes nothing -/
theorem q_h {h1 : Hp} {pb : Nat} {st0 : List AV} (e1 : h1.2 = h.2) (g : Gd X M h0 o h1 pb L st)
    (w : ∀ {p : Program} {l : Launch} {e : Jvm.Env} {R : Room} {s : State} {m : MethodId} {args : Array Value} {below : List Frame} {meth : Method} {c : Code} {H : Heap} {locs : List Loc} {cells slots : Nat} {Q : State → Prop} {ls : Array Slot}, At0 M X p s m args meth c → Inv X s h H locs → LV ls M.2.2.1 L → (∀ H1 locs1, Inv X s h1 H1 locs1 → W p l e R s m args below meth c H1 locs1 cells slots Q (F0 m pb ls (st.map tV))) → W p l e R s m args below meth c H locs cells slots Q (F0 m pc ls (st0.map tV))) : Gd X M h0 o h pc L st0 := by
  intro hf res ho
  obtain ⟨hle, g⟩ := g hf res ho
  refine ⟨by unfold HLe at hle ⊢; rw [e1] at hle; exact hle, fun h0h l p e R s m args below meth c Q hat hrm hret H locs ls hI hl => ?_⟩
  refine w hat hI hl (fun H1 locs1 hI1 => ?_)
  have := g (by unfold HLe at h0h ⊢; rw [e1]; exact h0h) l p e R s m args below meth c Q hat hrm hret H1 locs1 ls hI1 hl
  rw [e1] at this
  exact this
theorem q_wr {f : Hp → Rs} {w : AV} (C : String) (T : u_T) (N : Nat) (hx : tbB M.2.1 (pc, .putfield idx, len, v, tgt) = true) (hc : vwCl[ci]? = some (C, T, N)) (hk : k < N) (hfin : (T k).2.2.2 = false ∨ (M.1.name = "<init>" ∧ (T k).1 = M.1.cls)) (hw : Cond.fieldLink M.1.cls idx (T k).1 (T k).2.1 (T k).2.2.1 ∈ goodTbl)
    (g : ∀ h1, Gd X M h0 (f h1) h1 (pc + 3) L st) : Gd X M h0 (wr h r ci k w f) h pc L (w :: .inr (.inr r) :: st) := by
  have hd := tb_len hx rfl
  unfold wr
  split
  · next a0 c0 fs e =>
    split
    · next hcnd =>
      rw [Bool.and_eq_true, Bool.and_eq_true] at hcnd
      obtain ⟨hlen, h9b, hvf⟩ := hcnd
      have hlen : k < fs.length := Nat.le_of_ble_eq_true hlen
      have h9 : c0 < 9 := Nat.le_of_ble_eq_true h9b
      obtain ⟨rfl, hcell, htg⟩ := ob_some e
      have hci : c0 = ci := by
        rcases tgo_cases htg with ⟨q, -⟩ | ⟨q, -⟩
        · exact q
        · omega
      subst hci
      refine q_h (h1 := upH h a0 (.inr (c0, fs.set k w))) rfl (g _) (fun {p l e R s m args below meth c H locs cells slots Q ls} hat hI hl kk => ?_)
      obtain ⟨ws, hP, hD, hz, hN, hr⟩ := hI.1
      have hrep := hr a0 _ hcell
      rcases hrep with ⟨-, i, hi⟩ | ⟨h10, -⟩
      · have hK : va_K X.1 vwCl (tysX X) s := hat.2.2.2.2.2.2.1.1
        obtain ⟨C', T', N', hc', hty, hnm, hNn, -⟩ := cl_9 h9
        have heq : (C', T', N') = (C, T, N) := Option.some.inj (hc'.symm.trans hc)
        cases heq
        have hts := hat.2.2.2.2.2.1
        have hin := cl_in hc
        have hap := va_apart (own := M.1.cls) hts hin _ hty hnm hK hc
        obtain ⟨hn, hfit⟩ := vfit_ok hvf
        obtain ⟨r0, g1, cell, q1, q2, q3, q4⟩ := hP i _ hi
        have hr0 : r0 = (C, T, N) := Option.some.inj (g1.symm.trans hc)
        subst hr0
        obtain ⟨hS, hfc, kC, hkC, hkind⟩ := hK.1 c0 _ hc
        obtain ⟨cf, kf, fi, ff, hi2, hsl⟩ := hS k hk
        have hlay := hts _ (hin _ (u_in_lay hk))
        have hst := (u_facts hfc hkC (u_lays hts hin hk) hi2).1
        have hAX : AX X a0 := hD.2 i _ hi
        have fin : ∀ H' : Heap, H'[a0]? = some (cell.setSlot ff.slot (tV w)) → H'.size = H.size → (∀ q, q ≠ a0 → H'[q]? = H[q]?) → W p l e R s m args below meth c H' (locs ++ [⟨a0, ff.slot⟩]) cells slots Q (F0 m (pc + 3) ls (st.map tV)) := by
          intro H' e1 e2 e3
          rw [hsl] at e1
          refine kk H' _ (hI.put (RepH.put hP hD hz hN hr hi (e1 := .inr (c0, (fs.set k w).map tV)) ⟨_, hc, ?_⟩ e2 e3 (fun ws' h' => Or.inl ⟨h9, i, h'⟩)) e2 e3 hAX)
          refine t_OB.to (V := updV (vp_V (fs.map tV)) k (tV w)) ⟨_, e1, q2, q3, t_set q4 hap hk (tV w)⟩ (fun j _ => ?_)
          rw [List.map_set]
          exact vp_updV_set (by rw [List.length_map]; exact hlen) (tV w) j
        rcases hfin with hfin | ⟨hini, hown⟩
        · unfold u_lay at hlay
          rw [if_neg (by rw [hfin]; decide)] at hlay
          have h6 := u_store hfc hkC hkind hlay hi2 (hty k hk) hn hfit
          exact W.putK hat.1 hat.2.1 (f := ff) ⟨hat.2.2.2.1, hts _ hw, ⟨_, _, _, hi2⟩, hst⟩ (by rw [q2]; exact h6) q1 q3 (by rw [hsl]; exact k2_hasslot (q4 k hk)) rfl rfl hd fin
        · by_cases hff : (T k).2.2.2 = true
          · unfold u_lay at hlay
            rw [if_pos hff] at hlay
            have hcf : m.cls = cf := by
              obtain ⟨_, _, c', _, _, _, -, -, hf', -, -, -, hown2, -⟩ := Cond.laysFinal_spec hlay
              have e1 : c' = cf := by have := hi2.symm.trans hf'; simp at this; exact this.1.symm
              rw [hown] at hown2
              rw [← e1]; exact Option.some.inj (hat.2.2.2.1.symm.trans hown2)
            have h6 := u_fits hfc hkC hkind (Or.inr hlay) hi2 (hty k hk) hn hfit
            exact W.putFinK hat.1 hat.2.1 hat.2.2.2.1 (hts _ hw) hi2 hst hcf (hat.2.2.2.2.1.trans hini) (by rw [q2]; exact h6) q1 q3 (by rw [hsl]; exact k2_hasslot (q4 k hk)) rfl rfl hd fin
          · unfold u_lay at hlay
            rw [if_neg hff] at hlay
            have h6 := u_store hfc hkC hkind hlay hi2 (hty k hk) hn hfit
            exact W.putK hat.1 hat.2.1 (f := ff) ⟨hat.2.2.2.1, hts _ hw, ⟨_, _, _, hi2⟩, hst⟩ (by rw [q2]; exact h6) q1 q3 (by rw [hsl]; exact k2_hasslot (q4 k hk)) rfl rfl hd fin
      · omega
    · exact gd_none
  · exact gd_none
end RULES
end
section
/-! ARRAYS, MAKINGS, CALLS -/
theorem ks_mem {ks : List Nat} {k : Nat} (h : ks.contains k = true) : k ∈ ks := by simpa using h
section ARR
variable {X : Cx} {M : MI} {h0 h : Hp} {o : Rs} {L : List (Option AV)} {st : List AV} {pc len tgt : Nat} {v i x : Int32} {r : Option Nat} {f : Int32 → Rs} {fr : Option Nat → Rs} {fh : Hp → Rs}
theorem q_iaload (hx : tbB M.2.1 (pc, .iaload, len, v, tgt) = true) (g : ∀ w, Gd X M h0 (f w) h (pc + 1) L (.inl w :: st)) : Gd X M h0 (aldI h r [0, 10] i f) h pc L (.inl i :: .inr (.inr r) :: st) := by
  have hd := tb_len hx rfl
  unfold aldI
  split
  · next a0 k n gg e =>
    split
    · next hc =>
      rw [Bool.and_eq_true] at hc
      obtain ⟨rfl, hcell⟩ := ar_some e
      have hin := inB_in hc.2
      have hk := ks_mem hc.1
      refine q_w (g _) (fun {p l e R s m args below meth c H locs cells slots Q ls} hat hI _ hl kk => ?_)
      have kk := kk ls hl
      obtain ⟨ws, hP, hD, hz, hN, hr⟩ := hI.1
      rcases hr a0 _ hcell with ⟨h7, j, hj⟩ | ⟨h10, g0, hg, hT⟩ | ⟨h11, -⟩
      · have k0 : k = 0 := by simp at hk; omega
        subst k0
        exact va_iald hat.1 hat.2.1 hat.2.2.2.2.2.2.1.1 hP j 0 hj rfl hin hd kk
      · cases hg
        exact va_ti hat.1 hat.2.1 hT hI.S hin rfl hd kk
      · simp at hk; omega
    · exact gd_none
  · exact gd_none
theorem q_baload (hx : tbB M.2.1 (pc, .baload, len, v, tgt) = true) (g : ∀ w, Gd X M h0 (f w) h (pc + 1) L (.inl w :: st)) : Gd X M h0 (aldI h r [1, 2, 11] i f) h pc L (.inl i :: .inr (.inr r) :: st) := by
  have hd := tb_len hx rfl
  unfold aldI
  split
  · next a0 k n gg e =>
    split
    · next hc =>
      rw [Bool.and_eq_true] at hc
      obtain ⟨rfl, hcell⟩ := ar_some e
      have hin := inB_in hc.2
      have hk := ks_mem hc.1
      refine q_w (g _) (fun {p l e R s m args below meth c H locs cells slots Q ls} hat hI _ hl kk => ?_)
      have kk := kk ls hl
      obtain ⟨ws, hP, hD, hz, hN, hr⟩ := hI.1
      rcases hr a0 _ hcell with ⟨h7, j, hj⟩ | ⟨h10, -⟩ | ⟨h11, g0, hg, -, hT⟩
      · have k0 : k = 1 ∨ k = 2 := by simp at hk; omega
        rcases k0 with rfl | rfl
        · exact va_bald hat.1 hat.2.1 hat.2.2.2.2.2.2.1.1 hP j 1 hj rfl hin hd kk
        · exact va_zald hat.1 hat.2.1 hat.2.2.2.2.2.2.1.1 hP j 2 hj rfl hin hd kk
      · simp at hk; omega
      · cases hg
        exact va_tb hat.1 hat.2.1 hT hI.S hin rfl hd kk
    · exact gd_none
  · exact gd_none
theorem q_caload (hx : tbB M.2.1 (pc, .caload, len, v, tgt) = true) (g : ∀ w, Gd X M h0 (f w) h (pc + 1) L (.inl w :: st)) : Gd X M h0 (aldI h r [3] i f) h pc L (.inl i :: .inr (.inr r) :: st) := by
  have hd := tb_len hx rfl
  unfold aldI
  split
  · next a0 k n gg e =>
    split
    · next hc =>
      rw [Bool.and_eq_true] at hc
      obtain ⟨rfl, hcell⟩ := ar_some e
      have hin := inB_in hc.2
      have hk := ks_mem hc.1
      refine q_w (g _) (fun {p l e R s m args below meth c H locs cells slots Q ls} hat hI _ hl kk => ?_)
      have kk := kk ls hl
      obtain ⟨ws, hP, hD, hz, hN, hr⟩ := hI.1
      rcases hr a0 _ hcell with ⟨h7, j, hj⟩ | ⟨h10, -⟩ | ⟨h11, -⟩
      · have k0 : k = 3 := by simp at hk; omega
        subst k0
        exact va_cald hat.1 hat.2.1 hat.2.2.2.2.2.2.1.1 hP j 3 hj rfl hin hd kk
      · simp at hk; omega
      · simp at hk; omega
    · exact gd_none
  · exact gd_none
theorem q_aaload (hx : tbB M.2.1 (pc, .aaload, len, v, tgt) = true) (g : ∀ w, Gd X M h0 (fr w) h (pc + 1) L (.inr (.inr w) :: st)) : Gd X M h0 (aldR h r i fr) h pc L (.inl i :: .inr (.inr r) :: st) := by
  have hd := tb_len hx rfl
  unfold aldR
  split
  · next a0 k n gg e =>
    split
    · next hc =>
      rw [Bool.and_eq_true, Bool.and_eq_true] at hc
      obtain ⟨rfl, hcell⟩ := ar_some e
      have hin := inB_in hc.2
      have k3 : 3 < k := Nat.le_of_ble_eq_true hc.1.1
      have k7 : k < 7 := Nat.le_of_ble_eq_true hc.1.2
      refine q_w (g _) (fun {p l e R s m args below meth c H locs cells slots Q ls} hat hI _ hl kk => ?_)
      have kk := kk ls hl
      obtain ⟨ws, hP, hD, hz, hN, hr⟩ := hI.1
      rcases hr a0 _ hcell with ⟨h7, j, hj⟩ | ⟨h10, -⟩ | ⟨h11, -⟩
      · have ht := tysX_at X k7
        have hC : ∃ C, tyA k = .object C := by
          rcases (by omega : k = 4 ∨ k = 5 ∨ k = 6) with rfl | rfl | rfl <;> exact ⟨_, rfl⟩
        obtain ⟨C, hC⟩ := hC
        rw [hC] at ht
        exact va_aldq hat.1 hat.2.1 hat.2.2.2.2.2.2.1.1 hP j k hj ht hin hd kk
      · omega
      · omega
    · exact gd_none
  · exact gd_none
theorem q_alen (hx : tbB M.2.1 (pc, .arraylength, len, v, tgt) = true) (g : ∀ w, Gd X M h0 (f w) h (pc + 1) L (.inl w :: st)) : Gd X M h0 (lenA h r f) h pc L (.inr (.inr r) :: st) := by
  have hd := tb_len hx rfl
  unfold lenA
  split
  · next a0 k n y e =>
    obtain ⟨rfl, hcell⟩ := ar_some e
    refine q_w (g _) (fun {p l e R s m args below meth c H locs cells slots Q ls} hat hI _ hl kk => ?_)
    have kk := kk ls hl
    obtain ⟨ws, hP, hD, hz, hN, hr⟩ := hI.1
    rcases hr a0 _ hcell with ⟨h7, j, hj⟩ | ⟨h10, g0, hg, hT⟩ | ⟨h11, g0, hg, -, hT⟩
    · exact va_alen hat.1 hat.2.1 hat.2.2.2.2.2.2.1.1 hP j k hj (tysX_at X h7) rfl hd kk
    · exact va_tlen hat.1 hat.2.1 hT hI.S rfl hd kk
    · exact va_tlen hat.1 hat.2.1 hT hI.S rfl hd kk
  · exact gd_none
/-- a store into an array of numbers, by its kind -/
theorem ast_fin {X : Cx} {s : State} {h : Hp} {H H1 : Heap} {locs : List Loc} {a0 k n j q : Nat} {gg : Nat → Int32} {y : Int32} (hI : Inv X s h H locs) {ws : va_W} (hP : va_P X.1 vwCl ws H) (hD : va_D (AX X) ws) (hz : H.size = h.2.1) (hN : X.2.2.1 ≤ h.2.1) (hr : ∀ a e, h.1 a = some e → rep1 X s ws a e) (h7 : k < 7)
    (hj : ws[j]? = some (a0, .inl (X.2.1 k, n, .inl gg))) (e1 : H1[a0]? = some ((vp_cell (X.2.1 k) (n, .inl gg)).setSlot q (.int y))) (e2 : H1.size = H.size) (e3 : ∀ b, b ≠ a0 → H1[b]? = H[b]?) : Inv X s (upH h a0 (.inl (k, n, .inl (upd gg q y)))) H1 (locs ++ [⟨a0, q⟩]) := by
  refine hI.put (RepH.put hP hD hz hN hr hj (e1 := .inl (X.2.1 k, n, .inl (upd gg q y))) ?_ e2 e3 (fun ws' h' => Or.inl ⟨h7, j, h'⟩)) e2 e3 (hD.2 j _ hj)
  show H1[a0]? = some (vp_cell _ _)
  rw [e1, vp_cell_i, vp_cell_i, arrV_store]
  congr 2
  funext b
  by_cases hb : b = q
  · subst hb
    simp [updV, upd]
  · simp [updV, upd, hb]
theorem q_iastore (hx : tbB M.2.1 (pc, .iastore, len, v, tgt) = true) (g : ∀ h1, Gd X M h0 (fh h1) h1 (pc + 1) L st) : Gd X M h0 (astI h r [0] i x fh) h pc L (.inl x :: .inl i :: .inr (.inr r) :: st) := by
  have hd := tb_len hx rfl
  unfold astI
  split
  · next a0 k n gg e =>
    split
    · next hc =>
      rw [Bool.and_eq_true, Bool.and_eq_true] at hc
      obtain ⟨rfl, hcell⟩ := ar_some e
      have hin := inB_in hc.2
      have hk := ks_mem hc.1.1
      have k0 : k = 0 := by simpa using hk
      subst k0
      refine q_h (h1 := upH h a0 _) rfl (g _) (fun {p l e R s m args below meth c H locs cells slots Q ls} hat hI hl kk => ?_)
      obtain ⟨ws, hP, hD, hz, hN, hr⟩ := hI.1
      rcases hr a0 _ hcell with ⟨h7, j, hj⟩ | ⟨h10, -⟩ | ⟨h11, -⟩
      · exact W.iast hat.1 hat.2.1 (hP j _ hj) ((hat.2.2.2.2.2.2.1.1.2 0 _ rfl).1 n (fun j => .int (gg j))) (fun q => by cases q) (by show ¬ (i < 0 ∨ (arrV _ _ _).slots.size ≤ _); rw [arrV_size]; exact hin) rfl rfl hd
          fun H1 e1 e2 e3 => kk H1 _ (ast_fin hI hP hD hz hN hr h7 hj e1 e2 e3)
      · omega
      · omega
    · exact gd_none
  · exact gd_none
theorem q_bastore (hx : tbB M.2.1 (pc, .bastore, len, v, tgt) = true) (g : ∀ h1, Gd X M h0 (fh h1) h1 (pc + 1) L st) : Gd X M h0 (astI h r [1, 2] i x fh) h pc L (.inl x :: .inl i :: .inr (.inr r) :: st) := by
  have hd := tb_len hx rfl
  unfold astI
  split
  · next a0 k n gg e =>
    split
    · next hc =>
      rw [Bool.and_eq_true, Bool.and_eq_true] at hc
      obtain ⟨rfl, hcell⟩ := ar_some e
      have hin := inB_in hc.2
      have hk := ks_mem hc.1.1
      have k0 : k = 1 ∨ k = 2 := by simpa using hk
      refine q_h (h1 := upH h a0 _) rfl (g _) (fun {p l e R s m args below meth c H locs cells slots Q ls} hat hI hl kk => ?_)
      obtain ⟨ws, hP, hD, hz, hN, hr⟩ := hI.1
      rcases hr a0 _ hcell with ⟨h7, j, hj⟩ | ⟨h10, -⟩ | ⟨h11, -⟩
      · rcases k0 with rfl | rfl
        · exact W.bast hat.1 hat.2.1 (hP j _ hj) ((hat.2.2.2.2.2.2.1.1.2 1 _ rfl).1 n (fun j => .int (gg j))) (fun q => by cases q) (by show ¬ (i < 0 ∨ (arrV _ _ _).slots.size ≤ _); rw [arrV_size]; exact hin) rfl rfl hd
            fun H1 e1 e2 e3 => kk H1 _ (ast_fin hI hP hD hz hN hr h7 hj e1 e2 e3)
        · exact W.zast hat.1 hat.2.1 (hP j _ hj) ((hat.2.2.2.2.2.2.1.1.2 2 _ rfl).1 n (fun j => .int (gg j))) (fun q => by cases q) (by show ¬ (i < 0 ∨ (arrV _ _ _).slots.size ≤ _); rw [arrV_size]; exact hin) rfl rfl hd
            fun H1 e1 e2 e3 => kk H1 _ (ast_fin hI hP hD hz hN hr h7 hj e1 e2 e3)
      · omega
      · omega
    · exact gd_none
  · exact gd_none
theorem q_castore (hx : tbB M.2.1 (pc, .castore, len, v, tgt) = true) (g : ∀ h1, Gd X M h0 (fh h1) h1 (pc + 1) L st) : Gd X M h0 (astI h r [3] i x fh) h pc L (.inl x :: .inl i :: .inr (.inr r) :: st) := by
  have hd := tb_len hx rfl
  unfold astI
  split
  · next a0 k n gg e =>
    split
    · next hc =>
      rw [Bool.and_eq_true, Bool.and_eq_true] at hc
      obtain ⟨rfl, hcell⟩ := ar_some e
      have hin := inB_in hc.2
      have hk := ks_mem hc.1.1
      have k0 : k = 3 := by simpa using hk
      subst k0
      refine q_h (h1 := upH h a0 _) rfl (g _) (fun {p l e R s m args below meth c H locs cells slots Q ls} hat hI hl kk => ?_)
      obtain ⟨ws, hP, hD, hz, hN, hr⟩ := hI.1
      rcases hr a0 _ hcell with ⟨h7, j, hj⟩ | ⟨h10, -⟩ | ⟨h11, -⟩
      · exact W.cast hat.1 hat.2.1 (hP j _ hj) ((hat.2.2.2.2.2.2.1.1.2 3 _ rfl).1 n (fun j => .int (gg j))) (fun q => by cases q) (by show ¬ (i < 0 ∨ (arrV _ _ _).slots.size ≤ _); rw [arrV_size]; exact hin) rfl rfl hd
          fun H1 e1 e2 e3 => kk H1 _ (ast_fin hI hP hD hz hN hr h7 hj e1 e2 e3)
      · omega
      · omega
    · exact gd_none
  · exact gd_none
theorem astR_fin {X : Cx} {s : State} {h : Hp} {H H1 : Heap} {locs : List Loc} {a0 k n j q : Nat} {gg : Nat → Option Nat} {y : Option Nat} (hI : Inv X s h H locs) {ws : va_W} (hP : va_P X.1 vwCl ws H) (hD : va_D (AX X) ws) (hz : H.size = h.2.1) (hN : X.2.2.1 ≤ h.2.1) (hr : ∀ a e, h.1 a = some e → rep1 X s ws a e) (h7 : k < 7)
    (hj : ws[j]? = some (a0, .inl (X.2.1 k, n, .inr (.inr (.inr (.inr gg)))))) (e1 : H1[a0]? = some ((vp_cell (X.2.1 k) (n, .inr (.inr (.inr (.inr gg))))).setSlot q (va_rf y))) (e2 : H1.size = H.size) (e3 : ∀ b, b ≠ a0 → H1[b]? = H[b]?) : Inv X s (upH h a0 (.inl (k, n, .inr (.inr (.inr (.inr (va_up gg q y))))))) H1 (locs ++ [⟨a0, q⟩]) := by
  refine hI.put (RepH.put hP hD hz hN hr hj (e1 := .inl (X.2.1 k, n, .inr (.inr (.inr (.inr (va_up gg q y)))))) ?_ e2 e3 (fun ws' h' => Or.inl ⟨h7, j, h'⟩)) e2 e3 (hD.2 j _ hj)
  show H1[a0]? = some (vp_cell _ _)
  rw [e1, vp_cell_q, vp_cell_q, arrV_store]
  congr 2
  funext b
  by_cases hb : b = q
  · subst hb
    simp [updV, va_up]
  · simp [updV, va_up, hb]
def clR : Nat → vw_C
  | 4 => (RX1, TX1, 4)
  | 5 => (RX2, TX2, 14)
  | _ => (RX4, TX4, 13)
theorem clR_ok {k : Nat} (h3 : 3 < k) (h7 : k < 7) : vwCl[ecl k]? = some (clR k) ∧ tyA k = .object (clR k).1 := by
  rcases (by omega : k = 4 ∨ k = 5 ∨ k = 6) with rfl | rfl | rfl <;> exact ⟨rfl, rfl⟩
theorem q_aastore {w : Option Nat} (hx : tbB M.2.1 (pc, .aastore, len, v, tgt) = true) (g : ∀ h1, Gd X M h0 (fh h1) h1 (pc + 1) L st) : Gd X M h0 (astR h r i w fh) h pc L (.inr (.inr w) :: .inl i :: .inr (.inr r) :: st) := by
  have hd := tb_len hx rfl
  unfold astR
  split
  · next a0 k n gg e =>
    split
    · next hc =>
      rw [Bool.and_eq_true, Bool.and_eq_true, Bool.and_eq_true] at hc
      obtain ⟨rfl, hcell⟩ := ar_some e
      have hin := inB_in hc.2.1
      have k3 : 3 < k := Nat.le_of_ble_eq_true hc.1.1
      have k7 : k < 7 := Nat.le_of_ble_eq_true hc.1.2
      have hel := hc.2.2
      obtain ⟨hcl, hty⟩ := clR_ok k3 k7
      refine q_h (h1 := upH h a0 _) rfl (g _) (fun {p l e R s m args below meth c H locs cells slots Q ls} hat hI hl kk => ?_)
      obtain ⟨ws, hP, hD, hz, hN, hr⟩ := hI.1
      have hK : va_K X.1 vwCl (tysX X) s := hat.2.2.2.2.2.2.1.1
      have ht := tysX_at X k7
      rw [hty] at ht
      have hin' : ¬ (i < 0 ∨ (vp_cell (X.2.1 k) (n, .inr (.inr (.inr (.inr gg))))).slots.size ≤ i.toNatClampNeg) := by
        show ¬ (i < 0 ∨ (arrV _ _ _).slots.size ≤ _)
        rw [arrV_size]
        exact hin
      rcases hr a0 _ hcell with ⟨h7, j, hj⟩ | ⟨h10, -⟩ | ⟨h11, -⟩
      · cases w with
        | none => exact va_WaastN (C := (clR k).1) hat.1 hat.2.1 (hP j _ hj) ((hK.2 k _ ht).1 n (fun j => va_rf (gg j))) (fun q => by cases q) hin' rfl rfl hd fun H1 e1 e2 e3 => kk H1 _ (astR_fin (y := none) hI hP hD hz hN hr h7 hj e1 e2 e3)
        | some b =>
          unfold isEl at hel
          split at hel
          · next q => cases q
          · next b' q =>
            cases q
            split at hel
            · next c0 fs hcb =>
              have hc0 : c0 = ecl k := by simpa using hel
              subst hc0
              rcases hr b _ hcb with ⟨h9, jb, hjb⟩ | ⟨h10, -⟩
              · obtain ⟨r', hr', cellV, g1, g2, g3, -⟩ := hP jb _ hjb
                have hcls := (hK.1 (ecl k) (clR k) hcl).2
                obtain ⟨kA, comp, k1, k2, k3', -⟩ := (hK.2 k _ ht).2
                have hcomp : comp = X.1.1 (ecl k) := Option.some.inj (k3'.symm.trans hcls.1)
                subst hcomp
                obtain ⟨kC, hkC, -⟩ := hcls.2
                exact W.aast hat.1 hat.2.1 (hP j _ hj) (fun q h => by cases h) (fun h => by cases h) k1 k2 rfl hkC ⟨fun q => hin' (Or.inl q), Nat.not_le.mp fun q => hin' (Or.inr q)⟩ g1 (fun q h => by rw [g3] at h; cases h) (by rw [g2]; exact hkC) (by rw [g2]; exact va_assign hcls) rfl rfl hd
                  fun H1 e1 e2 e3 => kk H1 _ (astR_fin (y := some b) hI hP hD hz hN hr h7 hj e1 e2 e3)
              · rcases (by omega : k = 4 ∨ k = 5 ∨ k = 6) with rfl | rfl | rfl <;> cases h10
            · cases hel
      · omega
      · omega
    · exact gd_none
  · exact gd_none
end ARR
section MAKE
variable {X : Cx} {M : MI} {h0 h : Hp} {o : Rs} {L : List (Option AV)} {st : List AV} {pc len tgt idx : Nat} {v i x : Int32} {f : Hp → Option Nat → Rs}
theorem q_mk {h1 : Hp} {n pb : Nat} {st0 : List AV} (e1 : h1.2.1 = h.2.1 + 1) (e2 : h1.2.2 = h.2.2 + n) (g : Gd X M h0 o h1 pb L st)
    (w : ∀ {p : Program} {l : Launch} {e : Jvm.Env} {R : Room} {s : State} {m : MethodId} {args : Array Value} {below : List Frame} {meth : Method} {c : Code} {H : Heap} {locs : List Loc} {cells slots : Nat} {Q : State → Prop} {ls : Array Slot}, At0 M X p s m args meth c → Inv X s h H locs → LV ls M.2.2.1 L → cells + 1 ≤ R.cells → slots + n ≤ R.slots → (∀ H1, Inv X s h1 H1 locs → W p l e R s m args below meth c H1 locs (cells + 1) (slots + n) Q (F0 m pb ls (st.map tV))) → W p l e R s m args below meth c H locs cells slots Q (F0 m pc ls (st0.map tV))) : Gd X M h0 o h pc L st0 := by
  intro hf res ho
  obtain ⟨hle, g⟩ := g hf res ho
  unfold HLe at hle
  rw [e1, e2] at hle
  refine ⟨⟨by omega, by omega⟩, fun h0h l p e R s m args below meth c Q hat hrm hret H locs ls hI hl => ?_⟩
  unfold HLe at h0h
  refine w hat hI hl (by have := hrm.2.2.1; omega) (by have := hrm.2.2.2; omega) (fun H1 hI1 => ?_)
  have := g ⟨by rw [e1]; omega, by rw [e2]; omega⟩ l p e R s m args below meth c Q hat hrm hret H1 locs ls hI1 hl
  rw [e1, e2, show h.2.1 + 1 - h0.2.1 = h.2.1 - h0.2.1 + 1 by omega, show h.2.2 + n - h0.2.2 = h.2.2 - h0.2.2 + n by omega] at this
  exact this
theorem q_new {ci : Nat} (C : String) (T : u_T) (N : Nat) (hx : tbB M.2.1 (pc, .new idx, len, v, tgt) = true) (h9 : ci < 9) (hc : vwCl[ci]? = some (C, T, N)) (hw : Cond.classLink M.1.cls idx C ∈ goodTbl ∧ Cond.instantiable C N ∈ goodTbl ∧ Cond.initialized C ∈ goodTbl)
    (g : ∀ h1 q, Gd X M h0 (f h1 q) h1 (pc + 3) L (.inr (.inr q) :: st)) : Gd X M h0 (nwO h ci f) h pc L st := by
  have hd := tb_len hx rfl
  obtain ⟨C', T', N', hc', hty, hnm, hNn, hdf⟩ := cl_9 h9
  have heq : (C', T', N') = (C, T, N) := Option.some.inj (hc'.symm.trans hc)
  cases heq
  refine q_mk (h1 := pushH h (.inr (ci, dfC ci)) (nmC ci)) rfl rfl (g _ _) (fun {p l e R s m args below meth c H locs cells slots Q ls} hat hI hl hcl hsl kk => ?_)
  have hts := hat.2.2.2.2.2.1
  have hKn := hat.2.2.2.2.2.2.1.1.1 ci _ hc
  have hz : H.size = h.2.1 := by obtain ⟨ws, -, -, hz, -⟩ := hI.1; exact hz
  subst hNn
  refine W.newcK hat.1 hat.2.1 hat.2.2.2.1 (hts _ hw.1) (hts _ hw.2.1) (hts _ hw.2.2) rfl hd hcl hsl hKn.2.1 hz fun H1 kC hkC e1 z1 o1 => ?_
  refine kk H1 (hI.push (RepH.push hI.1 (e1 := .inr (ci, (dfC ci).map tV)) ⟨_, hc, ?_⟩ (by rw [z1, hz]) (fun q hq => o1 q (by rw [← hz]; exact hq)) (fun ws' i h' => Or.inl ⟨h9, i, h'⟩)) (by rw [z1, hz]) (fun q hq => o1 q (by rw [← hz]; exact hq)))
  rw [hz]
  exact (u_born _ hts (cl_in hc) hKn hkC e1 hty).to hdf
def atyOf : Nat → ArrayType
  | 0 => .int
  | 1 => .byte
  | 2 => .boolean
  | _ => .char
theorem q_newa {k : Nat} (hk : k < 4) (hx : tbB M.2.1 (pc, .newarray (atyOf k), len, v, tgt) = true) (hw : Cond.arrayClass (newarray.typeOf (atyOf k)) ∈ goodTbl)
    (g : ∀ h1 q, Gd X M h0 (f h1 q) h1 (pc + 2) L (.inr (.inr q) :: st)) : Gd X M h0 (nwA h k x f) h pc L (.inl x :: st) := by
  have hd := tb_len hx rfl
  unfold nwA
  split
  · next hc =>
    rw [Bool.and_eq_true] at hc
    have hx0 : ¬ x < 0 := by simpa using hc.1
    have hxm : x.toNatClampNeg ≤ 1000000 := Nat.le_of_ble_eq_true hc.2
    refine q_mk rfl rfl (g _ _) (fun {p l e R s m args below meth c H locs cells slots Q ls} hat hI hl hcl hsl kk => ?_)
    have hts := hat.2.2.2.2.2.1
    have hK : va_K X.1 vwCl (tysX X) s := hat.2.2.2.2.2.2.1.1
    have hz : H.size = h.2.1 := by obtain ⟨ws, -, -, hz, -⟩ := hI.1; exact hz
    refine va_newaK hat.1 hat.2.1 (hts _ hw) rfl hd rfl hx0 rfl ?_ hcl hsl hz fun H1 cA e1 z1 o1 hAr hNm => ?_
    · rcases (by omega : k = 0 ∨ k = 1 ∨ k = 2 ∨ k = 3) with rfl | rfl | rfl | rfl <;> (simp only [atyOf, newarray.typeOf, componentBytes]; omega)
    · have hcA : cA = X.2.1 k := by
        have h2 := (hK.2 k _ (tysX_at X (by omega : k < 7))).2
        rcases (by omega : k = 0 ∨ k = 1 ∨ k = 2 ∨ k = 3) with rfl | rfl | rfl | rfl <;> exact Option.some.inj (hNm.symm.trans h2)
      subst hcA
      refine kk H1 (hI.push (RepH.push hI.1 (e1 := .inl (X.2.1 k, x.toNatClampNeg, .inl (fun _ => 0))) ?_ (by rw [z1, hz]) (fun q hq => o1 q (by rw [← hz]; exact hq)) (fun ws' i h' => Or.inl ⟨by omega, i, h'⟩)) (by rw [z1, hz]) (fun q hq => o1 q (by rw [← hz]; exact hq)))
      show H1[H.size]? = some (vp_cell _ _)
      rw [hz, e1, vp_cell_i]
      rcases (by omega : k = 0 ∨ k = 1 ∨ k = 2 ∨ k = 3) with rfl | rfl | rfl | rfl <;> rfl
  · exact gd_none
theorem q_newr {k : Nat} (h3 : 3 < k) (h7 : k < 7) (hx : tbB M.2.1 (pc, .anewarray idx, len, v, tgt) = true) (hw : Cond.classLink M.1.cls idx (clR k).1 ∈ goodTbl)
    (g : ∀ h1 q, Gd X M h0 (f h1 q) h1 (pc + 3) L (.inr (.inr q) :: st)) : Gd X M h0 (nwR h k x f) h pc L (.inl x :: st) := by
  have hd := tb_len hx rfl
  unfold nwR
  split
  · next hc =>
    rw [Bool.and_eq_true] at hc
    have hx0 : ¬ x < 0 := by simpa using hc.1
    have hxm : x.toNatClampNeg ≤ 1000000 := Nat.le_of_ble_eq_true hc.2
    refine q_mk rfl rfl (g _ _) (fun {p l e R s m args below meth c H locs cells slots Q ls} hat hI hl hcl hsl kk => ?_)
    have hts := hat.2.2.2.2.2.1
    have hK : va_K X.1 vwCl (tysX X) s := hat.2.2.2.2.2.2.1.1
    have hao : va_AO (clR k).1 s := by
      obtain ⟨a1, a2, a3⟩ := hat.2.2.2.2.2.2.1.2.1
      rcases (by omega : k = 4 ∨ k = 5 ∨ k = 6) with rfl | rfl | rfl
      · exact a1
      · exact a2
      · exact a3
    have hz : H.size = h.2.1 := by obtain ⟨ws, -, -, hz, -⟩ := hI.1; exact hz
    refine W.anew hat.1 hat.2.1 hat.2.2.2.1 (hts _ hw) (va_AO.use hao) rfl hd rfl hx0 (by omega) hcl hsl fun cA kA comp f1 f2 f3 f4 => ?_
    obtain ⟨hcl', hty⟩ := clR_ok h3 h7
    have ht := tysX_at X h7
    rw [hty] at ht
    have hcA : cA = X.2.1 k := by
      obtain ⟨_, _, -, -, -, h4⟩ := (hK.2 k _ ht).2
      exact Option.some.inj (f1.symm.trans h4)
    subst hcA
    generalize hH1 : H.push ({ cls := X.2.1 k, slots := Array.replicate x.toNatClampNeg .null, vm := .none } : Cell) = H1
    have z1 : H1.size = H.size + 1 := by rw [← hH1, Array.size_push]
    have e1 : H1[H.size]? = some (arrV (X.2.1 k) x.toNatClampNeg (fun _ => .null)) := by rw [← hH1, Array.getElem?_push_size, ← arrV_new]
    have o1 : ∀ q : Nat, q < H.size → H1[q]? = H[q]? := fun q hq => by rw [← hH1, Array.getElem?_push, if_neg (Nat.ne_of_lt hq)]
    have kk := kk H1 (hI.push (RepH.push hI.1 (e1 := .inl (X.2.1 k, x.toNatClampNeg, .inr (.inr (.inr (.inr (fun _ => none)))))) (by
      show H1[H.size]? = some (vp_cell _ _)
      rw [vp_cell_q]
      exact e1) z1 o1 (fun ws' i h' => Or.inl ⟨h7, i, h'⟩)) z1 o1)
    rw [hz]
    exact kk
  · exact gd_none
end MAKE
end
section
/-! RETURNS, SWITCHES, CALLS -/
theorem nar_eq (ty : FieldType) (x : Int32) : narrow ty (.int x) = .int (vp_nar ty x) := by cases ty <;> rfl
def catA (v : AV) : Nat := match v with
  | .inr (.inl _) => 2
  | _ => 1
theorem catA_eq (v : AV) : (tV v).category = catA v := by
  obtain x | y | r := v
  · rfl
  · rfl
  · cases r <;> rfl
theorem cat_sum (st : List AV) : ((st.map tV).map fun v => v.category).sum = (st.map catA).sum := by
  rw [List.map_map]
  congr 1
  exact List.map_congr_left (fun v _ => catA_eq v)
section RET
variable {X : Cx} {M : MI} {h0 h : Hp} {o : Rs} {L : List (Option AV)} {st : List AV} {pc len tgt idx : Nat} {v x : Int32} {r : Option Nat}
theorem q_iret (hx : tbB M.2.1 (pc, .ireturn, len, v, tgt) = true) (hr : M.2.2.2.1 = some .int) : Gd X M h0 (some (h, some (.inl x))) h pc L [.inl x] := by
  have hd := tb_len hx rfl
  intro hf res ho
  cases ho
  exact ⟨HLe.rf, fun _ l p e R s m args below meth c Q hat hrm hret H locs ls hI hl => hret H locs ls pc _ hI hd ⟨rfl, _, hr, rfl⟩⟩
theorem q_zret {ty : FieldType} (hx : tbB M.2.1 (pc, .ireturn, len, v, tgt) = true) (hr : M.2.2.2.1 = some ty) : Gd X M h0 (rtI ty h x) h pc L [.inl x] := by
  have hd := tb_len hx rfl
  unfold rtI
  split
  · next hn =>
    intro hf res ho
    cases ho
    exact ⟨HLe.rf, fun _ l p e R s m args below meth c Q hat hrm hret H locs ls hI hl => hret H locs ls pc _ hI hd ⟨rfl, _, hr, by rw [nar_eq, hn]⟩⟩
  · exact gd_none
theorem q_aret {ty : FieldType} (hx : tbB M.2.1 (pc, .areturn, len, v, tgt) = true) (hr : M.2.2.2.1 = some ty) (hty : (∃ n, ty = .object n) ∨ ∃ t, ty = .array t) : Gd X M h0 (some (h, some (.inr (.inr r)))) h pc L [.inr (.inr r)] := by
  have hd := tb_len hx rfl
  intro hf res ho
  cases ho
  exact ⟨HLe.rf, fun _ l p e R s m args below meth c Q hat hrm hret H locs ls hI hl => hret H locs ls pc _ hI hd ⟨rfl, _, hr, hty⟩⟩
theorem q_vret (hx : tbB M.2.1 (pc, .return_, len, v, tgt) = true) (hr : M.2.2.2.1 = none) : Gd X M h0 (some (h, none)) h pc L [] := by
  have hd := tb_len hx rfl
  intro hf res ho
  cases ho
  exact ⟨HLe.rf, fun _ l p e R s m args below meth c Q hat hrm hret H locs ls hI hl => hret H locs ls pc _ hI hd ⟨rfl, hr⟩⟩
def swf (x : Int32) : List (Int32 × Rs) → Rs → Rs
  | [], d => d
  | (k, a) :: r, d => if x = k then a else swf x r d
def swG (P : Rs → Nat → Prop) : List (Int32 × Rs) → List (Int32 × Nat) → Prop
  | [], [] => True
  | (k, a) :: r, (k', t) :: r' => (k = k' ∧ P a t) ∧ swG P r r'
  | _, _ => False
def swB (pc : Nat) (dflt lo hi : Int) (offs : Array Int) (ks : List (Int32 × Nat)) (td : Nat) : Bool :=
  (ks.all (fun q => decide (lo ≤ q.1.toInt) && (decide (q.1.toInt ≤ hi) && match offs[(q.1.toInt - lo).toNat]? with
    | some off => decide ((pc : Int) + off = (q.2 : Int))
    | none => false)) && decide ((pc : Int) + dflt = (td : Int))) && (decide (hi - lo + 1 = (offs.size : Int)) && (List.range offs.size).all (fun j => decide (offs[j]? = some dflt) || ks.any (fun q => decide (q.1.toInt = lo + j))))
theorem sw_find {P : Rs → Nat → Prop} {x : Int32} {d : Rs} : ∀ {as : List (Int32 × Rs)} {ks : List (Int32 × Nat)}, swG P as ks → (∃ a t, (x, t) ∈ ks ∧ swf x as d = a ∧ P a t) ∨ ((∀ q ∈ ks, x ≠ q.1) ∧ swf x as d = d)
  | [], [], _ => Or.inr ⟨fun q hq => (by cases hq), rfl⟩
  | (k, a) :: r, (k', t) :: r', hg => by
    obtain ⟨⟨rfl, hp⟩, hg⟩ := hg
    by_cases hx : x = k
    · exact Or.inl ⟨a, t, by rw [hx]; exact List.mem_cons_self, by simp [swf, hx], hp⟩
    · rcases sw_find (x := x) (d := d) hg with ⟨a', t', h1, h2, h3⟩ | ⟨h1, h2⟩
      · exact Or.inl ⟨a', t', List.mem_cons_of_mem _ h1, by simp [swf, hx, h2], h3⟩
      · refine Or.inr ⟨fun q hq => ?_, by simp [swf, hx, h2]⟩
        rcases List.mem_cons.mp hq with rfl | hq
        · exact hx
        · exact h1 q hq
  | [], _ :: _, hg => hg.elim
  | _ :: _, [], hg => hg.elim
theorem q_sw {dflt lo hi : Int} {offs : Array Int} {as : List (Int32 × Rs)} {d : Rs} (ks : List (Int32 × Nat)) (td : Nat) (hx : tbB M.2.1 (pc, .tableswitch dflt lo hi offs, len, v, tgt) = true) (hb : swB pc dflt lo hi offs ks td = true)
    (gd : Gd X M h0 d h td L st) (ga : swG (fun a t => Gd X M h0 a h t L st) as ks) : Gd X M h0 (swf x as d) h pc L (.inl x :: st) := by
  have hd := tb_d hx
  unfold swB at hb
  rw [Bool.and_eq_true, Bool.and_eq_true, Bool.and_eq_true, decide_eq_true_eq, decide_eq_true_eq, List.all_eq_true, List.all_eq_true] at hb
  obtain ⟨⟨hks, htd⟩, hsz, hcov⟩ := hb
  rcases sw_find (x := x) (d := d) ga with ⟨a, t, h1, h2, h3⟩ | ⟨h1, h2⟩
  · rw [h2]
    have hq := hks _ h1
    rw [Bool.and_eq_true, Bool.and_eq_true, decide_eq_true_eq, decide_eq_true_eq] at hq
    obtain ⟨q1, q2, q3⟩ := hq
    split at q3
    · next off ho =>
      refine q_w h3 (fun hat _ _ hl k => ?_)
      exact lv_tableIn hat.1 hat.2.1 hd (by dsimp only at q1; omega) (by dsimp only at q2; omega) ho (by simpa using q3) (k _ hl)
    · cases q3
  · rw [h2]
    refine q_w gd (fun hat _ _ hl k => ?_)
    by_cases hout : x.toInt < lo ∨ hi < x.toInt
    · exact lv_tableOut hat.1 hat.2.1 hd hout htd (k _ hl)
    · have g1 : ¬ x.toInt < lo := fun q => hout (Or.inl q)
      have g2 : ¬ hi < x.toInt := fun q => hout (Or.inr q)
      have hj : (x.toInt - lo).toNat < offs.size := by omega
      have hc := hcov _ (List.mem_range.mpr hj)
      rw [Bool.or_eq_true, decide_eq_true_eq, List.any_eq_true] at hc
      rcases hc with hc | ⟨q, hq, hqe⟩
      · exact lv_tableIn hat.1 hat.2.1 hd g1 g2 hc htd (k _ hl)
      · rw [decide_eq_true_eq] at hqe
        exact absurd (Int32.toInt_inj.mp (by omega)) (h1 q hq)
end RET
/-! calls -/
theorem Env.calling {X : Cx} {U : State} {g : JFrame} {mk : MethodId} {a : Array Value} (h : Env X U) : Env X (U.calling g mk a) := by
  obtain ⟨h1, ⟨a1, a2, a3⟩, ⟨b1, b2⟩, ⟨c1, c2⟩, ⟨z1, z2, z3, z4, z5⟩, ⟨⟨q1, e1, k1⟩, ⟨q2, e2, k2⟩, ⟨q3, e3, k3⟩, ⟨q4, e4, k4⟩⟩, cc⟩ := h
  have hm : U.vm.Alike (U.calling g mk a).vm := Vm.Alike.refl U.vm
  have hv : U.vm = (U.calling g mk a).vm := rfl
  exact ⟨va_K.moved (U := U.calling g mk a) hm h1, ⟨va_AO.moved (U := U.calling g mk a) hm a1, va_AO.moved (U := U.calling g mk a) hm a2, va_AO.moved (U := U.calling g mk a) hm a3⟩, ⟨va_Nw.same rfl hv b1, va_Nw.same rfl hv b2⟩, ⟨va_Nw.same rfl hv c1, va_Nw.same rfl hv c2⟩,
    ⟨va_Z.moved (U := U.calling g mk a) hm z1, va_Z.moved (U := U.calling g mk a) hm z2, va_Z.moved (U := U.calling g mk a) hm z3, va_Z.moved (U := U.calling g mk a) hm z4, va_Z.moved (U := U.calling g mk a) hm z5⟩,
    ⟨⟨q1, e1, vk_R.same hv.symm k1⟩, ⟨q2, e2, vk_R.same hv.symm k2⟩, ⟨q3, e3, vk_R.same hv.symm k3⟩, ⟨q4, e4, vk_R.same hv.symm k4⟩⟩, va_Nw.same rfl hv cc⟩
theorem PcM.blind {X : Cx} {h : Hp} {as : List AV} : FrameBlind (PcM X h as) := by
  intro a U g mk hp
  obtain ⟨h1, h2, h3, h4⟩ := hp
  exact ⟨h1, RepH.to (s := U) (U := U.calling g mk a) (Vm.Alike.refl U.vm) FrN.rf h2, h3.calling, h4⟩
theorem PcM.at {X : Cx} {h : Hp} {as : List AV} {s : State} {H : Heap} {locs : List Loc} (hE : Env X s) (hN : X.2.2.1 ≤ s.heap.size) (hI : Inv X s h H locs) : ∀ U : State, U.heap = H → s.WarmedH U.vm → PcM X h as (as.map tV).toArray U := by
  intro U hU hW
  have hf : FrN X.2.2.1 s.heap U.heap := by rw [hU]; exact hI.2.1
  exact ⟨rfl, by rw [hU]; exact RepH.to hW.alike hf hI.1, Env.to hW hf hE, by rw [hU]; exact Nat.le_trans hN hI.2.2.1⟩
theorem good_all {w : Cond} (h : w ∈ goodTbl) : goodWord w = true := (List.mem_filter.mp h).2
theorem good_in {ws : List Cond} (h : ∀ w ∈ ws, w ∈ goodTbl) : GoodIn goodTbl ws := fun w hw => ⟨h w hw, good_of_word (good_all (h w hw))⟩
/-- what any call asks of its callee -/
def Ce (M : MI) (n : Nat) : Prop := Cond.initialized M.1.cls ∈ goodTbl ∧ Cond.code M.1 M.2.1 M.2.2.1 M.2.2.2.1 ∈ goodTbl ∧ M.1.cls ≠ "java/lang/invoke/MethodHandle" ∧ M.1.cls ≠ "java/lang/invoke/VarHandle" ∧ (parseMethodDescriptor M.1.desc).map (fun d => d.parameters.length) = some n
theorem Ce.ws {M : MI} {n : Nat} (h : Ce M n) : ∀ w ∈ wsM M, w ∈ goodTbl := by
  intro w hw
  rcases List.mem_cons.mp hw with rfl | hw
  · exact h.2.1
  · exact hw
def dpB (M M' : MI) : Bool := Nat.blt M'.2.2.2.2 M.2.2.2.2 && Nat.ble (8 + (M'.2.2.1 + 11) + 40 * M'.2.2.2.2) (40 * M.2.2.2.2)
theorem dp_ok {M M' : MI} (h : dpB M M' = true) : M'.2.2.2.2 + 1 ≤ M.2.2.2.2 ∧ 8 + (M'.2.2.1 + 11) + 40 * M'.2.2.2.2 ≤ 40 * M.2.2.2.2 := by
  unfold dpB at h
  rw [Bool.and_eq_true] at h
  exact ⟨Nat.le_of_ble_eq_true h.1, Nat.le_of_ble_eq_true h.2⟩
section CALL
variable {X : Cx} {M M' : MI} {h0 h : Hp} {o o' : Rs} {L : List (Option AV)} {st as : List AV} {pc len tgt idx ci : Nat} {v x : Int32} {r : Option Nat} {k : Hp → Option AV → Rs}
theorem run_W {h' : Hp} {r' : Option AV} {p : Program} {l : Launch} {e : Jvm.Env} {R : Room} {s : State} {m : MethodId} {args : Array Value} {below : List Frame} {meth : Method} {c : Code} {H : Heap} {locs : List Loc} {cells slots mc ms : Nat} {Q : State → Prop} {ls : Array Slot} {st0 rest : List Value} {a : Array Value}
    (hr : va_Run p l e R s m args below meth c H locs cells slots mc ms (F0 m pc ls st0) rest (QcM X h' r' a) (fun q => X.2.2.1 ≤ q)) (hI : Inv X s h H locs)
    (kk : ∀ H1 locs1, Inv X s h' H1 locs1 → W p l e R s m args below meth c H1 locs1 (cells + mc) (slots + ms) Q (F0 m (pc + 3) ls ((r'.map tV).toList ++ rest))) : W p l e R s m args below meth c H locs cells slots Q (F0 m pc ls st0) := by
  intro T hT X0
  obtain ⟨v, st₀, t, T', LL, e0, X', hL, e1, e2, ⟨hv, hrep, hfr, hsz⟩, st⟩ := hr T hT X0
  cases hv
  have hal : s.vm.Alike t.vm := by rw [← e2]; exact X'.warmed.alike
  have hfr1 : FrN X.2.2.1 s.heap t.heap := by rw [e0] at hfr; exact hI.2.1.trans hfr
  obtain ⟨t2, a1, b1⟩ := kk T'.heap (locs ++ LL) ⟨by rw [e1]; exact RepH.to hal.symm hfr1.symm hrep, by rw [e1]; exact hfr1, by rw [e1]; rw [e0] at hsz; exact Nat.le_trans hI.2.2.1 hsz, fun q hq => by
    rcases List.mem_append.mp hq with h | h
    · exact hI.2.2.2 q h
    · exact hL q h⟩ T' rfl X'
  exact ⟨t2, st t2 a1, b1⟩
theorem q_call {st0 : List AV} (so : SO X M' as h o') (g : ∀ h' r', Gd X M h0 (k h' r') h' (pc + 3) L (r'.toList ++ st))
    (w : ∀ {p : Program} {l : Launch} {e : Jvm.Env} {R : Room} {s : State} {m : MethodId} {args : Array Value} {below : List Frame} {meth : Method} {c : Code} {H : Heap} {locs : List Loc} {cells slots : Nat} {ls : Array Slot} {h' : Hp} {r' : Option AV}, At0 M X p s m args meth c → Inv X s h H locs → LV ls M.2.2.1 L → M.2.2.2.2 ≤ R.frames → 40 * M.2.2.2.2 ≤ R.locals → Met l M'.1 (wsM M') (rmM M' h h') (PcM X h as) (QcM X h' r') (h'.2.1 - h.2.1) (h'.2.2 - h.2.2) (fun q => X.2.2.1 ≤ q) →
      cells + (h'.2.1 - h.2.1) ≤ R.cells ∧ slots + (h'.2.2 - h.2.2) ≤ R.slots → va_Run p l e R s m args below meth c H locs cells slots (h'.2.1 - h.2.1) (h'.2.2 - h.2.2) (F0 m pc ls (st0.map tV)) (st.map tV) (QcM X h' r' (as.map tV).toArray) (fun q => X.2.2.1 ≤ q)) : Gd X M h0 (cc o' k) h pc L st0 := by
  unfold cc
  split
  · next h' r' =>
    obtain ⟨hle', hM⟩ := so h' r' rfl
    intro hf res ho
    obtain ⟨hle, g⟩ := g h' r' hf res ho
    refine ⟨hle'.trans hle, fun h0h l p e R s m args below meth c Q hat hrm hret H locs ls hI hl => ?_⟩
    have c1 := hle'.1
    have c2 := hle'.2
    have c3 := hle.1
    have c4 := hle.2
    have c5 := h0h.1
    have c6 := h0h.2
    have r1 := hrm.2.2.1
    have r2 := hrm.2.2.2
    refine run_W (w hat hI hl hrm.1 hrm.2.1 (hM l) ⟨by omega, by omega⟩) hI (fun H1 locs1 hI1 => ?_)
    have := g (h0h.trans hle') l p e R s m args below meth c Q hat hrm hret H1 locs1 ls hI1 hl
    rw [show h'.2.1 - h0.2.1 = h.2.1 - h0.2.1 + (h'.2.1 - h.2.1) by omega, show h'.2.2 - h0.2.2 = h.2.2 - h0.2.2 + (h'.2.2 - h.2.2) by omega, List.map_append] at this
    cases r' with
    | none => exact this
    | some z => exact this
  · exact gd_none
theorem kI_gd {f : Hp → Int32 → Rs} {pc' : Nat} (g : ∀ h' x, Gd X M h0 (f h' x) h' pc' L (.inl x :: st)) : ∀ h' r', Gd X M h0 (kI f h' r') h' pc' L (r'.toList ++ st) := by
  intro h' r'
  obtain _ | x | y | q := r'
  · exact gd_none
  · exact g h' x
  · exact gd_none
  · exact gd_none
theorem kR_gd {f : Hp → Option Nat → Rs} {pc' : Nat} (g : ∀ h' x, Gd X M h0 (f h' x) h' pc' L (.inr (.inr x) :: st)) : ∀ h' r', Gd X M h0 (kR f h' r') h' pc' L (r'.toList ++ st) := by
  intro h' r'
  obtain _ | x | y | q := r'
  · exact gd_none
  · exact gd_none
  · exact gd_none
  · exact g h' q
theorem kV_gd {f : Hp → Rs} {pc' : Nat} (g : ∀ h', Gd X M h0 (f h') h' pc' L st) : ∀ h' r', Gd X M h0 (kV f h' r') h' pc' L (r'.toList ++ st) := by
  intro h' r'
  obtain _ | x := r'
  · exact g h'
  · exact gd_none
theorem At0.fix {p : Program} {s : State} {m : MethodId} {args : Array Value} {meth : Method} {c : Code} (h : At0 M X p s m args meth c) : CallFix p m c M.2.1 M.2.2.1 s args goodTbl M.1.cls := ⟨h.1, h.2.1, h.2.2.1, h.2.2.2.1, h.2.2.2.2.2.1⟩
theorem recv_ok {p : Program} {s : State} {m : MethodId} {args : Array Value} {meth : Method} {c : Code} {H : Heap} {locs : List Loc} {a0 c0 : Nat} {fs : List AV} {C : String} {T : u_T} {N : Nat} (hat : At0 M X p s m args meth c) (hI : Inv X s h H locs) (hc : vwCl[ci]? = some (C, T, N)) (hcell : h.1 a0 = some (.inr (c0, fs))) (htg : tgo c0 ci = true) :
    ∃ cell : Cell, H[a0]? = some cell ∧ cell.vm.isStatics = false ∧ s.vm.findClass C = some cell.cls := by
  obtain ⟨ws, hP, hD, hz, hN, hr⟩ := hI.1
  rcases tgo_cases htg with ⟨rfl, h9⟩ | ⟨rfl, rfl⟩
  · rcases hr a0 _ hcell with ⟨-, i, hi⟩ | ⟨h10, -⟩
    · exact va_recv hat.2.2.2.2.2.2.1.1 hP hc hi
    · omega
  · rcases hr a0 _ hcell with ⟨h9, -⟩ | ⟨-, q, -, h1, -⟩
    · omega
    · have hc' : (RJ0, TJ0, 4) = (C, T, N) := Option.some.inj hc
      cases hc'
      obtain ⟨cell, g1, g2, g3, -⟩ := h1.kept hI.S.2.1
      exact ⟨cell, g1, g2, g3⟩
theorem st_as (as st : List AV) (r : Option Nat) : (as.reverse ++ .inr (.inr r) :: st).map tV = (as.map tV).reverse ++ va_rf r :: st.map tV := by
  rw [List.map_append, List.map_reverse]
  rfl
theorem st_as0 (as st : List AV) : (as.reverse ++ st).map tV = (as.map tV).reverse ++ st.map tV := by
  rw [List.map_append, List.map_reverse]
/-- a method of the receiver's own kind -/
theorem q_cv {n : Nat} (T : u_T) (N : Nat) (so : SO X M' (.inr (.inr r) :: as) h o') (hx : tbB M.2.1 (pc, .invokevirtual idx, len, v, tgt) = true) (hdp : dpB M M' = true) (hc : vwCl[ci]? = some (M'.1.cls, T, N)) (hce : Ce M' n) (hin : Cond.instanceMethod M'.1 ∈ goodTbl) (hse : Cond.selects M'.1.cls M'.1 M'.1 ∈ goodTbl)
    (hln : Cond.methodLink M.1.cls idx M'.1 ∈ goodTbl) (hn : as.length = n) (hs : (st.map catA).sum ≤ 8) (g : ∀ h' r', Gd X M h0 (k h' r') h' (pc + 3) L (r'.toList ++ st)) : Gd X M h0 (ck h r ci (cc o' k)) h pc L (as.reverse ++ .inr (.inr r) :: st) := by
  have hd := tb_len hx rfl
  obtain ⟨d1, d2⟩ := dp_ok hdp
  unfold ck
  split
  · next z e =>
    obtain ⟨a0, c0, fs⟩ := z
    obtain ⟨rfl, hcell, htg⟩ := ob_some e
    refine q_call so g (fun {p l e R s m args below meth c H locs cells slots ls h' r'} hat hI hl hf hlo hM hroom => ?_)
    rw [st_as]
    refine va_runV (b := a0) (As := as.map tV) (C := M'.1.cls) hat.fix hM (cwV n hat.2.2.2.2.2.1 ?_ rfl rfl rfl ⟨rfl, hce.2.2⟩ ⟨Nat.le_trans d1 hf, Nat.le_trans d2 hlo⟩) ⟨PcM.blind, recv_ok hat hI hc hcell htg, PcM.at hat.2.2.2.2.2.2.1 hat.2.2.2.2.2.2.2 hI⟩ rfl (by rw [List.length_map]; exact hn) hl.1 rfl (lv_room (by rw [cat_sum]; exact hs)) hd hroom
    refine good_in (fun w hw => ?_)
    unfold wsV at hw
    rcases List.mem_append.mp hw with hw | hw
    · simp only [List.mem_cons, List.not_mem_nil, or_false] at hw
      rcases hw with rfl | rfl | rfl | rfl
      · exact hln
      · exact hin
      · exact hse
      · exact hce.1
    · exact hce.ws w hw
  · exact gd_none
/-- a method that the receiver's class has from above -/
theorem q_cu {n : Nat} (C : String) (T : u_T) (N : Nat) (so : SO X M' (.inr (.inr r) :: as) h o') (hx : tbB M.2.1 (pc, .invokevirtual idx, len, v, tgt) = true) (hdp : dpB M M' = true) (hc : vwCl[ci]? = some (C, T, N)) (hce : Ce M' n) (hin : Cond.instanceMethod M'.1 ∈ goodTbl) (hse : Cond.selects C M'.1 M'.1 ∈ goodTbl) (hsm : Cond.sameMethod M'.1.cls M'.1.cls M'.1.name M'.1.desc ∈ goodTbl)
    (hln : Cond.methodLink M.1.cls idx M'.1 ∈ goodTbl) (hn : as.length = n) (hs : (st.map catA).sum ≤ 8) (g : ∀ h' r', Gd X M h0 (k h' r') h' (pc + 3) L (r'.toList ++ st)) : Gd X M h0 (ck h r ci (cc o' k)) h pc L (as.reverse ++ .inr (.inr r) :: st) := by
  have hd := tb_len hx rfl
  obtain ⟨d1, d2⟩ := dp_ok hdp
  unfold ck
  split
  · next z e =>
    obtain ⟨a0, c0, fs⟩ := z
    obtain ⟨rfl, hcell, htg⟩ := ob_some e
    refine q_call so g (fun {p l e R s m args below meth c H locs cells slots ls h' r'} hat hI hl hf hlo hM hroom => ?_)
    rw [st_as]
    refine va_runU (b := a0) (As := as.map tV) (C := C) hat.fix hM (va_cwU (owner := M'.1.cls) (x := M'.1) n hat.2.2.2.2.2.1 ?_ rfl rfl rfl rfl hce.2.2 ⟨Nat.le_trans d1 hf, Nat.le_trans d2 hlo⟩) ⟨PcM.blind, recv_ok hat hI hc hcell htg, PcM.at hat.2.2.2.2.2.2.1 hat.2.2.2.2.2.2.2 hI⟩ rfl (by rw [List.length_map]; exact hn) hl.1 rfl (lv_room (by rw [cat_sum]; exact hs)) hd hroom
    refine good_in (fun w hw => ?_)
    unfold va_wsU at hw
    rcases List.mem_append.mp hw with hw | hw
    · simp only [List.mem_cons, List.not_mem_nil, or_false] at hw
      rcases hw with rfl | rfl | rfl | rfl | rfl
      · exact hln
      · exact hsm
      · exact hse
      · exact hin
      · exact hce.1
    · exact hce.ws w hw
  · exact gd_none
/-- super.m(..) -/
theorem q_csu {n : Nat} (C : String) (T : u_T) (N : Nat) (so : SO X M' (.inr (.inr r) :: as) h o') (hx : tbB M.2.1 (pc, .invokespecial idx, len, v, tgt) = true) (hdp : dpB M M' = true) (hc : vwCl[ci]? = some (C, T, N)) (hce : Ce M' n) (hin : Cond.instanceMethod M'.1 ∈ goodTbl) (hsc : Cond.superclass M.1.cls M'.1.cls ∈ goodTbl) (hsm : Cond.sameMethod M'.1.cls M'.1.cls M'.1.name M'.1.desc ∈ goodTbl) (hni : M'.1.name ≠ "<init>")
    (hln : Cond.methodLink M.1.cls idx M'.1 ∈ goodTbl) (hn : as.length = n) (hs : (st.map catA).sum ≤ 8) (g : ∀ h' r', Gd X M h0 (k h' r') h' (pc + 3) L (r'.toList ++ st)) : Gd X M h0 (ck h r ci (cc o' k)) h pc L (as.reverse ++ .inr (.inr r) :: st) := by
  have hd := tb_len hx rfl
  obtain ⟨d1, d2⟩ := dp_ok hdp
  unfold ck
  split
  · next z e =>
    obtain ⟨a0, c0, fs⟩ := z
    obtain ⟨rfl, hcell, htg⟩ := ob_some e
    refine q_call so g (fun {p l e R s m args below meth c H locs cells slots ls h' r'} hat hI hl hf hlo hM hroom => ?_)
    rw [st_as]
    refine va_runSU (b := a0) (As := as.map tV) (C := C) (hat.2.2.2.2.2.2.1.1.1 ci _ hc).2 hat.fix hM (va_cwSU n hat.2.2.2.2.2.1 ?_ rfl rfl rfl ⟨hni, hce.2.2.2.2⟩ ⟨Nat.le_trans d1 hf, Nat.le_trans d2 hlo⟩) ⟨PcM.blind, recv_ok hat hI hc hcell htg, PcM.at hat.2.2.2.2.2.2.1 hat.2.2.2.2.2.2.2 hI⟩ rfl (by rw [List.length_map]; exact hn) hl.1 rfl (lv_room (by rw [cat_sum]; exact hs)) hd hroom
    refine good_in (fun w hw => ?_)
    unfold va_wsSU at hw
    rcases List.mem_append.mp hw with hw | hw
    · simp only [List.mem_cons, List.not_mem_nil, or_false] at hw
      rcases hw with rfl | rfl | rfl | rfl | rfl
      · exact hln
      · exact hsm
      · exact hsc
      · exact hin
      · exact hce.1
    · exact hce.ws w hw
  · exact gd_none
/-- a static method -/
theorem q_cs {n : Nat} (so : SO X M' as h o') (hx : tbB M.2.1 (pc, .invokestatic idx, len, v, tgt) = true) (hdp : dpB M M' = true) (hce : Ce M' n) (hst : Cond.static M'.1 ∈ goodTbl)
    (hln : Cond.methodLink M.1.cls idx M'.1 ∈ goodTbl) (hn : as.length = n) (hs : (st.map catA).sum ≤ 8) (g : ∀ h' r', Gd X M h0 (k h' r') h' (pc + 3) L (r'.toList ++ st)) : Gd X M h0 (cc o' k) h pc L (as.reverse ++ st) := by
  have hd := tb_len hx rfl
  obtain ⟨d1, d2⟩ := dp_ok hdp
  refine q_call so g (fun {p l e R s m args below meth c H locs cells slots ls h' r'} hat hI hl hf hlo hM hroom => ?_)
  rw [st_as0]
  refine va_runS (As := as.map tV) hat.fix hM (va_cwS n hat.2.2.2.2.2.1 ?_ rfl rfl rfl hce.2.2 ⟨Nat.le_trans d1 hf, Nat.le_trans d2 hlo⟩) ⟨PcM.blind, PcM.at hat.2.2.2.2.2.2.1 hat.2.2.2.2.2.2.2 hI⟩ rfl (by rw [List.length_map]; exact hn) hl.1 rfl (lv_room (by rw [cat_sum]; exact hs)) hd hroom
  refine good_in (fun w hw => ?_)
  unfold va_wsS at hw
  rcases List.mem_append.mp hw with hw | hw
  · simp only [List.mem_cons, List.not_mem_nil, or_false] at hw
    rcases hw with rfl | rfl | rfl
    · exact hln
    · exact hst
    · exact hce.1
  · exact hce.ws w hw
/-- a constructor -/
theorem q_ci {n : Nat} (so : SO X M' (.inr (.inr r) :: as) h o') (hx : tbB M.2.1 (pc, .invokespecial idx, len, v, tgt) = true) (hdp : dpB M M' = true) (hce : Ce M' n) (hin : Cond.instanceMethod M'.1 ∈ goodTbl) (hni : M'.1.name = "<init>") (hrt : M'.2.2.2.1 = none)
    (hln : Cond.methodLink M.1.cls idx M'.1 ∈ goodTbl) (hn : as.length = n) (hs : (st.map catA).sum ≤ 8) (g : ∀ h' r', Gd X M h0 (k h' r') h' (pc + 3) L (r'.toList ++ st)) : Gd X M h0 (dn r (cc o' k)) h pc L (as.reverse ++ .inr (.inr r) :: st) := by
  have hd := tb_len hx rfl
  obtain ⟨d1, d2⟩ := dp_ok hdp
  cases r with
  | none => exact gd_none
  | some a0 =>
    refine q_call so g (fun {p l e R s m args below meth c H locs cells slots ls h' r'} hat hI hl hf hlo hM hroom => ?_)
    have hts := hat.2.2.2.2.2.1
    rw [st_as]
    have hw0 : wsM M' = Cond.code M'.1 M'.2.1 M'.2.2.1 none :: goodTbl := by unfold wsM; rw [hrt]
    exact va_runI (b := a0) (As := as.map tV) hat.fix hM (cwI n hts (good_in hce.ws) hw0 rfl rfl (hts _ hce.1) (hts _ hln) (hts _ hin) hni hce.2.2 ⟨Nat.le_trans d1 hf, Nat.le_trans d2 hlo⟩) ⟨PcM.blind, PcM.at hat.2.2.2.2.2.2.1 hat.2.2.2.2.2.2.2 hI⟩ rfl (by rw [List.length_map]; exact hn) hl.1 rfl (lv_room (by rw [cat_sum]; exact hs)) hd hroom
theorem q_cin {n : Nat} (host : String) (so : SO X M' (.inr (.inr r) :: as) h o') (hx : tbB M.2.1 (pc, .invokespecial idx, len, v, tgt) = true) (hdp : dpB M M' = true) (hce : Ce M' n) (hin : Cond.instanceMethod M'.1 ∈ goodTbl) (hni : M'.1.name = "<init>") (hrt : M'.2.2.2.1 = none)
    (hln : ∀ s, Env X s → va_Nw (.methodLinkNest M.1.cls idx M'.1 host) s) (hn : as.length = n) (hs : (st.map catA).sum ≤ 8) (g : ∀ h' r', Gd X M h0 (k h' r') h' (pc + 3) L (r'.toList ++ st)) : Gd X M h0 (dn r (cc o' k)) h pc L (as.reverse ++ .inr (.inr r) :: st) := by
  have hd := tb_len hx rfl
  obtain ⟨d1, d2⟩ := dp_ok hdp
  cases r with
  | none => exact gd_none
  | some a0 =>
    refine q_call so g (fun {p l e R s m args below meth c H locs cells slots ls h' r'} hat hI hl hf hlo hM hroom => ?_)
    have hts := hat.2.2.2.2.2.1
    rw [st_as]
    have hw0 : wsM M' = Cond.code M'.1 M'.2.1 M'.2.2.1 none :: goodTbl := by unfold wsM; rw [hrt]
    exact va_runIN (b := a0) (As := as.map tV) hat.fix hM ⟨va_cnB n hts (good_in hce.ws) hw0 rfl rfl (hln s hat.2.2.2.2.2.2.1) (hts _ hce.1) hce.2.2 ⟨Nat.le_trans d1 hf, Nat.le_trans d2 hlo⟩, hni, hts _ hin⟩ ⟨PcM.blind, PcM.at hat.2.2.2.2.2.2.1 hat.2.2.2.2.2.2.2 hI⟩ rfl (by rw [List.length_map]; exact hn) hl.1 rfl (lv_room (by rw [cat_sum]; exact hs)) hd hroom
end CALL
end
section
/-! COPIES OF BYTE ARRAYS -/
def okB (n : Nat) (g : Nat → Int32) : Bool := (List.range n).all (fun j => byI (g j) == g j)
theorem okB_fit {n : Nat} {g : Nat → Int32} (h : okB n g = true) {j : Nat} (hj : j < n) : fits .byte (.int (g j)) = true := by
  unfold okB at h
  rw [List.all_eq_true] at h
  have e : byI (g j) = g j := by simpa using h j (List.mem_range.mpr hj)
  rw [← e]
  exact pk_fb (g j)
def cpC (n0 n1 : Nat) (g : Nat → Int32) (sp dp n : Int32) : Bool := (!(decide (sp < 0)) && (!(decide (dp < 0)) && !(decide (n < 0)))) && ((Nat.ble (sp.toNatClampNeg + n.toNatClampNeg) n0 && Nat.ble (dp.toNatClampNeg + n.toNatClampNeg) n1) && okB n0 g)
def cpyB (h : Hp) (rs : Option Nat) (sp : Int32) (rd : Option Nat) (dp n : Int32) (f : Hp → Rs) : Rs := match ar h rs, ar h rd with
  | some (_, k0, (n0, .inl g0)), some (b, k1, (n1, .inl g1)) => if (k0 == 1 && k1 == 1) && cpC n0 n1 g0 sp dp n then f (upH h b (.inl (1, n1, .inl (va_cpy g0 g1 sp.toNatClampNeg dp.toNatClampNeg n.toNatClampNeg)))) else none
  | _, _ => none
def clnB (h : Hp) (r : Option Nat) (f : Hp → Option Nat → Rs) : Rs := match ar h r with
  | some (_, k, (n, .inl g)) => if k == 1 && okB n g then f (pushH h (.inl (1, n, .inl g)) n) (some h.2.1) else none
  | _ => none
def ckB (h : Hp) (r : Option Nat) (o : Rs) : Rs := match ar h r with
  | some (_, k, _) => if k == 1 then o else none
  | none => none
section COPY
variable {X : Cx} {M : MI} {h0 h : Hp} {o : Rs} {L : List (Option AV)} {st : List AV} {pc len tgt idx : Nat} {v sp dp n : Int32} {rs rd : Option Nat} {fh : Hp → Rs} {f : Hp → Option Nat → Rs}
theorem nn_toInt {z : Int32} (hz : ¬ z < 0) : z.toInt = (z.toNatClampNeg : Int) := by
  have hz0 : (0 : Int) ≤ z.toInt := by
    have := Int32.not_lt.mp hz
    simpa using Int32.le_iff_toInt_le.mp this
  show z.toInt = ((z.toInt.toNat : Nat) : Int)
  omega
theorem q_cpy (hx : tbB M.2.1 (pc, .invokestatic idx, len, v, tgt) = true) (hd0 : 1 ≤ M.2.2.2.2) (hs : (st.map catA).sum ≤ 8) (hw : Cond.methodLink M.1.cls idx arraycopyName ∈ goodTbl ∧ Cond.native arraycopyName ∈ goodTbl ∧ Cond.static arraycopyName ∈ goodTbl ∧ Cond.initialized "java/lang/System" ∈ goodTbl)
    (g : ∀ h1, Gd X M h0 (fh h1) h1 (pc + 3) L st) : Gd X M h0 (cpyB h rs sp rd dp n fh) h pc L (.inl n :: .inl dp :: .inr (.inr rd) :: .inl sp :: .inr (.inr rs) :: st) := by
  have hd := tb_len hx rfl
  unfold cpyB
  split
  · next a0 k0 n0 g0 b k1 n1 g1 e0 e1 =>
    split
    · next hc =>
      rw [Bool.and_eq_true, Bool.and_eq_true] at hc
      obtain ⟨⟨hk0, hk1⟩, hc⟩ := hc
      have hk0 : k0 = 1 := by simpa using hk0
      have hk1 : k1 = 1 := by simpa using hk1
      subst hk0
      subst hk1
      obtain ⟨rfl, hcell0⟩ := ar_some e0
      obtain ⟨rfl, hcell1⟩ := ar_some e1
      unfold cpC at hc
      rw [Bool.and_eq_true, Bool.and_eq_true, Bool.and_eq_true, Bool.and_eq_true, Bool.and_eq_true] at hc
      obtain ⟨⟨s1, s2, s3⟩, ⟨s4, s5⟩, s6⟩ := hc
      have c1 : ¬ sp < 0 := by simpa using s1
      have c2 : ¬ dp < 0 := by simpa using s2
      have c3 : ¬ n < 0 := by simpa using s3
      have c4 : sp.toNatClampNeg + n.toNatClampNeg ≤ n0 := Nat.le_of_ble_eq_true s4
      have c5 : dp.toNatClampNeg + n.toNatClampNeg ≤ n1 := Nat.le_of_ble_eq_true s5
      intro hf res ho
      obtain ⟨hle, g⟩ := g _ hf res ho
      refine ⟨hle, fun h0h l p e R s m args below meth c Q hat hrm hret H locs ls hI hl => ?_⟩
      have hts := hat.2.2.2.2.2.1
      have hK : va_K X.1 vwCl (tysX X) s := hat.2.2.2.2.2.2.1.1
      obtain ⟨ws, hP, hD, hz, hN, hr⟩ := hI.1
      have r0 : ∃ i : Nat, ws[i]? = some (a0, .inl (X.2.1 1, n0, .inl g0)) := by
        rcases hr a0 _ hcell0 with ⟨-, h⟩ | ⟨h, -⟩ | ⟨h, -⟩
        · exact h
        · omega
        · omega
      have r1 : ∃ i : Nat, ws[i]? = some (b, .inl (X.2.1 1, n1, .inl g1)) := by
        rcases hr b _ hcell1 with ⟨-, h⟩ | ⟨h, -⟩ | ⟨h, -⟩
        · exact h
        · omega
        · omega
      obtain ⟨i0, ha0⟩ := r0
      obtain ⟨i1, ha1⟩ := r1
      have hc0 : H[a0]? = some (vp_cell (X.2.1 1) (n0, .inl g0)) := hP i0 _ ha0
      have hc1 : H[b]? = some (vp_cell (X.2.1 1) (n1, .inl g1)) := hP i1 _ ha1
      obtain ⟨-, kk0, hkk0, cm0, hkind0⟩ := (hK.2 1 _ rfl).1 n0 (fun j => .int (g0 j))
      intro T hT Xs
      have hT0 : T.heap[a0]? = some (vp_cell (X.2.1 1) (n0, .inl g0)) := by rw [hT]; exact hc0
      have hT1 : T.heap[b]? = some (vp_cell (X.2.1 1) (n1, .inl g1)) := by rw [hT]; exact hc1
      obtain ⟨vm', X', step⟩ := Xs.arraycopy hat.1 hat.2.2.2.1 (hts _ hw.1) (hts _ hw.2.1) (hts _ hw.2.2.1) (hts _ hw.2.2.2) (src := a0) (dst := b) (cs := vp_cell (X.2.1 1) (n0, .inl g0)) (cd := vp_cell (X.2.1 1) (n1, .inl g1)) (srcPos := sp) (destPos := dp) (n := n) hT0 hT1
        (fun _ h => by cases h) (fun _ h => by cases h) (fun h => by cases h) (fun h => by cases h) hkk0 hkk0 hkind0 hkind0 (by simp [refKind]) c1 c2 c3
        (by rw [nn_toInt c1, nn_toInt c3]; show ¬ _ > ((arrV _ n0 (fun j => .int (g0 j))).slots.size : Int); rw [arrV_size]; omega)
        (by rw [nn_toInt c2, nn_toInt c3]; show ¬ _ > ((arrV _ n1 (fun j => .int (g1 j))).slots.size : Int); rw [arrV_size]; omega)
        (fun vm₁ _ i hi => by
          have e : (vp_cell (X.2.1 1) (n0, .inl g0)).slots.getD (sp.toNatClampNeg + i) .null = .int (g0 (sp.toNatClampNeg + i)) := by
            show (arrV _ n0 (fun j => .int (g0 j))).slots.getD _ _ = _
            rw [Array.getD_eq_getD_getElem?, arrV_read _ _ (by omega)]
            rfl
          rw [e]
          exact ⟨okB_fit s6 (by omega), trivial⟩)
        (g := F0 m pc ls (.int n :: .int dp :: .ref b :: .int sp :: .ref a0 :: st.map tV)) rfl (by show ls.size = _; rw [hl.1, hat.2.2.1]) (rest := st.map tV) rfl (by rw [hat.2.1]; exact hd) (Nat.le_trans hd0 hrm.1)
        (by have h2 := hrm.2.1; show 2 * 0 + ((st.map tV).map fun v => v.category).sum + (nativeFrameWords "java/lang/System" "arraycopy" 5 + 11) ≤ _; rw [cat_sum]; have h3 : nativeFrameWords "java/lang/System" "arraycopy" 5 ≤ 20 := by decide +kernel
            omega)
      have e1 : copied (vp_cell (X.2.1 1) (n0, .inl g0)) (vp_cell (X.2.1 1) (n1, .inl g1)) sp dp n = vp_cell (X.2.1 1) (n1, .inl (va_cpy g0 g1 sp.toNatClampNeg dp.toNatClampNeg n.toNatClampNeg)) := va_copied (fun z => .int z) (X.2.1 1) (X.2.1 1) g0 g1 c4
      rw [e1] at X' step
      have hlb : b < H.size := (Array.getElem?_eq_some_iff.mp hc1).1
      generalize hH1 : H.setIfInBounds b (vp_cell (X.2.1 1) (n1, .inl (va_cpy g0 g1 sp.toNatClampNeg dp.toNatClampNeg n.toNatClampNeg))) = H1
      have hheap : ((T.setVm vm').setCell b (vp_cell (X.2.1 1) (n1, .inl (va_cpy g0 g1 sp.toNatClampNeg dp.toNatClampNeg n.toNatClampNeg)))).heap = H1 := by rw [← hH1, ← hT]; rfl
      have oq : ∀ q : Nat, q ≠ b → H1[q]? = H[q]? := fun q hq => by rw [← hH1]; simp [Array.getElem?_setIfInBounds, Ne.symm hq]
      have z1 : H1.size = H.size := by rw [← hH1]; simp
      have hcellN : H1[b]? = some (vp_cell (X.2.1 1) (n1, .inl (va_cpy g0 g1 sp.toNatClampNeg dp.toNatClampNeg n.toNatClampNeg))) := by rw [← hH1]; simp [Array.getElem?_setIfInBounds, hlb]
      have hAX : AX X b := hD.2 i1 _ ha1
      have hrep := RepH.put hP hD hz hN hr ha1 (e := .inl (1, n1, .inl (va_cpy g0 g1 sp.toNatClampNeg dp.toNatClampNeg n.toNatClampNeg))) (e1 := .inl (X.2.1 1, n1, .inl (va_cpy g0 g1 sp.toNatClampNeg dp.toNatClampNeg n.toNatClampNeg))) hcellN z1 oq (fun ws' h' => Or.inl ⟨by decide, i1, h'⟩)
      have hI0 : Inv X s (upH h b (.inl (1, n1, .inl (va_cpy g0 g1 sp.toNatClampNeg dp.toNatClampNeg n.toNatClampNeg)))) H1 (locs ++ [⟨b, 0⟩]) := hI.put hrep z1 oq hAX
      obtain ⟨t, a1, b1⟩ := g h0h l p e R s m args below meth c Q hat hrm hret H1 _ ls ⟨hI0.1, hI0.2.1, hI0.2.2.1, fun q hq => by
        rcases List.mem_append.mp hq with h | h
        · exact hI.2.2.2 q h
        · obtain ⟨z, -, hz'⟩ := List.mem_map.mp h
          rw [← hz']
          exact hAX⟩ hl _ hheap X'
      exact ⟨t, step t a1, b1⟩
    · exact gd_none
  · exact gd_none
theorem q_cln (hx : tbB M.2.1 (pc, .invokevirtual idx, len, v, tgt) = true) (hd0 : 1 ≤ M.2.2.2.2) (hs : (st.map catA).sum ≤ 8) (hw : Cond.methodLink M.1.cls idx ⟨"[B", "clone", "()Ljava/lang/Object;"⟩ ∈ goodTbl ∧ Cond.sameMethod "[B" "java/lang/Object" "clone" "()Ljava/lang/Object;" ∈ goodTbl ∧ Cond.native ⟨"java/lang/Object", "clone", "()Ljava/lang/Object;"⟩ ∈ goodTbl ∧ Cond.instanceMethod ⟨"java/lang/Object", "clone", "()Ljava/lang/Object;"⟩ ∈ goodTbl ∧ Cond.selects "[B" ⟨"[B", "clone", "()Ljava/lang/Object;"⟩ ⟨"java/lang/Object", "clone", "()Ljava/lang/Object;"⟩ ∈ goodTbl)
    (g : ∀ h1 q, Gd X M h0 (f h1 q) h1 (pc + 3) L (.inr (.inr q) :: st)) : Gd X M h0 (clnB h rs f) h pc L (.inr (.inr rs) :: st) := by
  have hd := tb_len hx rfl
  unfold clnB
  split
  · next a0 k0 n0 g0 e0 =>
    split
    · next hc =>
      rw [Bool.and_eq_true] at hc
      obtain ⟨hk0, hok⟩ := hc
      have hk0 : k0 = 1 := by simpa using hk0
      subst hk0
      obtain ⟨rfl, hcell0⟩ := ar_some e0
      intro hf res ho
      obtain ⟨hle, g⟩ := g _ _ hf res ho
      have l1 : h.2.1 + 1 ≤ hf.2.1 := hle.1
      have l2 : h.2.2 + n0 ≤ hf.2.2 := hle.2
      refine ⟨⟨by omega, by omega⟩, fun h0h l p e R s m args below meth c Q hat hrm hret H locs ls hI hl => ?_⟩
      have l3 : h0.2.1 ≤ h.2.1 := h0h.1
      have l4 : h0.2.2 ≤ h.2.2 := h0h.2
      have hts := hat.2.2.2.2.2.1
      have hK : va_K X.1 vwCl (tysX X) s := hat.2.2.2.2.2.2.1.1
      have hcst : va_Nw (.castable "[B" "java/lang/Cloneable") s := hat.2.2.2.2.2.2.1.2.2.2.2.2.2
      have hIc := hI
      obtain ⟨ws, hP, hD, hz, hN, hr⟩ := hI.1
      have r0 : ∃ i : Nat, ws[i]? = some (a0, .inl (X.2.1 1, n0, .inl g0)) := by
        rcases hr a0 _ hcell0 with ⟨-, h⟩ | ⟨h, -⟩ | ⟨h, -⟩
        · exact h
        · omega
        · omega
      obtain ⟨i0, ha0⟩ := r0
      have hnm : s.vm.findClass "[B" = some (X.2.1 1) := (hK.2 1 _ rfl).2
      obtain ⟨c0, t0', f1, f2, f3⟩ := Cond.castable_spec (va_Nw.use (A := args) rfl hcst)
      cases hnm.symm.trans f1
      have hcellH : H[a0]? = some (vp_cell (X.2.1 1) (n0, .inl g0)) := hP i0 _ ha0
      have hsz : (vp_cell (X.2.1 1) (n0, .inl g0)).slots.size = n0 := arrV_size _ _ _
      obtain ⟨-, kS, hkS, compS, hkindS⟩ := (hK.2 1 _ rfl).1 0 (fun _ => .null)
      intro T hT Xs
      have hcellT : T.heap[a0]? = some (vp_cell (X.2.1 1) (n0, .inl g0)) := by rw [hT]; exact hcellH
      obtain ⟨-, kA, hkA, comp, hkind⟩ := State.isArrayOf_alike Xs.warmed.alike ((hK.2 1 _ rfl).1 0 (fun _ => .null))
      obtain ⟨vm', X', step⟩ := Xs.cloneArray hat.1 hat.2.2.2.1 (hts _ hw.1) (hts _ hw.2.1) (hts _ hw.2.2.1) (hts _ hw.2.2.2.1) (hts _ hw.2.2.2.2) (a := a0) (cell := vp_cell (X.2.1 1) (n0, .inl g0)) hcellT (fun k h => by cases h) (fun h => by cases h) hnm f2 f3
        (fun i v hv => by
          have hk' : T.vm.classes[X.2.1 1]? = some kA := hkA
          have hvi : ∃ j : Nat, j < n0 ∧ v = .int (g0 j) := by
            have hi : i < n0 := by
              have := (Array.getElem?_eq_some_iff.mp hv).1
              rw [hsz] at this
              exact this
            have hv2 : (arrV (X.2.1 1) n0 (fun j => .int (g0 j))).slots[i]? = some v := hv
            rw [arrV_read _ _ hi] at hv2
            exact ⟨i, hi, (Option.some.inj hv2).symm⟩
          obtain ⟨j, hj, rfl⟩ := hvi
          have hfit := okB_fit hok hj
          show T.fitsSlot (X.2.1 1) .none i (.int (g0 j)) = true
          simpa [State.fitsSlot, State.slotType?, hk', hkind] using hfit)
        (g := F0 m pc ls (.ref a0 :: st.map tV)) rfl (by show ls.size = _; rw [hl.1, hat.2.2.1]) rfl (by rw [hat.2.1]; exact hd) (Nat.le_trans hd0 hrm.1) (by have h2 := hrm.2.1; show 2 * 0 + ((st.map tV).map fun v => v.category).sum + 14 ≤ _; rw [cat_sum]; omega)
        (show (h.2.1 - h0.2.1) + 1 ≤ R.cells by have h3 := hrm.2.2.1; omega) (by rw [hsz]; have h3 := hrm.2.2.2; show (h.2.2 - h0.2.2) + n0 ≤ R.slots; omega) (hloader := Vm.clonesLoader_of_array hkS hkindS)
      have hcellE : ({ cls := (vp_cell (X.2.1 1) (n0, .inl g0)).cls, slots := (vp_cell (X.2.1 1) (n0, .inl g0)).slots } : Cell) = vp_cell (X.2.1 1) (n0, .inl g0) := rfl
      rw [hcellE, hsz] at X'
      generalize hH1 : H.push (vp_cell (X.2.1 1) (n0, .inl g0)) = H1
      have z1 : H1.size = H.size + 1 := by rw [← hH1, Array.size_push]
      have e1 : H1[H.size]? = some (vp_cell (X.2.1 1) (n0, .inl g0)) := by rw [← hH1, Array.getElem?_push_size]
      have o1 : ∀ q : Nat, q < H.size → H1[q]? = H[q]? := fun q hq => by rw [← hH1, Array.getElem?_push, if_neg (Nat.ne_of_lt hq)]
      have hI1 : Inv X s (pushH h (.inl (1, n0, .inl g0)) n0) H1 locs := hIc.push (RepH.push hIc.1 (e1 := .inl (X.2.1 1, n0, .inl g0)) (e := .inl (1, n0, .inl g0)) e1 z1 o1 (fun ws' i h' => Or.inl ⟨by decide, i, h'⟩)) z1 o1
      have g2 := g ⟨by show h0.2.1 ≤ h.2.1 + 1; omega, by show h0.2.2 ≤ h.2.2 + n0; omega⟩ l p e R s m args below meth c Q hat hrm hret H1 locs ls hI1 hl
      have k1 : (pushH h (.inl (1, n0, .inl g0)) n0).2.1 - h0.2.1 = h.2.1 - h0.2.1 + 1 := by show h.2.1 + 1 - h0.2.1 = _; omega
      have k2 : (pushH h (.inl (1, n0, .inl g0)) n0).2.2 - h0.2.2 = h.2.2 - h0.2.2 + n0 := by show h.2.2 + n0 - h0.2.2 = _; omega
      rw [k1, k2] at g2
      obtain ⟨t, b1, b2⟩ := g2 ((T.setVm vm').pushCell (vp_cell (X.2.1 1) (n0, .inl g0))) (by rw [← hH1, ← hT]; rfl) X'
      refine ⟨t, step t ?_, b2⟩
      rw [hcellE, hT, hz]
      exact b1
    · exact gd_none
  · exact gd_none
theorem q_ckB (hx : tbB M.2.1 (pc, .checkcast idx, len, v, tgt) = true) (hw : Cond.classLink M.1.cls idx "[B" ∈ goodTbl) (g : Gd X M h0 o h (pc + 3) L (.inr (.inr rs) :: st)) : Gd X M h0 (ckB h rs o) h pc L (.inr (.inr rs) :: st) := by
  have hd := tb_len hx rfl
  unfold ckB
  split
  · next a0 k0 x0 e0 =>
    split
    · next hc =>
      have hk0 : k0 = 1 := by simpa using hc
      subst hk0
      obtain ⟨rfl, hcell0⟩ := ar_some e0
      refine q_w g (fun {p l e R s m args below meth c H locs cells slots Q ls} hat hI _ hl kk => ?_)
      have kk := kk ls hl
      have hK : va_K X.1 vwCl (tysX X) s := hat.2.2.2.2.2.2.1.1
      obtain ⟨ws, hP, hD, hz, hN, hr⟩ := hI.1
      rcases hr a0 _ hcell0 with ⟨-, i0, ha0⟩ | ⟨h, -⟩ | ⟨h, -⟩
      · exact va_castA hat.1 hat.2.1 hat.2.2.2.1 (hat.2.2.2.2.2.1 _ hw) hP i0 ha0 (hK.2 1 _ rfl).2 hd kk
      · omega
      · omega
    · exact gd_none
  · exact gd_none
end COPY
end
