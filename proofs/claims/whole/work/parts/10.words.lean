/-! words of the tables, by their places -/
theorem gwt1 {w : Cond} (i : Nat) (h : tables_1_1[i]? = some w) (hg : goodWord w = true) : w ∈ goodTbl := List.mem_append_right _ (List.mem_filter.mpr ⟨List.mem_append_right _ (show w ∈ tables_1_1 ++ (tables_1_2 ++ (tables_1_3 ++ (tables_1_4 ++ (tables_1_5 ++ tables_1_6)))) from List.mem_append_left _ (List.mem_of_getElem? h)), hg⟩)
theorem gwt2 {w : Cond} (i : Nat) (h : tables_1_2[i]? = some w) (hg : goodWord w = true) : w ∈ goodTbl := List.mem_append_right _ (List.mem_filter.mpr ⟨List.mem_append_right _ (show w ∈ tables_1_1 ++ (tables_1_2 ++ (tables_1_3 ++ (tables_1_4 ++ (tables_1_5 ++ tables_1_6)))) from List.mem_append_right _ (List.mem_append_left _ (List.mem_of_getElem? h))), hg⟩)
theorem gwt3 {w : Cond} (i : Nat) (h : tables_1_3[i]? = some w) (hg : goodWord w = true) : w ∈ goodTbl := List.mem_append_right _ (List.mem_filter.mpr ⟨List.mem_append_right _ (show w ∈ tables_1_1 ++ (tables_1_2 ++ (tables_1_3 ++ (tables_1_4 ++ (tables_1_5 ++ tables_1_6)))) from List.mem_append_right _ (List.mem_append_right _ (List.mem_append_left _ (List.mem_of_getElem? h)))), hg⟩)
theorem gwt4 {w : Cond} (i : Nat) (h : tables_1_4[i]? = some w) (hg : goodWord w = true) : w ∈ goodTbl := List.mem_append_right _ (List.mem_filter.mpr ⟨List.mem_append_right _ (show w ∈ tables_1_1 ++ (tables_1_2 ++ (tables_1_3 ++ (tables_1_4 ++ (tables_1_5 ++ tables_1_6)))) from List.mem_append_right _ (List.mem_append_right _ (List.mem_append_right _ (List.mem_append_left _ (List.mem_of_getElem? h))))), hg⟩)
theorem gwt5 {w : Cond} (i : Nat) (h : tables_1_5[i]? = some w) (hg : goodWord w = true) : w ∈ goodTbl := List.mem_append_right _ (List.mem_filter.mpr ⟨List.mem_append_right _ (show w ∈ tables_1_1 ++ (tables_1_2 ++ (tables_1_3 ++ (tables_1_4 ++ (tables_1_5 ++ tables_1_6)))) from List.mem_append_right _ (List.mem_append_right _ (List.mem_append_right _ (List.mem_append_right _ (List.mem_append_left _ (List.mem_of_getElem? h)))))), hg⟩)
theorem gwt6 {w : Cond} (i : Nat) (h : tables_1_6[i]? = some w) (hg : goodWord w = true) : w ∈ goodTbl := List.mem_append_right _ (List.mem_filter.mpr ⟨List.mem_append_right _ (show w ∈ tables_1_1 ++ (tables_1_2 ++ (tables_1_3 ++ (tables_1_4 ++ (tables_1_5 ++ tables_1_6)))) from List.mem_append_right _ (List.mem_append_right _ (List.mem_append_right _ (List.mem_append_right _ (List.mem_append_right _ (List.mem_of_getElem? h)))))), hg⟩)
set_option maxRecDepth 100000 in
theorem wd_0 : Cond.selects RX0 yX0_dropOldest yX0_dropOldest ∈ goodTbl := gw 0 rfl rfl
set_option maxRecDepth 100000 in
theorem wd_1 : Cond.selects RX5 yX5_faultOfPad yX5_faultOfPad ∈ goodTbl := gw 1 rfl rfl
set_option maxRecDepth 100000 in
theorem wd_2 : Cond.selects RX2 yX2_addEvent yX2_addEvent ∈ goodTbl := gw 2 rfl rfl
set_option maxRecDepth 100000 in
theorem wd_3 : Cond.selects RX5 yX5_layLines yX5_layLines ∈ goodTbl := gw 3 rfl rfl
set_option maxRecDepth 100000 in
theorem wd_4 : Cond.selects RX3 yX3_begin yX3_begin ∈ goodTbl := gw 4 rfl rfl
set_option maxRecDepth 100000 in
theorem wd_5 : Cond.selects RX3 yX3_addText yX3_addText ∈ goodTbl := gw 5 rfl rfl
set_option maxRecDepth 100000 in
theorem wd_6 : Cond.selects RX3 yX3_addSign yX3_addSign ∈ goodTbl := gw 6 rfl rfl
set_option maxRecDepth 100000 in
theorem wd_7 : Cond.selects RX3 yX3_addNumber yX3_addNumber ∈ goodTbl := gw 7 rfl rfl
set_option maxRecDepth 100000 in
theorem wd_8 : Cond.selects RX3 yX3_endLine yX3_endLine ∈ goodTbl := gw 8 rfl rfl
set_option maxRecDepth 100000 in
theorem wd_9 : Cond.selects RX3 yX3_layItem yX3_layItem ∈ goodTbl := gw 9 rfl rfl
set_option maxRecDepth 100000 in
theorem wd_10 : Cond.selects RX3 yX3_layWord yX3_layWord ∈ goodTbl := gw 10 rfl rfl
set_option maxRecDepth 100000 in
theorem wd_11 : Cond.selects RX3 yX3_addMoney yX3_addMoney ∈ goodTbl := gw 11 rfl rfl
set_option maxRecDepth 100000 in
theorem wd_12 : Cond.selects RX3 yX3_layTold yX3_layTold ∈ goodTbl := gw 12 rfl rfl
set_option maxRecDepth 100000 in
theorem wd_13 : Cond.selects RX4 yX4_printLine yX4_printLine ∈ goodTbl := gw 13 rfl rfl
set_option maxRecDepth 100000 in
theorem wd_14 : Cond.selects RX4 yX4_takeReceipt yX4_takeReceipt ∈ goodTbl := gw 14 rfl rfl
set_option maxRecDepth 100000 in
theorem wd_15 : Cond.selects RX4 yX4_waitingAheadOf yX4_waitingAheadOf ∈ goodTbl := gw 15 rfl rfl
set_option maxRecDepth 100000 in
theorem wd_16 : Cond.selects RX4 yX4_finish yX4_finish ∈ goodTbl := gw 16 rfl rfl
set_option maxRecDepth 100000 in
theorem wd_17 : Cond.selects RX6 yX6_lay yX6_lay ∈ goodTbl := gw 17 rfl rfl
set_option maxRecDepth 100000 in
theorem wd_18 : Cond.selects RX6 yX6_records yX6_records ∈ goodTbl := gw 18 rfl rfl
set_option maxRecDepth 100000 in
theorem wd_19 : Cond.selects RX6 yX6_faultAt yX6_faultAt ∈ goodTbl := gw 19 rfl rfl
set_option maxRecDepth 100000 in
theorem wd_20 : Cond.selects RX6 yX6_canStand yX6_canStand ∈ goodTbl := gw 20 rfl rfl
set_option maxRecDepth 100000 in
theorem wd_21 : Cond.selects RX6 yX6_of yX6_of ∈ goodTbl := gw 21 rfl rfl
set_option maxRecDepth 100000 in
theorem wd_22 : Cond.selects RX6 yX6_packsName yX6_packsName ∈ goodTbl := gw 22 rfl rfl
set_option maxRecDepth 100000 in
theorem wd_23 : Cond.selects RX6 yX6_happens yX6_happens ∈ goodTbl := gw 23 rfl rfl
set_option maxRecDepth 100000 in
theorem wd_24 : Cond.selects RX6 yX6_isItem yX6_isItem ∈ goodTbl := gw 24 rfl rfl
set_option maxRecDepth 100000 in
theorem wd_25 : Cond.selects RX6 yX6_isStruck yX6_isStruck ∈ goodTbl := gw 25 rfl rfl
set_option maxRecDepth 100000 in
theorem wd_26 : Cond.selects RX6 yX6_packed yX6_packed ∈ goodTbl := gw 26 rfl rfl
set_option maxRecDepth 100000 in
theorem wd_27 : Cond.selects RX6 yX6_sum yX6_sum ∈ goodTbl := gw 27 rfl rfl
set_option maxRecDepth 100000 in
theorem wd_28 : Cond.selects RX6 yX6_howMany yX6_howMany ∈ goodTbl := gw 28 rfl rfl
set_option maxRecDepth 100000 in
theorem wd_29 : Cond.selects RX6 yX6_price yX6_price ∈ goodTbl := gw 29 rfl rfl
set_option maxRecDepth 100000 in
theorem wd_30 : Cond.selects RX6 yX6_manyHow yX6_manyHow ∈ goodTbl := gw 30 rfl rfl
set_option maxRecDepth 100000 in
theorem wd_31 : Cond.selects RX6 yX6_isHow yX6_isHow ∈ goodTbl := gw 31 rfl rfl
set_option maxRecDepth 100000 in
theorem wd_32 : Cond.selects RX6 yX6_freeRecord yX6_freeRecord ∈ goodTbl := gw 32 rfl rfl
set_option maxRecDepth 100000 in
theorem wd_33 : Cond.selects RX6 yX6_empties yX6_empties ∈ goodTbl := gw 33 rfl rfl
set_option maxRecDepth 100000 in
theorem wd_34 : Cond.selects RX6 yX6_recordOf yX6_recordOf ∈ goodTbl := gw 34 rfl rfl
set_option maxRecDepth 100000 in
theorem wd_35 : Cond.selects RX6 yX6_printedNow yX6_printedNow ∈ goodTbl := gw 35 rfl rfl
set_option maxRecDepth 100000 in
theorem wd_36 : Cond.selects RX6 yX6_widthOf yX6_widthOf ∈ goodTbl := gw 36 rfl rfl
set_option maxRecDepth 100000 in
theorem wd_37 : Cond.selects RX6 yX6_laysAll yX6_laysAll ∈ goodTbl := gw 37 rfl rfl
set_option maxRecDepth 100000 in
theorem wd_38 : Cond.selects RX6 yX6_lays yX6_lays ∈ goodTbl := gw 38 rfl rfl
set_option maxRecDepth 100000 in
theorem wd_39 : Cond.selects RX6 yX6_puts yX6_puts ∈ goodTbl := gw 39 rfl rfl
set_option maxRecDepth 100000 in
theorem wd_40 : Cond.selects RX6 yX6_numberOf yX6_numberOf ∈ goodTbl := gw 40 rfl rfl
set_option maxRecDepth 100000 in
theorem wd_41 : Cond.selects RX6 yX6_number yX6_number ∈ goodTbl := gw 41 rfl rfl
set_option maxRecDepth 100000 in
theorem wd_42 : Cond.selects RX6 yX6_nextLine yX6_nextLine ∈ goodTbl := gw 42 rfl rfl
set_option maxRecDepth 100000 in
theorem wd_43 : Cond.selects RX6 yX6_event yX6_event ∈ goodTbl := gw 43 rfl rfl
set_option maxRecDepth 100000 in
theorem wd_44 : Cond.selects RX6 yX6_layItem yX6_layItem ∈ goodTbl := gw 44 rfl rfl
set_option maxRecDepth 100000 in
theorem wd_45 : Cond.selects RX6 yX6_addsToWord yX6_addsToWord ∈ goodTbl := gw 45 rfl rfl
set_option maxRecDepth 100000 in
theorem wd_46 : Cond.selects RX6 yX6_layWord yX6_layWord ∈ goodTbl := gw 46 rfl rfl
set_option maxRecDepth 100000 in
theorem wd_47 : Cond.selects RX6 yX6_nameLength yX6_nameLength ∈ goodTbl := gw 47 rfl rfl
set_option maxRecDepth 100000 in
theorem wd_48 : Cond.selects RX6 yX6_nameSign yX6_nameSign ∈ goodTbl := gw 48 rfl rfl
set_option maxRecDepth 100000 in
theorem wd_49 : Cond.selects RX6 yX6_money yX6_money ∈ goodTbl := gw 49 rfl rfl
set_option maxRecDepth 100000 in
theorem wd_50 : Cond.selects RX6 yX6_layVoid yX6_layVoid ∈ goodTbl := gw 50 rfl rfl
set_option maxRecDepth 100000 in
theorem wd_51 : Cond.selects RX6 yX6_total yX6_total ∈ goodTbl := gw 51 rfl rfl
set_option maxRecDepth 100000 in
theorem wd_52 : Cond.selects RX6 yX6_hasTax yX6_hasTax ∈ goodTbl := gw 52 rfl rfl
set_option maxRecDepth 100000 in
theorem wd_53 : Cond.selects RX6 yX6_tax yX6_tax ∈ goodTbl := gw 53 rfl rfl
set_option maxRecDepth 100000 in
theorem wd_54 : Cond.selects RX6 yX6_layTax yX6_layTax ∈ goodTbl := gw 54 rfl rfl
set_option maxRecDepth 100000 in
theorem wd_55 : Cond.selects RX6 yX6_taxOf yX6_taxOf ∈ goodTbl := gw 55 rfl rfl
set_option maxRecDepth 100000 in
theorem wd_56 : Cond.selects RX6 yX6_ticks yX6_ticks ∈ goodTbl := gw 56 rfl rfl
set_option maxRecDepth 100000 in
theorem wd_57 : Cond.selects RX6 yX6_printsLine yX6_printsLine ∈ goodTbl := gw 57 rfl rfl
set_option maxRecDepth 100000 in
theorem wd_58 : Cond.selects RX6 yX6_recordAt yX6_recordAt ∈ goodTbl := gw 58 rfl rfl
set_option maxRecDepth 100000 in
theorem wd_59 : Cond.selects RX6 yX6_rank yX6_rank ∈ goodTbl := gw 59 rfl rfl
set_option maxRecDepth 100000 in
theorem wd_60 : Cond.selects RX6 yX6_isAhead yX6_isAhead ∈ goodTbl := gw 60 rfl rfl
set_option maxRecDepth 100000 in
theorem wd_61 : Cond.selects RX6 yX6_linesOf yX6_linesOf ∈ goodTbl := gw 61 rfl rfl
set_option maxRecDepth 100000 in
theorem wd_62 : Cond.selects RX6 yX6_ends yX6_ends ∈ goodTbl := gw 62 rfl rfl
set_option maxRecDepth 100000 in
theorem wd_63 : Cond.selects RX6 yX6_forgets yX6_forgets ∈ goodTbl := gw 63 rfl rfl
set_option maxRecDepth 100000 in
theorem wd_64 : Cond.selects RX6 yX6_linesOfItem yX6_linesOfItem ∈ goodTbl := gw 64 rfl rfl
set_option maxRecDepth 100000 in
theorem wd_65 : Cond.selects RX6 yX6_struckOf yX6_struckOf ∈ goodTbl := gw 65 rfl rfl
set_option maxRecDepth 100000 in
theorem wd_66 : Cond.selects RX6 yX6_signAt yX6_signAt ∈ goodTbl := gw 66 rfl rfl
set_option maxRecDepth 100000 in
theorem wd_67 : Cond.selects RX6 yX6_linesUpTo yX6_linesUpTo ∈ goodTbl := gw 67 rfl rfl
set_option maxRecDepth 100000 in
theorem wd_68 : Cond.selects RX6 yX6_leftOf yX6_leftOf ∈ goodTbl := gw 68 rfl rfl
set_option maxRecDepth 100000 in
theorem wd_69 : Cond.selects RX6 yX6_ticksFor yX6_ticksFor ∈ goodTbl := gw 69 rfl rfl
set_option maxRecDepth 100000 in
theorem wd_70 : Cond.selects RX6 yX6_allLeft yX6_allLeft ∈ goodTbl := gw 70 rfl rfl
set_option maxRecDepth 100000 in
theorem wd_72 : Cond.initialized RX5 ∈ goodTbl := gwt1 1 rfl rfl
set_option maxRecDepth 100000 in
theorem wd_73 : Cond.initialized RX4 ∈ goodTbl := gwt1 2 rfl rfl
set_option maxRecDepth 100000 in
theorem wd_74 : Cond.initialized RX2 ∈ goodTbl := gwt1 3 rfl rfl
set_option maxRecDepth 100000 in
theorem wd_75 : Cond.initialized RX0 ∈ goodTbl := gwt1 4 rfl rfl
set_option maxRecDepth 100000 in
theorem wd_76 : Cond.initialized RJ5 ∈ goodTbl := gwt1 5 rfl rfl
set_option maxRecDepth 100000 in
theorem wd_77 : Cond.initialized RJ4 ∈ goodTbl := gwt1 6 rfl rfl
set_option maxRecDepth 100000 in
theorem wd_78 : Cond.initialized RJ0 ∈ goodTbl := gwt1 7 rfl rfl
set_option maxRecDepth 100000 in
theorem wd_80 : Cond.initialized RX3 ∈ goodTbl := gwt1 9 rfl rfl
set_option maxRecDepth 100000 in
theorem wd_81 : Cond.initialized RX6 ∈ goodTbl := gwt1 10 rfl rfl
set_option maxRecDepth 100000 in
theorem wd_83 : Cond.initialized RJ3 ∈ goodTbl := gwt1 12 rfl rfl
set_option maxRecDepth 100000 in
theorem wd_84 : Cond.initialized RX1 ∈ goodTbl := gwt1 13 rfl rfl
set_option maxRecDepth 100000 in
theorem wd_85 : Cond.initialized RJ7 ∈ goodTbl := gwt1 14 rfl rfl
set_option maxRecDepth 100000 in
theorem wd_87 : Cond.initialized RJ8 ∈ goodTbl := gwt1 16 rfl rfl
set_option maxRecDepth 100000 in
theorem wd_88 : Cond.initialized RJ1 ∈ goodTbl := gwt1 17 rfl rfl
set_option maxRecDepth 100000 in
theorem wd_89 : Cond.initialized RJ6 ∈ goodTbl := gwt1 18 rfl rfl
set_option maxRecDepth 100000 in
theorem wd_90 : Cond.classLink RL 7 RX5 ∈ goodTbl := gwt1 19 rfl rfl
set_option maxRecDepth 100000 in
theorem wd_91 : Cond.instantiable RX5 5 ∈ goodTbl := gwt1 20 rfl rfl
set_option maxRecDepth 100000 in
theorem wd_92 : Cond.methodLink RL 9 yX5_init ∈ goodTbl := gwt1 21 rfl rfl
set_option maxRecDepth 100000 in
theorem wd_93 : Cond.instanceMethod yX5_init ∈ goodTbl := gwt1 22 rfl rfl
set_option maxRecDepth 100000 in
theorem wd_94 : Cond.code yX5_init cX5_init 1 none ∈ goodTbl := gwt1 23 rfl rfl
set_option maxRecDepth 100000 in
theorem wd_95 : Cond.methodLink RX5 1 Lib.objectInit ∈ goodTbl := gwt1 24 rfl rfl
set_option maxRecDepth 100000 in
theorem wd_98 : Cond.classLink RX5 7 RX4 ∈ goodTbl := gwt1 27 rfl rfl
set_option maxRecDepth 100000 in
theorem wd_99 : Cond.instantiable RX4 13 ∈ goodTbl := gwt1 28 rfl rfl
set_option maxRecDepth 100000 in
theorem wd_100 : Cond.methodLink RX5 9 yX4_init ∈ goodTbl := gwt1 29 rfl rfl
set_option maxRecDepth 100000 in
theorem wd_101 : Cond.instanceMethod yX4_init ∈ goodTbl := gwt1 30 rfl rfl
set_option maxRecDepth 100000 in
theorem wd_102 : Cond.code yX4_init cX4_init 2 none ∈ goodTbl := gwt1 31 rfl rfl
set_option maxRecDepth 100000 in
theorem wd_103 : Cond.methodLink RX4 3 Lib.objectInit ∈ goodTbl := gwt1 32 rfl rfl
set_option maxRecDepth 100000 in
theorem wd_104 : Cond.classLink RX4 22 RX2 ∈ goodTbl := gwt1 33 rfl rfl
set_option maxRecDepth 100000 in
theorem wd_106 : Cond.instantiable RX2 14 ∈ goodTbl := gwt1 35 rfl rfl
set_option maxRecDepth 100000 in
theorem wd_108 : Cond.instanceMethod yX2_init ∈ goodTbl := gwt1 37 rfl rfl
set_option maxRecDepth 100000 in
theorem wd_109 : Cond.code yX2_init cX2_init 1 none ∈ goodTbl := gwt1 38 rfl rfl
set_option maxRecDepth 100000 in
theorem wd_110 : Cond.methodLink RX2 3 Lib.objectInit ∈ goodTbl := gwt1 39 rfl rfl
set_option maxRecDepth 100000 in
theorem wd_111 : Cond.classLink RX2 9 RX1 ∈ goodTbl := gwt1 40 rfl rfl
set_option maxRecDepth 100000 in
theorem wd_113 : Cond.fieldLink RX2 21 "ReceiptRolls$Receipt" "number" "I" ∈ goodTbl := gwt1 42 rfl rfl
set_option maxRecDepth 100000 in
theorem wd_114 : Cond.fieldLink RX4 68 "ReceiptRolls$Receipt" "number" "I" ∈ goodTbl := gwt1 43 rfl rfl
set_option maxRecDepth 100000 in
theorem wd_115 : Cond.fieldLink RX5 227 "ReceiptRolls$Receipt" "number" "I" ∈ goodTbl := gwt1 44 rfl rfl
set_option maxRecDepth 100000 in
theorem wd_116 : Cond.fieldLink RX2 25 "ReceiptRolls$Receipt" "till" "I" ∈ goodTbl := gwt1 45 rfl rfl
set_option maxRecDepth 100000 in
theorem wd_117 : Cond.fieldLink RX5 211 "ReceiptRolls$Receipt" "till" "I" ∈ goodTbl := gwt1 46 rfl rfl
set_option maxRecDepth 100000 in
theorem wd_118 : Cond.fieldLink RX2 28 "ReceiptRolls$Receipt" "priority" "I" ∈ goodTbl := gwt1 47 rfl rfl
set_option maxRecDepth 100000 in
theorem wd_119 : Cond.fieldLink RX5 147 "ReceiptRolls$Receipt" "priority" "I" ∈ goodTbl := gwt1 48 rfl rfl
set_option maxRecDepth 100000 in
theorem wd_120 : Cond.fieldLink RX2 31 "ReceiptRolls$Receipt" "stage" "I" ∈ goodTbl := gwt1 49 rfl rfl
set_option maxRecDepth 100000 in
theorem wd_121 : Cond.fieldLink RX5 144 "ReceiptRolls$Receipt" "stage" "I" ∈ goodTbl := gwt1 50 rfl rfl
set_option maxRecDepth 100000 in
theorem wd_122 : Cond.fieldLink RX4 79 "ReceiptRolls$Receipt" "stage" "I" ∈ goodTbl := gwt1 51 rfl rfl
set_option maxRecDepth 100000 in
theorem wd_123 : Cond.fieldLink RX2 34 "ReceiptRolls$Receipt" "width" "I" ∈ goodTbl := gwt1 52 rfl rfl
set_option maxRecDepth 100000 in
theorem wd_124 : Cond.fieldLink RX5 217 "ReceiptRolls$Receipt" "width" "I" ∈ goodTbl := gwt1 53 rfl rfl
set_option maxRecDepth 100000 in
theorem wd_125 : Cond.fieldLink RX2 37 "ReceiptRolls$Receipt" "lines" "I" ∈ goodTbl := gwt1 54 rfl rfl
set_option maxRecDepth 100000 in
theorem wd_126 : Cond.fieldLink RX5 214 "ReceiptRolls$Receipt" "lines" "I" ∈ goodTbl := gwt1 55 rfl rfl
set_option maxRecDepth 100000 in
theorem wd_127 : Cond.fieldLink RX4 101 "ReceiptRolls$Receipt" "lines" "I" ∈ goodTbl := gwt1 56 rfl rfl
set_option maxRecDepth 100000 in
theorem wd_128 : Cond.fieldLink RX2 40 "ReceiptRolls$Receipt" "printed" "I" ∈ goodTbl := gwt1 57 rfl rfl
set_option maxRecDepth 100000 in
theorem wd_129 : Cond.fieldLink RX5 166 "ReceiptRolls$Receipt" "printed" "I" ∈ goodTbl := gwt1 58 rfl rfl
set_option maxRecDepth 100000 in
theorem wd_130 : Cond.fieldLink RX4 98 "ReceiptRolls$Receipt" "printed" "I" ∈ goodTbl := gwt1 59 rfl rfl
set_option maxRecDepth 100000 in
theorem wd_131 : Cond.fieldLink RX2 43 "ReceiptRolls$Receipt" "doneTick" "I" ∈ goodTbl := gwt1 60 rfl rfl
set_option maxRecDepth 100000 in
theorem wd_132 : Cond.fieldLink RX5 218 "ReceiptRolls$Receipt" "doneTick" "I" ∈ goodTbl := gwt1 61 rfl rfl
set_option maxRecDepth 100000 in
theorem wd_133 : Cond.fieldLink RX4 113 "ReceiptRolls$Receipt" "doneTick" "I" ∈ goodTbl := gwt1 62 rfl rfl
set_option maxRecDepth 100000 in
theorem wd_134 : Cond.fieldLink RX2 46 "ReceiptRolls$Receipt" "doneRank" "I" ∈ goodTbl := gwt1 63 rfl rfl
set_option maxRecDepth 100000 in
theorem wd_135 : Cond.fieldLink RX4 116 "ReceiptRolls$Receipt" "doneRank" "I" ∈ goodTbl := gwt1 64 rfl rfl
set_option maxRecDepth 100000 in
theorem wd_136 : Cond.fieldLink RX2 49 "ReceiptRolls$Receipt" "items" "I" ∈ goodTbl := gwt1 65 rfl rfl
set_option maxRecDepth 100000 in
theorem wd_137 : Cond.fieldLink RX5 67 "ReceiptRolls$Receipt" "items" "I" ∈ goodTbl := gwt1 66 rfl rfl
set_option maxRecDepth 100000 in
theorem wd_138 : Cond.fieldLink RX3 32 "ReceiptRolls$Receipt" "events" "I" ∈ goodTbl := gwt1 67 rfl rfl
set_option maxRecDepth 100000 in
theorem wd_139 : Cond.fieldLink RX2 52 "ReceiptRolls$Receipt" "events" "I" ∈ goodTbl := gwt1 68 rfl rfl
set_option maxRecDepth 100000 in
theorem wd_140 : Cond.fieldLink RX2 55 "ReceiptRolls$Receipt" "struck" "I" ∈ goodTbl := gwt1 69 rfl rfl
set_option maxRecDepth 100000 in
theorem wd_141 : Cond.fieldLink RX5 265 "ReceiptRolls$Receipt" "struck" "I" ∈ goodTbl := gwt1 70 rfl rfl
set_option maxRecDepth 100000 in
theorem wd_142 : Cond.fieldLink RX2 11 "ReceiptRolls$Receipt" "rung" "[LReceiptRolls$Item;" ∈ goodTbl := gwt1 71 rfl rfl
set_option maxRecDepth 100000 in
theorem wd_143 : Cond.fieldLink RX2 17 "ReceiptRolls$Receipt" "happened" "[I" ∈ goodTbl := gwt1 72 rfl rfl
set_option maxRecDepth 100000 in
theorem wd_144 : Cond.fieldLink RX3 38 "ReceiptRolls$Receipt" "happened" "[I" ∈ goodTbl := gwt1 73 rfl rfl
set_option maxRecDepth 100000 in
theorem wd_174 : Cond.arrayClass .int ∈ goodTbl := gwt1 103 rfl rfl
set_option maxRecDepth 100000 in
theorem wd_175 : Cond.fieldLink RX4 9 "ReceiptRolls$State" "rollLeft" "I" ∈ goodTbl := gwt1 104 rfl rfl
set_option maxRecDepth 100000 in
theorem wd_176 : Cond.fieldLink RX5 150 "ReceiptRolls$State" "rollLeft" "I" ∈ goodTbl := gwt1 105 rfl rfl
set_option maxRecDepth 100000 in
theorem wd_177 : Cond.fieldLink RX4 32 "ReceiptRolls$State" "linesPrinted" "I" ∈ goodTbl := gwt1 106 rfl rfl
set_option maxRecDepth 100000 in
theorem wd_178 : Cond.fieldLink RX5 230 "ReceiptRolls$State" "linesPrinted" "I" ∈ goodTbl := gwt1 107 rfl rfl
set_option maxRecDepth 100000 in
theorem wd_179 : Cond.fieldLink RX4 35 "ReceiptRolls$State" "linesSpoilt" "I" ∈ goodTbl := gwt1 108 rfl rfl
set_option maxRecDepth 100000 in
theorem wd_180 : Cond.fieldLink RX5 172 "ReceiptRolls$State" "linesSpoilt" "I" ∈ goodTbl := gwt1 109 rfl rfl
set_option maxRecDepth 100000 in
theorem wd_181 : Cond.fieldLink RX4 15 "ReceiptRolls$State" "rolls" "I" ∈ goodTbl := gwt1 110 rfl rfl
set_option maxRecDepth 100000 in
theorem wd_182 : Cond.fieldLink RX5 160 "ReceiptRolls$State" "rolls" "I" ∈ goodTbl := gwt1 111 rfl rfl
set_option maxRecDepth 100000 in
theorem wd_183 : Cond.fieldLink RX4 38 "ReceiptRolls$State" "linesThrown" "I" ∈ goodTbl := gwt1 112 rfl rfl
set_option maxRecDepth 100000 in
theorem wd_184 : Cond.fieldLink RX5 153 "ReceiptRolls$State" "linesThrown" "I" ∈ goodTbl := gwt1 113 rfl rfl
set_option maxRecDepth 100000 in
theorem wd_185 : Cond.fieldLink RX4 41 "ReceiptRolls$State" "ticks" "I" ∈ goodTbl := gwt1 114 rfl rfl
set_option maxRecDepth 100000 in
theorem wd_186 : Cond.fieldLink RX5 175 "ReceiptRolls$State" "ticks" "I" ∈ goodTbl := gwt1 115 rfl rfl
set_option maxRecDepth 100000 in
theorem wd_187 : Cond.fieldLink RX4 44 "ReceiptRolls$State" "closed" "I" ∈ goodTbl := gwt1 116 rfl rfl
set_option maxRecDepth 100000 in
theorem wd_188 : Cond.fieldLink RX5 114 "ReceiptRolls$State" "closed" "I" ∈ goodTbl := gwt1 117 rfl rfl
set_option maxRecDepth 100000 in
theorem wd_189 : Cond.fieldLink RX4 47 "ReceiptRolls$State" "done" "I" ∈ goodTbl := gwt1 118 rfl rfl
set_option maxRecDepth 100000 in
theorem wd_190 : Cond.fieldLink RX5 117 "ReceiptRolls$State" "done" "I" ∈ goodTbl := gwt1 119 rfl rfl
set_option maxRecDepth 100000 in
theorem wd_191 : Cond.fieldLink RX4 50 "ReceiptRolls$State" "itemsStruck" "I" ∈ goodTbl := gwt1 120 rfl rfl
set_option maxRecDepth 100000 in
theorem wd_192 : Cond.fieldLink RX5 101 "ReceiptRolls$State" "itemsStruck" "I" ∈ goodTbl := gwt1 121 rfl rfl
set_option maxRecDepth 100000 in
theorem wd_193 : Cond.fieldLink RX4 53 "ReceiptRolls$State" "printing" "I" ∈ goodTbl := gwt1 122 rfl rfl
set_option maxRecDepth 100000 in
theorem wd_194 : Cond.fieldLink RX5 163 "ReceiptRolls$State" "printing" "I" ∈ goodTbl := gwt1 123 rfl rfl
set_option maxRecDepth 100000 in
theorem wd_195 : Cond.fieldLink RX4 18 "ReceiptRolls$State" "settings" "[I" ∈ goodTbl := gwt1 124 rfl rfl
set_option maxRecDepth 100000 in
theorem wd_196 : Cond.fieldLink RX4 24 "ReceiptRolls$State" "open" "[LReceiptRolls$Receipt;" ∈ goodTbl := gwt1 125 rfl rfl
set_option maxRecDepth 100000 in
theorem wd_197 : Cond.fieldLink RX4 28 "ReceiptRolls$State" "ledger" "[LReceiptRolls$Receipt;" ∈ goodTbl := gwt1 126 rfl rfl
set_option maxRecDepth 100000 in
theorem wd_225 : Cond.classLink RX5 16 RX0 ∈ goodTbl := gwt1 154 rfl rfl
set_option maxRecDepth 100000 in
theorem wd_226 : Cond.instantiable RX0 2 ∈ goodTbl := gwt1 155 rfl rfl
set_option maxRecDepth 100000 in
theorem wd_227 : Cond.methodLink RX5 18 yX0_init ∈ goodTbl := gwt1 156 rfl rfl
set_option maxRecDepth 100000 in
theorem wd_228 : Cond.instanceMethod yX0_init ∈ goodTbl := gwt1 157 rfl rfl
set_option maxRecDepth 100000 in
theorem wd_229 : Cond.code yX0_init cX0_init 2 none ∈ goodTbl := gwt1 158 rfl rfl
set_option maxRecDepth 100000 in
theorem wd_230 : Cond.methodLink RX0 3 Lib.objectInit ∈ goodTbl := gwt1 159 rfl rfl
set_option maxRecDepth 100000 in
theorem wd_231 : Cond.classLink RX0 9 RX4 ∈ goodTbl := gwt1 160 rfl rfl
set_option maxRecDepth 100000 in
theorem wd_233 : Cond.methodLink RX0 17 yX4_init ∈ goodTbl := gwt1 162 rfl rfl
set_option maxRecDepth 100000 in
theorem wd_234 : Cond.fieldLink RX0 18 "ReceiptRolls$History" "kept" "I" ∈ goodTbl := gwt1 163 rfl rfl
set_option maxRecDepth 100000 in
theorem wd_235 : Cond.fieldLink RX5 237 "ReceiptRolls$History" "kept" "I" ∈ goodTbl := gwt1 164 rfl rfl
set_option maxRecDepth 100000 in
theorem wd_236 : Cond.fieldLink RX0 11 "ReceiptRolls$History" "states" "[LReceiptRolls$State;" ∈ goodTbl := gwt1 165 rfl rfl
set_option maxRecDepth 100000 in
theorem wd_242 : Cond.classLink RX5 27 RJ4 ∈ goodTbl := gwt1 171 rfl rfl
set_option maxRecDepth 100000 in
theorem wd_243 : Cond.instantiable RJ4 4 ∈ goodTbl := gwt1 172 rfl rfl
set_option maxRecDepth 100000 in
theorem wd_244 : Cond.methodLink RX5 29 yJ4_init_da8c8 ∈ goodTbl := gwt1 173 rfl rfl
set_option maxRecDepth 100000 in
theorem wd_245 : Cond.instanceMethod yJ4_init_da8c8 ∈ goodTbl := gwt1 174 rfl rfl
set_option maxRecDepth 100000 in
theorem wd_246 : Cond.code yJ4_init_da8c8 cJ4_init_da8c8 1 none ∈ goodTbl := gwt1 175 rfl rfl
set_option maxRecDepth 100000 in
theorem wd_247 : Cond.methodLink RJ4 1 yJ5_init_d00df ∈ goodTbl := gwt1 176 rfl rfl
set_option maxRecDepth 100000 in
theorem wd_248 : Cond.instanceMethod yJ5_init_d00df ∈ goodTbl := gwt1 177 rfl rfl
set_option maxRecDepth 100000 in
theorem wd_249 : Cond.code yJ5_init_d00df cJ5_init_d00df 2 none ∈ goodTbl := gwt1 178 rfl rfl
set_option maxRecDepth 100000 in
theorem wd_250 : Cond.methodLink RJ5 3 Lib.objectInit ∈ goodTbl := gwt1 179 rfl rfl
set_option maxRecDepth 100000 in
theorem wd_251 : Cond.fieldLink RJ5 18 "java/lang/String" "COMPACT_STRINGS" "Z" ∈ goodTbl := gwt1 180 rfl rfl
set_option maxRecDepth 100000 in
theorem wd_260 : Cond.fieldLink RJ5 15 "java/lang/AbstractStringBuilder" "value" "[B" ∈ goodTbl := gwt1 189 rfl rfl
set_option maxRecDepth 100000 in
theorem wd_261 : Cond.fieldLink RJ5 22 "java/lang/AbstractStringBuilder" "coder" "B" ∈ goodTbl := gwt1 190 rfl rfl
set_option maxRecDepth 100000 in
theorem wd_262 : Cond.fieldLink RJ5 73 "java/lang/AbstractStringBuilder" "maybeLatin1" "Z" ∈ goodTbl := gwt1 191 rfl rfl
set_option maxRecDepth 100000 in
theorem wd_263 : Cond.fieldLink RJ0 1048 "java/lang/AbstractStringBuilder" "maybeLatin1" "Z" ∈ goodTbl := gwt1 192 rfl rfl
set_option maxRecDepth 100000 in
theorem wd_264 : Cond.fieldLink RJ5 79 "java/lang/AbstractStringBuilder" "count" "I" ∈ goodTbl := gwt1 193 rfl rfl
set_option maxRecDepth 100000 in
theorem wd_273 : Cond.superclass RJ4 RJ5 ∈ goodTbl := gwt1 202 rfl rfl
set_option maxRecDepth 100000 in
theorem wd_274 : Cond.arrayClass .byte ∈ goodTbl := gwt1 203 rfl rfl
set_option maxRecDepth 100000 in
theorem wd_275 : Cond.classLink RX5 34 RX3 ∈ goodTbl := gwt1 204 rfl rfl
set_option maxRecDepth 100000 in
theorem wd_276 : Cond.instantiable RX3 6 ∈ goodTbl := gwt1 205 rfl rfl
set_option maxRecDepth 100000 in
theorem wd_278 : Cond.instanceMethod yX3_init ∈ goodTbl := gwt1 207 rfl rfl
set_option maxRecDepth 100000 in
theorem wd_279 : Cond.code yX3_init cX3_init 1 none ∈ goodTbl := gwt1 208 rfl rfl
set_option maxRecDepth 100000 in
theorem wd_280 : Cond.methodLink RX3 3 Lib.objectInit ∈ goodTbl := gwt1 209 rfl rfl
set_option maxRecDepth 100000 in
theorem wd_281 : Cond.fieldLink RX3 84 "ReceiptRolls$Sheet" "width" "I" ∈ goodTbl := gwt1 210 rfl rfl
set_option maxRecDepth 100000 in
theorem wd_282 : Cond.fieldLink RX5 128 "ReceiptRolls$Sheet" "width" "I" ∈ goodTbl := gwt1 211 rfl rfl
set_option maxRecDepth 100000 in
theorem wd_283 : Cond.fieldLink RX3 81 "ReceiptRolls$Sheet" "line" "I" ∈ goodTbl := gwt1 212 rfl rfl
set_option maxRecDepth 100000 in
theorem wd_284 : Cond.fieldLink RX5 131 "ReceiptRolls$Sheet" "line" "I" ∈ goodTbl := gwt1 213 rfl rfl
set_option maxRecDepth 100000 in
theorem wd_285 : Cond.fieldLink RX3 90 "ReceiptRolls$Sheet" "firstAlike" "I" ∈ goodTbl := gwt1 214 rfl rfl
set_option maxRecDepth 100000 in
theorem wd_286 : Cond.fieldLink RX5 169 "ReceiptRolls$Sheet" "firstAlike" "I" ∈ goodTbl := gwt1 215 rfl rfl
set_option maxRecDepth 100000 in
theorem wd_287 : Cond.fieldLink RX3 87 "ReceiptRolls$Sheet" "wanted" "I" ∈ goodTbl := gwt1 216 rfl rfl
set_option maxRecDepth 100000 in
theorem wd_288 : Cond.fieldLink RX3 93 "ReceiptRolls$Sheet" "column" "I" ∈ goodTbl := gwt1 217 rfl rfl
set_option maxRecDepth 100000 in
theorem wd_289 : Cond.fieldLink RX3 9 "ReceiptRolls$Sheet" "signs" "[C" ∈ goodTbl := gwt1 218 rfl rfl
set_option maxRecDepth 100000 in
theorem wd_303 : Cond.arrayClass .char ∈ goodTbl := gwt1 232 rfl rfl
set_option maxRecDepth 100000 in
theorem wd_304 : Cond.fieldLink RX5 10 "ReceiptRolls" "now" "LReceiptRolls$State;" ∈ goodTbl := gwt1 233 rfl rfl
set_option maxRecDepth 100000 in
theorem wd_305 : Cond.fieldLink RX5 19 "ReceiptRolls" "history" "LReceiptRolls$History;" ∈ goodTbl := gwt1 234 rfl rfl
set_option maxRecDepth 100000 in
theorem wd_306 : Cond.fieldLink RX5 23 "ReceiptRolls" "slots" "[LReceiptRolls$State;" ∈ goodTbl := gwt1 235 rfl rfl
set_option maxRecDepth 100000 in
theorem wd_307 : Cond.fieldLink RX5 30 "ReceiptRolls" "pad" "Ljava/lang/StringBuilder;" ∈ goodTbl := gwt1 236 rfl rfl
set_option maxRecDepth 100000 in
theorem wd_308 : Cond.fieldLink RX5 37 "ReceiptRolls" "sheet" "LReceiptRolls$Sheet;" ∈ goodTbl := gwt1 237 rfl rfl
set_option maxRecDepth 100000 in
theorem wd_320 : Cond.methodLink RL 13 yX5_set ∈ goodTbl := gwt2 9 rfl rfl
set_option maxRecDepth 100000 in
theorem wd_321 : Cond.instanceMethod yX5_set ∈ goodTbl := gwt2 10 rfl rfl
set_option maxRecDepth 100000 in
theorem wd_322 : Cond.selects RX5 yX5_set yX5_set ∈ goodTbl := gwt2 11 rfl rfl
set_option maxRecDepth 100000 in
theorem wd_323 : Cond.code yX5_set cX5_set 3 (some .int) ∈ goodTbl := gwt2 12 rfl rfl
set_option maxRecDepth 100000 in
theorem wd_324 : Cond.fieldLink RX5 41 "ReceiptRolls" "LEAST_SETTINGS" "[I" ∈ goodTbl := gwt2 13 rfl rfl
set_option maxRecDepth 100000 in
theorem wd_326 : Cond.fieldLink RX5 45 "ReceiptRolls" "MOST_SETTINGS" "[I" ∈ goodTbl := gwt2 15 rfl rfl
set_option maxRecDepth 100000 in
theorem wd_328 : Cond.methodLink RX5 48 yX0_remember ∈ goodTbl := gwt2 17 rfl rfl
set_option maxRecDepth 100000 in
theorem wd_329 : Cond.instanceMethod yX0_remember ∈ goodTbl := gwt2 18 rfl rfl
set_option maxRecDepth 100000 in
theorem wd_330 : Cond.selects RX0 yX0_remember yX0_remember ∈ goodTbl := gwt2 19 rfl rfl
set_option maxRecDepth 100000 in
theorem wd_331 : Cond.code yX0_remember cX0_remember 2 none ∈ goodTbl := gwt2 20 rfl rfl
set_option maxRecDepth 100000 in
theorem wd_332 : Cond.methodLink RX0 22 yX0_dropOldest ∈ goodTbl := gwt2 21 rfl rfl
set_option maxRecDepth 100000 in
theorem wd_334 : Cond.instanceMethod yX0_dropOldest ∈ goodTbl := gwt2 23 rfl rfl
set_option maxRecDepth 100000 in
theorem wd_335 : Cond.code yX0_dropOldest cX0_dropOldest 3 none ∈ goodTbl := gwt2 24 rfl rfl
set_option maxRecDepth 100000 in
theorem wd_336 : Cond.methodLink RX0 25 yX4_copyFrom ∈ goodTbl := gwt2 25 rfl rfl
set_option maxRecDepth 100000 in
theorem wd_337 : Cond.instanceMethod yX4_copyFrom ∈ goodTbl := gwt2 26 rfl rfl
set_option maxRecDepth 100000 in
theorem wd_338 : Cond.selects RX4 yX4_copyFrom yX4_copyFrom ∈ goodTbl := gwt2 27 rfl rfl
set_option maxRecDepth 100000 in
theorem wd_339 : Cond.code yX4_copyFrom cX4_copyFrom 3 none ∈ goodTbl := gwt2 28 rfl rfl
set_option maxRecDepth 100000 in
theorem wd_340 : Cond.methodLink RX4 56 yX4_copyReceipts ∈ goodTbl := gwt2 29 rfl rfl
set_option maxRecDepth 100000 in
theorem wd_341 : Cond.static yX4_copyReceipts ∈ goodTbl := gwt2 30 rfl rfl
set_option maxRecDepth 100000 in
theorem wd_342 : Cond.code yX4_copyReceipts cX4_copyReceipts 3 none ∈ goodTbl := gwt2 31 rfl rfl
set_option maxRecDepth 100000 in
theorem wd_343 : Cond.methodLink RX4 60 yX2_copyFrom ∈ goodTbl := gwt2 32 rfl rfl
set_option maxRecDepth 100000 in
theorem wd_344 : Cond.instanceMethod yX2_copyFrom ∈ goodTbl := gwt2 33 rfl rfl
set_option maxRecDepth 100000 in
theorem wd_345 : Cond.selects RX2 yX2_copyFrom yX2_copyFrom ∈ goodTbl := gwt2 34 rfl rfl
set_option maxRecDepth 100000 in
theorem wd_346 : Cond.code yX2_copyFrom cX2_copyFrom 3 none ∈ goodTbl := gwt2 35 rfl rfl
set_option maxRecDepth 100000 in
theorem wd_347 : Cond.methodLink RX5 52 yX4_changeSetting ∈ goodTbl := gwt2 36 rfl rfl
set_option maxRecDepth 100000 in
theorem wd_348 : Cond.instanceMethod yX4_changeSetting ∈ goodTbl := gwt2 37 rfl rfl
set_option maxRecDepth 100000 in
theorem wd_349 : Cond.selects RX4 yX4_changeSetting yX4_changeSetting ∈ goodTbl := gwt2 38 rfl rfl
set_option maxRecDepth 100000 in
theorem wd_350 : Cond.code yX4_changeSetting cX4_changeSetting 4 (some .int) ∈ goodTbl := gwt2 39 rfl rfl
set_option maxRecDepth 100000 in
theorem wd_351 : Cond.methodLink RX4 64 yX4_settingAt ∈ goodTbl := gwt2 40 rfl rfl
set_option maxRecDepth 100000 in
theorem wd_352 : Cond.instanceMethod yX4_settingAt ∈ goodTbl := gwt2 41 rfl rfl
set_option maxRecDepth 100000 in
theorem wd_353 : Cond.selects RX4 yX4_settingAt yX4_settingAt ∈ goodTbl := gwt2 42 rfl rfl
set_option maxRecDepth 100000 in
theorem wd_354 : Cond.code yX4_settingAt cX4_settingAt 2 (some .int) ∈ goodTbl := gwt2 43 rfl rfl
set_option maxRecDepth 100000 in
theorem wd_355 : Cond.methodLink RL 18 yX5_ring ∈ goodTbl := gwt2 44 rfl rfl
set_option maxRecDepth 100000 in
theorem wd_356 : Cond.instanceMethod yX5_ring ∈ goodTbl := gwt2 45 rfl rfl
set_option maxRecDepth 100000 in
theorem wd_357 : Cond.selects RX5 yX5_ring yX5_ring ∈ goodTbl := gwt2 46 rfl rfl
set_option maxRecDepth 100000 in
theorem wd_358 : Cond.code yX5_ring cX5_ring 7 (some .int) ∈ goodTbl := gwt2 47 rfl rfl
set_option maxRecDepth 100000 in
theorem wd_359 : Cond.methodLink RX5 56 yX4_openAt ∈ goodTbl := gwt2 48 rfl rfl
set_option maxRecDepth 100000 in
theorem wd_360 : Cond.instanceMethod yX4_openAt ∈ goodTbl := gwt2 49 rfl rfl
set_option maxRecDepth 100000 in
theorem wd_361 : Cond.selects RX4 yX4_openAt yX4_openAt ∈ goodTbl := gwt2 50 rfl rfl
set_option maxRecDepth 100000 in
theorem wd_362 : Cond.code yX4_openAt cX4_openAt 2 (some (.object "ReceiptRolls$Receipt")) ∈ goodTbl := gwt2 51 rfl rfl
set_option maxRecDepth 100000 in
theorem wd_363 : Cond.methodLink RX5 60 yX5_faultOfPad ∈ goodTbl := gwt2 52 rfl rfl
set_option maxRecDepth 100000 in
theorem wd_365 : Cond.instanceMethod yX5_faultOfPad ∈ goodTbl := gwt2 54 rfl rfl
set_option maxRecDepth 100000 in
theorem wd_366 : Cond.code yX5_faultOfPad cX5_faultOfPad 6 (some .int) ∈ goodTbl := gwt2 55 rfl rfl
set_option maxRecDepth 100000 in
theorem wd_367 : Cond.methodLink RX5 236 yJ4_length_8abf5 ∈ goodTbl := gwt2 56 rfl rfl
set_option maxRecDepth 100000 in
theorem wd_368 : Cond.instanceMethod yJ4_length_8abf5 ∈ goodTbl := gwt2 57 rfl rfl
set_option maxRecDepth 100000 in
theorem wd_369 : Cond.selects RJ4 yJ4_length_8abf5 yJ4_length_8abf5 ∈ goodTbl := gwt2 58 rfl rfl
set_option maxRecDepth 100000 in
theorem wd_370 : Cond.code yJ4_length_8abf5 cJ4_length_8abf5 1 (some .int) ∈ goodTbl := gwt2 59 rfl rfl
set_option maxRecDepth 100000 in
theorem wd_371 : Cond.methodLink RJ4 343 yJ5_length_8abf5 ∈ goodTbl := gwt2 60 rfl rfl
set_option maxRecDepth 100000 in
theorem wd_372 : Cond.instanceMethod yJ5_length_8abf5 ∈ goodTbl := gwt2 61 rfl rfl
set_option maxRecDepth 100000 in
theorem wd_373 : Cond.code yJ5_length_8abf5 cJ5_length_8abf5 1 (some .int) ∈ goodTbl := gwt2 62 rfl rfl
set_option maxRecDepth 100000 in
theorem wd_374 : Cond.methodLink RX5 290 yJ4_charAt_5068e ∈ goodTbl := gwt2 63 rfl rfl
set_option maxRecDepth 100000 in
theorem wd_375 : Cond.instanceMethod yJ4_charAt_5068e ∈ goodTbl := gwt2 64 rfl rfl
set_option maxRecDepth 100000 in
theorem wd_376 : Cond.selects RJ4 yJ4_charAt_5068e yJ4_charAt_5068e ∈ goodTbl := gwt2 65 rfl rfl
set_option maxRecDepth 100000 in
theorem wd_377 : Cond.code yJ4_charAt_5068e cJ4_charAt_5068e 2 (some .char) ∈ goodTbl := gwt2 66 rfl rfl
set_option maxRecDepth 100000 in
theorem wd_378 : Cond.methodLink RJ4 329 yJ5_charAt_5068e ∈ goodTbl := gwt2 67 rfl rfl
set_option maxRecDepth 100000 in
theorem wd_379 : Cond.instanceMethod yJ5_charAt_5068e ∈ goodTbl := gwt2 68 rfl rfl
set_option maxRecDepth 100000 in
theorem wd_380 : Cond.code yJ5_charAt_5068e cJ5_charAt_5068e 5 (some .char) ∈ goodTbl := gwt2 69 rfl rfl
set_option maxRecDepth 100000 in
theorem wd_381 : Cond.methodLink RJ5 138 Lib.Math.min.name ∈ goodTbl := gwt2 70 rfl rfl
set_option maxRecDepth 100000 in
theorem wd_384 : Cond.methodLink RJ5 144 yJ0_checkIndex_df160 ∈ goodTbl := gwt2 73 rfl rfl
set_option maxRecDepth 100000 in
theorem wd_385 : Cond.static yJ0_checkIndex_df160 ∈ goodTbl := gwt2 74 rfl rfl
set_option maxRecDepth 100000 in
theorem wd_386 : Cond.code yJ0_checkIndex_df160 cJ0_checkIndex_df160 2 none ∈ goodTbl := gwt2 75 rfl rfl
set_option maxRecDepth 100000 in
theorem wd_387 : Cond.fieldLink RJ0 1053 "jdk/internal/util/Preconditions" "SIOOBE_FORMATTER" "Ljava/util/function/BiFunction;" ∈ goodTbl := gwt2 76 rfl rfl
set_option maxRecDepth 100000 in
theorem wd_389 : Cond.methodLink RJ0 1059 yJ3_checkIndex_8e157 ∈ goodTbl := gwt2 78 rfl rfl
set_option maxRecDepth 100000 in
theorem wd_390 : Cond.static yJ3_checkIndex_8e157 ∈ goodTbl := gwt2 79 rfl rfl
set_option maxRecDepth 100000 in
theorem wd_391 : Cond.code yJ3_checkIndex_8e157 cJ3_checkIndex_8e157 3 (some .int) ∈ goodTbl := gwt2 80 rfl rfl
set_option maxRecDepth 100000 in
theorem wd_404 : Cond.fieldLink RX5 64 "ReceiptRolls" "RATES" "[I" ∈ goodTbl := gwt2 93 rfl rfl
set_option maxRecDepth 100000 in
theorem wd_406 : Cond.classLink RX5 73 RX1 ∈ goodTbl := gwt2 95 rfl rfl
set_option maxRecDepth 100000 in
theorem wd_407 : Cond.instantiable RX1 4 ∈ goodTbl := gwt2 96 rfl rfl
set_option maxRecDepth 100000 in
theorem wd_408 : Cond.methodLink RX5 75 yJ4_toString_0e30d ∈ goodTbl := gwt2 97 rfl rfl
set_option maxRecDepth 100000 in
theorem wd_409 : Cond.instanceMethod yJ4_toString_0e30d ∈ goodTbl := gwt2 98 rfl rfl
set_option maxRecDepth 100000 in
theorem wd_410 : Cond.selects RJ4 yJ4_toString_0e30d yJ4_toString_0e30d ∈ goodTbl := gwt2 99 rfl rfl
set_option maxRecDepth 100000 in
theorem wd_411 : Cond.code yJ4_toString_0e30d cJ4_toString_0e30d 1 (some (.object "java/lang/String")) ∈ goodTbl := gwt2 100 rfl rfl
set_option maxRecDepth 100000 in
theorem wd_412 : Cond.classLink RJ4 18 RJ0 ∈ goodTbl := gwt2 101 rfl rfl
set_option maxRecDepth 100000 in
theorem wd_413 : Cond.instantiable RJ0 4 ∈ goodTbl := gwt2 102 rfl rfl
set_option maxRecDepth 100000 in
theorem wd_414 : Cond.methodLink RJ4 137 yJ0_init_81219 ∈ goodTbl := gwt2 103 rfl rfl
set_option maxRecDepth 100000 in
theorem wd_415 : Cond.instanceMethod yJ0_init_81219 ∈ goodTbl := gwt2 104 rfl rfl
set_option maxRecDepth 100000 in
theorem wd_416 : Cond.code yJ0_init_81219 cJ0_init_81219 2 none ∈ goodTbl := gwt2 105 rfl rfl
set_option maxRecDepth 100000 in
theorem wd_417 : Cond.methodLink RJ0 489 yJ0_init_db425 ∈ goodTbl := gwt2 106 rfl rfl
set_option maxRecDepth 100000 in
theorem wd_418 : Cond.instanceMethod yJ0_init_db425 ∈ goodTbl := gwt2 107 rfl rfl
set_option maxRecDepth 100000 in
theorem wd_419 : Cond.code yJ0_init_db425 cJ0_init_db425 5 none ∈ goodTbl := gwt2 108 rfl rfl
set_option maxRecDepth 100000 in
theorem wd_420 : Cond.methodLink RJ0 1 Lib.objectInit ∈ goodTbl := gwt2 109 rfl rfl
set_option maxRecDepth 100000 in
theorem wd_421 : Cond.methodLink RJ0 552 yJ5_getValue_6d5f1 ∈ goodTbl := gwt2 110 rfl rfl
set_option maxRecDepth 100000 in
theorem wd_422 : Cond.instanceMethod yJ5_getValue_6d5f1 ∈ goodTbl := gwt2 111 rfl rfl
set_option maxRecDepth 100000 in
theorem wd_423 : Cond.sameMethod RJ5 RJ5 "getValue" "()[B" ∈ goodTbl := gwt2 112 rfl rfl
set_option maxRecDepth 100000 in
theorem wd_424 : Cond.selects RJ4 yJ5_getValue_6d5f1 yJ5_getValue_6d5f1 ∈ goodTbl := gwt2 113 rfl rfl
set_option maxRecDepth 100000 in
theorem wd_425 : Cond.code yJ5_getValue_6d5f1 cJ5_getValue_6d5f1 1 (some (.array .byte)) ∈ goodTbl := gwt2 114 rfl rfl
set_option maxRecDepth 100000 in
theorem wd_426 : Cond.methodLink RJ0 549 yJ5_length_8abf5 ∈ goodTbl := gwt2 115 rfl rfl
set_option maxRecDepth 100000 in
theorem wd_427 : Cond.methodLink RJ0 1047 yJ5_isLatin1_aae02 ∈ goodTbl := gwt2 116 rfl rfl
set_option maxRecDepth 100000 in
theorem wd_428 : Cond.instanceMethod yJ5_isLatin1_aae02 ∈ goodTbl := gwt2 117 rfl rfl
set_option maxRecDepth 100000 in
theorem wd_429 : Cond.sameMethod RJ5 RJ5 "isLatin1" "()Z" ∈ goodTbl := gwt2 118 rfl rfl
set_option maxRecDepth 100000 in
theorem wd_430 : Cond.selects RJ4 yJ5_isLatin1_aae02 yJ5_isLatin1_aae02 ∈ goodTbl := gwt2 119 rfl rfl
set_option maxRecDepth 100000 in
theorem wd_431 : Cond.code yJ5_isLatin1_aae02 cJ5_isLatin1_aae02 1 (some .boolean) ∈ goodTbl := gwt2 120 rfl rfl
set_option maxRecDepth 100000 in
theorem wd_432 : Cond.methodLink RJ0 54 yJ7_copyOfRange_39247 ∈ goodTbl := gwt2 121 rfl rfl
set_option maxRecDepth 100000 in
theorem wd_433 : Cond.static yJ7_copyOfRange_39247 ∈ goodTbl := gwt2 122 rfl rfl
set_option maxRecDepth 100000 in
theorem wd_434 : Cond.code yJ7_copyOfRange_39247 cJ7_copyOfRange_39247 3 (some (.array .byte)) ∈ goodTbl := gwt2 123 rfl rfl
set_option maxRecDepth 100000 in
theorem wd_435 : Cond.methodLink RJ7 339 yJ7_copyOfRangeByte_39247 ∈ goodTbl := gwt2 124 rfl rfl
set_option maxRecDepth 100000 in
theorem wd_436 : Cond.static yJ7_copyOfRangeByte_39247 ∈ goodTbl := gwt2 125 rfl rfl
set_option maxRecDepth 100000 in
theorem wd_437 : Cond.code yJ7_copyOfRangeByte_39247 cJ7_copyOfRangeByte_39247 5 (some (.array .byte)) ∈ goodTbl := gwt2 126 rfl rfl
set_option maxRecDepth 100000 in
theorem wd_438 : Cond.methodLink RJ7 343 yJ7_checkLength_df160 ∈ goodTbl := gwt2 127 rfl rfl
set_option maxRecDepth 100000 in
theorem wd_439 : Cond.static yJ7_checkLength_df160 ∈ goodTbl := gwt2 128 rfl rfl
set_option maxRecDepth 100000 in
theorem wd_440 : Cond.code yJ7_checkLength_df160 cJ7_checkLength_df160 2 none ∈ goodTbl := gwt2 129 rfl rfl
set_option maxRecDepth 100000 in
theorem wd_441 : Cond.methodLink RJ7 304 Lib.Math.min.name ∈ goodTbl := gwt2 130 rfl rfl
set_option maxRecDepth 100000 in
theorem wd_442 : Cond.methodLink RJ7 150 arraycopyName ∈ goodTbl := gwt2 131 rfl rfl
set_option maxRecDepth 100000 in
theorem wd_445 : Cond.methodLink RJ7 310 ⟨"[B", "clone", "()Ljava/lang/Object;"⟩ ∈ goodTbl := gwt2 134 rfl rfl
set_option maxRecDepth 100000 in
theorem wd_451 : Cond.classLink RJ7 311 "[B" ∈ goodTbl := gwt2 140 rfl rfl
set_option maxRecDepth 100000 in
theorem wd_452 : Cond.fieldLink RJ0 38 "java/lang/String" "COMPACT_STRINGS" "Z" ∈ goodTbl := gwt2 141 rfl rfl
set_option maxRecDepth 100000 in
theorem wd_473 : Cond.fieldLink RJ0 9 "java/lang/String" "value" "[B" ∈ goodTbl := gwt2 162 rfl rfl
set_option maxRecDepth 100000 in
theorem wd_474 : Cond.fieldLink RJ0 15 "java/lang/String" "coder" "B" ∈ goodTbl := gwt2 163 rfl rfl
set_option maxRecDepth 100000 in
theorem wd_484 : Cond.methodLink RX5 79 yX1_init ∈ goodTbl := gwt2 173 rfl rfl
set_option maxRecDepth 100000 in
theorem wd_485 : Cond.instanceMethod yX1_init ∈ goodTbl := gwt2 174 rfl rfl
set_option maxRecDepth 100000 in
theorem wd_486 : Cond.code yX1_init cX1_init 5 none ∈ goodTbl := gwt2 175 rfl rfl
set_option maxRecDepth 100000 in
theorem wd_487 : Cond.methodLink RX1 1 Lib.objectInit ∈ goodTbl := gwt2 176 rfl rfl
set_option maxRecDepth 100000 in
theorem wd_488 : Cond.fieldLink RX1 7 "ReceiptRolls$Item" "name" "Ljava/lang/String;" ∈ goodTbl := gwt2 177 rfl rfl
set_option maxRecDepth 100000 in
theorem wd_489 : Cond.fieldLink RX3 103 "ReceiptRolls$Item" "name" "Ljava/lang/String;" ∈ goodTbl := gwt2 178 rfl rfl
set_option maxRecDepth 100000 in
theorem wd_490 : Cond.fieldLink RX5 194 "ReceiptRolls$Item" "name" "Ljava/lang/String;" ∈ goodTbl := gwt2 179 rfl rfl
set_option maxRecDepth 100000 in
theorem wd_491 : Cond.fieldLink RX1 13 "ReceiptRolls$Item" "many" "I" ∈ goodTbl := gwt2 180 rfl rfl
set_option maxRecDepth 100000 in
theorem wd_492 : Cond.fieldLink RX3 96 "ReceiptRolls$Item" "many" "I" ∈ goodTbl := gwt2 181 rfl rfl
set_option maxRecDepth 100000 in
theorem wd_493 : Cond.fieldLink RX5 181 "ReceiptRolls$Item" "many" "I" ∈ goodTbl := gwt2 182 rfl rfl
set_option maxRecDepth 100000 in
theorem wd_494 : Cond.fieldLink RX1 17 "ReceiptRolls$Item" "price" "I" ∈ goodTbl := gwt2 183 rfl rfl
set_option maxRecDepth 100000 in
theorem wd_495 : Cond.fieldLink RX5 184 "ReceiptRolls$Item" "price" "I" ∈ goodTbl := gwt2 184 rfl rfl
set_option maxRecDepth 100000 in
theorem wd_496 : Cond.fieldLink RX1 20 "ReceiptRolls$Item" "tax" "I" ∈ goodTbl := gwt2 185 rfl rfl
set_option maxRecDepth 100000 in
theorem wd_497 : Cond.fieldLink RX5 187 "ReceiptRolls$Item" "tax" "I" ∈ goodTbl := gwt2 186 rfl rfl
set_option maxRecDepth 100000 in
theorem wd_498 : Cond.fieldLink RX2 79 "ReceiptRolls$Item" "tax" "I" ∈ goodTbl := gwt2 187 rfl rfl
set_option maxRecDepth 100000 in
theorem wd_508 : Cond.methodLink RX5 82 yX2_addItem ∈ goodTbl := gwt2 197 rfl rfl
set_option maxRecDepth 100000 in
theorem wd_509 : Cond.instanceMethod yX2_addItem ∈ goodTbl := gwt2 198 rfl rfl
set_option maxRecDepth 100000 in
theorem wd_510 : Cond.selects RX2 yX2_addItem yX2_addItem ∈ goodTbl := gwt2 199 rfl rfl
set_option maxRecDepth 100000 in
theorem wd_511 : Cond.code yX2_addItem cX2_addItem 2 none ∈ goodTbl := gwt2 200 rfl rfl
set_option maxRecDepth 100000 in
theorem wd_512 : Cond.methodLink RX2 64 yX2_addEvent ∈ goodTbl := gwt2 201 rfl rfl
set_option maxRecDepth 100000 in
theorem wd_514 : Cond.instanceMethod yX2_addEvent ∈ goodTbl := gwt2 203 rfl rfl
set_option maxRecDepth 100000 in
theorem wd_515 : Cond.code yX2_addEvent cX2_addEvent 2 none ∈ goodTbl := gwt2 204 rfl rfl
set_option maxRecDepth 100000 in
theorem wd_516 : Cond.methodLink RX5 86 yJ4_setLength_d00df ∈ goodTbl := gwt2 205 rfl rfl
set_option maxRecDepth 100000 in
theorem wd_517 : Cond.instanceMethod yJ4_setLength_d00df ∈ goodTbl := gwt2 206 rfl rfl
set_option maxRecDepth 100000 in
theorem wd_518 : Cond.selects RJ4 yJ4_setLength_d00df yJ4_setLength_d00df ∈ goodTbl := gwt2 207 rfl rfl
set_option maxRecDepth 100000 in
theorem wd_519 : Cond.code yJ4_setLength_d00df cJ4_setLength_d00df 2 none ∈ goodTbl := gwt2 208 rfl rfl
set_option maxRecDepth 100000 in
theorem wd_520 : Cond.methodLink RJ4 333 yJ5_setLength_d00df ∈ goodTbl := gwt2 209 rfl rfl
set_option maxRecDepth 100000 in
theorem wd_521 : Cond.instanceMethod yJ5_setLength_d00df ∈ goodTbl := gwt2 210 rfl rfl
set_option maxRecDepth 100000 in
theorem wd_522 : Cond.code yJ5_setLength_d00df cJ5_setLength_d00df 2 none ∈ goodTbl := gwt2 211 rfl rfl
set_option maxRecDepth 100000 in
theorem wd_523 : Cond.methodLink RJ5 100 yJ5_ensureCapacityInternal_d00df ∈ goodTbl := gwt2 212 rfl rfl
set_option maxRecDepth 100000 in
theorem wd_525 : Cond.instanceMethod yJ5_ensureCapacityInternal_d00df ∈ goodTbl := gwt2 214 rfl rfl
set_option maxRecDepth 100000 in
theorem wd_526 : Cond.code yJ5_ensureCapacityInternal_d00df cJ5_ensureCapacityInternal_d00df 3 none ∈ goodTbl := gwt2 215 rfl rfl
set_option maxRecDepth 100000 in
theorem wd_527 : Cond.methodLink RJ5 104 yJ5_newCapacity_0f7a4 ∈ goodTbl := gwt2 216 rfl rfl
set_option maxRecDepth 100000 in
theorem wd_529 : Cond.instanceMethod yJ5_newCapacity_0f7a4 ∈ goodTbl := gwt2 218 rfl rfl
set_option maxRecDepth 100000 in
theorem wd_530 : Cond.code yJ5_newCapacity_0f7a4 cJ5_newCapacity_0f7a4 6 (some .int) ∈ goodTbl := gwt2 219 rfl rfl
set_option maxRecDepth 100000 in
theorem wd_531 : Cond.methodLink RJ5 114 yJ8_newLength_cabcc ∈ goodTbl := gwt2 220 rfl rfl
set_option maxRecDepth 100000 in
theorem wd_532 : Cond.static yJ8_newLength_cabcc ∈ goodTbl := gwt2 221 rfl rfl
set_option maxRecDepth 100000 in
theorem wd_533 : Cond.code yJ8_newLength_cabcc cJ8_newLength_cabcc 4 (some .int) ∈ goodTbl := gwt2 222 rfl rfl
set_option maxRecDepth 100000 in
theorem wd_534 : Cond.methodLink RJ8 194 Lib.Math.max.name ∈ goodTbl := gwt2 223 rfl rfl
set_option maxRecDepth 100000 in
theorem wd_537 : Cond.constant RJ8 200 (2147483639 : Int32) ∈ goodTbl := gwt2 226 rfl rfl
set_option maxRecDepth 100000 in
theorem wd_541 : Cond.constant RJ5 39 (2147483647 : Int32) ∈ goodTbl := gwt2 230 rfl rfl
set_option maxRecDepth 100000 in
theorem wd_542 : Cond.methodLink RJ5 108 yJ7_copyOf_9075b ∈ goodTbl := gwt2 231 rfl rfl
set_option maxRecDepth 100000 in
theorem wd_543 : Cond.static yJ7_copyOf_9075b ∈ goodTbl := gwt2 232 rfl rfl
set_option maxRecDepth 100000 in
theorem wd_544 : Cond.code yJ7_copyOf_9075b cJ7_copyOf_9075b 3 (some (.array .byte)) ∈ goodTbl := gwt2 233 rfl rfl
set_option maxRecDepth 100000 in
theorem wd_545 : Cond.methodLink RJ5 83 yJ5_isLatin1_aae02 ∈ goodTbl := gwt2 234 rfl rfl
set_option maxRecDepth 100000 in
theorem wd_546 : Cond.methodLink RJ5 133 yJ1_fillNull_b72d1 ∈ goodTbl := gwt2 235 rfl rfl
set_option maxRecDepth 100000 in
theorem wd_547 : Cond.static yJ1_fillNull_b72d1 ∈ goodTbl := gwt2 236 rfl rfl
set_option maxRecDepth 100000 in
theorem wd_548 : Cond.code yJ1_fillNull_b72d1 cJ1_fillNull_b72d1 3 none ∈ goodTbl := gwt2 237 rfl rfl
set_option maxRecDepth 100000 in
theorem wd_549 : Cond.methodLink RJ1 236 yJ7_fill_eb02e ∈ goodTbl := gwt2 238 rfl rfl
set_option maxRecDepth 100000 in
theorem wd_550 : Cond.static yJ7_fill_eb02e ∈ goodTbl := gwt2 239 rfl rfl
set_option maxRecDepth 100000 in
theorem wd_551 : Cond.code yJ7_fill_eb02e cJ7_fill_eb02e 5 none ∈ goodTbl := gwt3 0 rfl rfl
set_option maxRecDepth 100000 in
theorem wd_552 : Cond.methodLink RJ7 13 yJ7_rangeCheck_23922 ∈ goodTbl := gwt3 1 rfl rfl
set_option maxRecDepth 100000 in
theorem wd_553 : Cond.static yJ7_rangeCheck_23922 ∈ goodTbl := gwt3 2 rfl rfl
set_option maxRecDepth 100000 in
theorem wd_554 : Cond.code yJ7_rangeCheck_23922 cJ7_rangeCheck_23922 3 none ∈ goodTbl := gwt3 3 rfl rfl
set_option maxRecDepth 100000 in
theorem wd_559 : Cond.methodLink RL 23 yX5_strike ∈ goodTbl := gwt3 8 rfl rfl
set_option maxRecDepth 100000 in
theorem wd_560 : Cond.instanceMethod yX5_strike ∈ goodTbl := gwt3 9 rfl rfl
set_option maxRecDepth 100000 in
theorem wd_561 : Cond.selects RX5 yX5_strike yX5_strike ∈ goodTbl := gwt3 10 rfl rfl
set_option maxRecDepth 100000 in
theorem wd_562 : Cond.code yX5_strike cX5_strike 5 (some .int) ∈ goodTbl := gwt3 11 rfl rfl
set_option maxRecDepth 100000 in
theorem wd_563 : Cond.methodLink RX5 90 yX2_itemAt ∈ goodTbl := gwt3 12 rfl rfl
set_option maxRecDepth 100000 in
theorem wd_564 : Cond.instanceMethod yX2_itemAt ∈ goodTbl := gwt3 13 rfl rfl
set_option maxRecDepth 100000 in
theorem wd_565 : Cond.selects RX2 yX2_itemAt yX2_itemAt ∈ goodTbl := gwt3 14 rfl rfl
set_option maxRecDepth 100000 in
theorem wd_566 : Cond.code yX2_itemAt cX2_itemAt 2 (some (.object "ReceiptRolls$Item")) ∈ goodTbl := gwt3 15 rfl rfl
set_option maxRecDepth 100000 in
theorem wd_567 : Cond.methodLink RX5 94 yX2_isStruck ∈ goodTbl := gwt3 16 rfl rfl
set_option maxRecDepth 100000 in
theorem wd_568 : Cond.instanceMethod yX2_isStruck ∈ goodTbl := gwt3 17 rfl rfl
set_option maxRecDepth 100000 in
theorem wd_569 : Cond.selects RX2 yX2_isStruck yX2_isStruck ∈ goodTbl := gwt3 18 rfl rfl
set_option maxRecDepth 100000 in
theorem wd_570 : Cond.code yX2_isStruck cX2_isStruck 2 (some .boolean) ∈ goodTbl := gwt3 19 rfl rfl
set_option maxRecDepth 100000 in
theorem wd_571 : Cond.methodLink RX5 98 yX2_strikeItem ∈ goodTbl := gwt3 20 rfl rfl
set_option maxRecDepth 100000 in
theorem wd_572 : Cond.instanceMethod yX2_strikeItem ∈ goodTbl := gwt3 21 rfl rfl
set_option maxRecDepth 100000 in
theorem wd_573 : Cond.selects RX2 yX2_strikeItem yX2_strikeItem ∈ goodTbl := gwt3 22 rfl rfl
set_option maxRecDepth 100000 in
theorem wd_574 : Cond.code yX2_strikeItem cX2_strikeItem 2 none ∈ goodTbl := gwt3 23 rfl rfl
set_option maxRecDepth 100000 in
theorem wd_575 : Cond.methodLink RX5 104 yX1_sum ∈ goodTbl := gwt3 24 rfl rfl
set_option maxRecDepth 100000 in
theorem wd_576 : Cond.instanceMethod yX1_sum ∈ goodTbl := gwt3 25 rfl rfl
set_option maxRecDepth 100000 in
theorem wd_577 : Cond.selects RX1 yX1_sum yX1_sum ∈ goodTbl := gwt3 26 rfl rfl
set_option maxRecDepth 100000 in
theorem wd_578 : Cond.code yX1_sum cX1_sum 1 (some .int) ∈ goodTbl := gwt3 27 rfl rfl
set_option maxRecDepth 100000 in
theorem wd_579 : Cond.methodLink RL 27 yX5_close ∈ goodTbl := gwt3 28 rfl rfl
set_option maxRecDepth 100000 in
theorem wd_580 : Cond.instanceMethod yX5_close ∈ goodTbl := gwt3 29 rfl rfl
set_option maxRecDepth 100000 in
theorem wd_581 : Cond.selects RX5 yX5_close yX5_close ∈ goodTbl := gwt3 30 rfl rfl
set_option maxRecDepth 100000 in
theorem wd_582 : Cond.code yX5_close cX5_close 5 (some .int) ∈ goodTbl := gwt3 31 rfl rfl
set_option maxRecDepth 100000 in
theorem wd_583 : Cond.methodLink RX5 107 yX5_isPriority ∈ goodTbl := gwt3 32 rfl rfl
set_option maxRecDepth 100000 in
theorem wd_584 : Cond.static yX5_isPriority ∈ goodTbl := gwt3 33 rfl rfl
set_option maxRecDepth 100000 in
theorem wd_585 : Cond.code yX5_isPriority cX5_isPriority 1 (some .boolean) ∈ goodTbl := gwt3 34 rfl rfl
set_option maxRecDepth 100000 in
theorem wd_586 : Cond.methodLink RX5 110 yX4_freePlace ∈ goodTbl := gwt3 35 rfl rfl
set_option maxRecDepth 100000 in
theorem wd_587 : Cond.instanceMethod yX4_freePlace ∈ goodTbl := gwt3 36 rfl rfl
set_option maxRecDepth 100000 in
theorem wd_588 : Cond.selects RX4 yX4_freePlace yX4_freePlace ∈ goodTbl := gwt3 37 rfl rfl
set_option maxRecDepth 100000 in
theorem wd_589 : Cond.code yX4_freePlace cX4_freePlace 2 (some (.object "ReceiptRolls$Receipt")) ∈ goodTbl := gwt3 38 rfl rfl
set_option maxRecDepth 100000 in
theorem wd_590 : Cond.methodLink RX5 120 yX5_layLines ∈ goodTbl := gwt3 39 rfl rfl
set_option maxRecDepth 100000 in
theorem wd_592 : Cond.instanceMethod yX5_layLines ∈ goodTbl := gwt3 41 rfl rfl
set_option maxRecDepth 100000 in
theorem wd_593 : Cond.code yX5_layLines cX5_layLines 3 (some .int) ∈ goodTbl := gwt3 42 rfl rfl
set_option maxRecDepth 100000 in
theorem wd_594 : Cond.methodLink RX5 261 yX3_lay ∈ goodTbl := gwt3 43 rfl rfl
set_option maxRecDepth 100000 in
theorem wd_595 : Cond.instanceMethod yX3_lay ∈ goodTbl := gwt3 44 rfl rfl
set_option maxRecDepth 100000 in
theorem wd_596 : Cond.selects RX3 yX3_lay yX3_lay ∈ goodTbl := gwt3 45 rfl rfl
set_option maxRecDepth 100000 in
theorem wd_597 : Cond.code yX3_lay cX3_lay 8 (some .int) ∈ goodTbl := gwt3 46 rfl rfl
set_option maxRecDepth 100000 in
theorem wd_598 : Cond.methodLink RX3 15 yX3_begin ∈ goodTbl := gwt3 47 rfl rfl
set_option maxRecDepth 100000 in
theorem wd_600 : Cond.instanceMethod yX3_begin ∈ goodTbl := gwt3 49 rfl rfl
set_option maxRecDepth 100000 in
theorem wd_601 : Cond.code yX3_begin cX3_begin 4 none ∈ goodTbl := gwt3 50 rfl rfl
set_option maxRecDepth 100000 in
theorem wd_603 : Cond.methodLink RX3 21 yX3_addText ∈ goodTbl := gwt3 52 rfl rfl
set_option maxRecDepth 100000 in
theorem wd_605 : Cond.instanceMethod yX3_addText ∈ goodTbl := gwt3 54 rfl rfl
set_option maxRecDepth 100000 in
theorem wd_606 : Cond.code yX3_addText cX3_addText 3 none ∈ goodTbl := gwt3 55 rfl rfl
set_option maxRecDepth 100000 in
theorem wd_607 : Cond.methodLink RX3 107 yJ0_length_8abf5 ∈ goodTbl := gwt3 56 rfl rfl
set_option maxRecDepth 100000 in
theorem wd_608 : Cond.instanceMethod yJ0_length_8abf5 ∈ goodTbl := gwt3 57 rfl rfl
set_option maxRecDepth 100000 in
theorem wd_609 : Cond.selects RJ0 yJ0_length_8abf5 yJ0_length_8abf5 ∈ goodTbl := gwt3 58 rfl rfl
set_option maxRecDepth 100000 in
theorem wd_610 : Cond.code yJ0_length_8abf5 cJ0_length_8abf5 1 (some .int) ∈ goodTbl := gwt3 59 rfl rfl
set_option maxRecDepth 100000 in
theorem wd_611 : Cond.methodLink RJ0 335 yJ0_coder_7d493 ∈ goodTbl := gwt3 60 rfl rfl
set_option maxRecDepth 100000 in
theorem wd_612 : Cond.instanceMethod yJ0_coder_7d493 ∈ goodTbl := gwt3 61 rfl rfl
set_option maxRecDepth 100000 in
theorem wd_613 : Cond.selects RJ0 yJ0_coder_7d493 yJ0_coder_7d493 ∈ goodTbl := gwt3 62 rfl rfl
set_option maxRecDepth 100000 in
theorem wd_614 : Cond.code yJ0_coder_7d493 cJ0_coder_7d493 1 (some .byte) ∈ goodTbl := gwt3 63 rfl rfl
set_option maxRecDepth 100000 in
theorem wd_615 : Cond.methodLink RX3 112 yJ0_charAt_5068e ∈ goodTbl := gwt3 64 rfl rfl
set_option maxRecDepth 100000 in
theorem wd_616 : Cond.instanceMethod yJ0_charAt_5068e ∈ goodTbl := gwt3 65 rfl rfl
set_option maxRecDepth 100000 in
theorem wd_617 : Cond.selects RJ0 yJ0_charAt_5068e yJ0_charAt_5068e ∈ goodTbl := gwt3 66 rfl rfl
set_option maxRecDepth 100000 in
theorem wd_618 : Cond.code yJ0_charAt_5068e cJ0_charAt_5068e 2 (some .char) ∈ goodTbl := gwt3 67 rfl rfl
set_option maxRecDepth 100000 in
theorem wd_619 : Cond.methodLink RJ0 492 yJ0_isLatin1_aae02 ∈ goodTbl := gwt3 68 rfl rfl
set_option maxRecDepth 100000 in
theorem wd_620 : Cond.instanceMethod yJ0_isLatin1_aae02 ∈ goodTbl := gwt3 69 rfl rfl
set_option maxRecDepth 100000 in
theorem wd_621 : Cond.selects RJ0 yJ0_isLatin1_aae02 yJ0_isLatin1_aae02 ∈ goodTbl := gwt3 70 rfl rfl
set_option maxRecDepth 100000 in
theorem wd_622 : Cond.code yJ0_isLatin1_aae02 cJ0_isLatin1_aae02 1 (some .boolean) ∈ goodTbl := gwt3 71 rfl rfl
set_option maxRecDepth 100000 in
theorem wd_623 : Cond.methodLink RJ0 495 yJ1_charAt_3b067 ∈ goodTbl := gwt3 72 rfl rfl
set_option maxRecDepth 100000 in
theorem wd_624 : Cond.static yJ1_charAt_3b067 ∈ goodTbl := gwt3 73 rfl rfl
set_option maxRecDepth 100000 in
theorem wd_625 : Cond.code yJ1_charAt_3b067 cJ1_charAt_3b067 2 (some .char) ∈ goodTbl := gwt3 74 rfl rfl
set_option maxRecDepth 100000 in
theorem wd_626 : Cond.methodLink RJ1 9 yJ0_checkIndex_df160 ∈ goodTbl := gwt3 75 rfl rfl
set_option maxRecDepth 100000 in
theorem wd_634 : Cond.methodLink RX3 99 yX3_addSign ∈ goodTbl := gwt3 83 rfl rfl
set_option maxRecDepth 100000 in
theorem wd_636 : Cond.instanceMethod yX3_addSign ∈ goodTbl := gwt3 85 rfl rfl
set_option maxRecDepth 100000 in
theorem wd_637 : Cond.code yX3_addSign cX3_addSign 2 none ∈ goodTbl := gwt3 86 rfl rfl
set_option maxRecDepth 100000 in
theorem wd_638 : Cond.methodLink RX3 25 yX3_addNumber ∈ goodTbl := gwt3 87 rfl rfl
set_option maxRecDepth 100000 in
theorem wd_640 : Cond.instanceMethod yX3_addNumber ∈ goodTbl := gwt3 89 rfl rfl
set_option maxRecDepth 100000 in
theorem wd_641 : Cond.code yX3_addNumber cX3_addNumber 3 none ∈ goodTbl := gwt3 90 rfl rfl
set_option maxRecDepth 100000 in
theorem wd_642 : Cond.constant RX3 125 (1000000000 : Int32) ∈ goodTbl := gwt3 91 rfl rfl
set_option maxRecDepth 100000 in
theorem wd_643 : Cond.methodLink RX3 29 yX3_endLine ∈ goodTbl := gwt3 92 rfl rfl
set_option maxRecDepth 100000 in
theorem wd_645 : Cond.instanceMethod yX3_endLine ∈ goodTbl := gwt3 94 rfl rfl
set_option maxRecDepth 100000 in
theorem wd_646 : Cond.code yX3_endLine cX3_endLine 1 none ∈ goodTbl := gwt3 95 rfl rfl
set_option maxRecDepth 100000 in
theorem wd_647 : Cond.methodLink RX3 42 yX2_itemAt ∈ goodTbl := gwt3 96 rfl rfl
set_option maxRecDepth 100000 in
theorem wd_648 : Cond.methodLink RX3 46 yX3_layItem ∈ goodTbl := gwt3 97 rfl rfl
set_option maxRecDepth 100000 in
theorem wd_650 : Cond.instanceMethod yX3_layItem ∈ goodTbl := gwt3 99 rfl rfl
set_option maxRecDepth 100000 in
theorem wd_651 : Cond.code yX3_layItem cX3_layItem 5 none ∈ goodTbl := gwt3 100 rfl rfl
set_option maxRecDepth 100000 in
theorem wd_652 : Cond.methodLink RX3 116 yX3_layWord ∈ goodTbl := gwt3 101 rfl rfl
set_option maxRecDepth 100000 in
theorem wd_654 : Cond.instanceMethod yX3_layWord ∈ goodTbl := gwt3 103 rfl rfl
set_option maxRecDepth 100000 in
theorem wd_655 : Cond.code yX3_layWord cX3_layWord 7 none ∈ goodTbl := gwt3 104 rfl rfl
set_option maxRecDepth 100000 in
theorem wd_656 : Cond.methodLink RX3 119 Lib.Math.max.name ∈ goodTbl := gwt3 105 rfl rfl
set_option maxRecDepth 100000 in
theorem wd_657 : Cond.methodLink RX3 52 yX1_sum ∈ goodTbl := gwt3 106 rfl rfl
set_option maxRecDepth 100000 in
theorem wd_658 : Cond.methodLink RX3 66 yX3_addMoney ∈ goodTbl := gwt3 107 rfl rfl
set_option maxRecDepth 100000 in
theorem wd_660 : Cond.instanceMethod yX3_addMoney ∈ goodTbl := gwt3 109 rfl rfl
set_option maxRecDepth 100000 in
theorem wd_661 : Cond.code yX3_addMoney cX3_addMoney 4 none ∈ goodTbl := gwt3 110 rfl rfl
set_option maxRecDepth 100000 in
theorem wd_662 : Cond.methodLink RX3 126 Lib.Math.abs.name ∈ goodTbl := gwt3 111 rfl rfl
set_option maxRecDepth 100000 in
theorem wd_665 : Cond.methodLink RX3 129 yX3_digitsOf ∈ goodTbl := gwt3 114 rfl rfl
set_option maxRecDepth 100000 in
theorem wd_666 : Cond.static yX3_digitsOf ∈ goodTbl := gwt3 115 rfl rfl
set_option maxRecDepth 100000 in
theorem wd_667 : Cond.code yX3_digitsOf cX3_digitsOf 3 (some .int) ∈ goodTbl := gwt3 116 rfl rfl
set_option maxRecDepth 100000 in
theorem wd_669 : Cond.methodLink RX3 58 yX3_layTold ∈ goodTbl := gwt3 118 rfl rfl
set_option maxRecDepth 100000 in
theorem wd_671 : Cond.instanceMethod yX3_layTold ∈ goodTbl := gwt3 120 rfl rfl
set_option maxRecDepth 100000 in
theorem wd_672 : Cond.code yX3_layTold cX3_layTold 4 none ∈ goodTbl := gwt3 121 rfl rfl
set_option maxRecDepth 100000 in
theorem wd_674 : Cond.methodLink RX3 63 yX2_total ∈ goodTbl := gwt3 123 rfl rfl
set_option maxRecDepth 100000 in
theorem wd_675 : Cond.instanceMethod yX2_total ∈ goodTbl := gwt3 124 rfl rfl
set_option maxRecDepth 100000 in
theorem wd_676 : Cond.selects RX2 yX2_total yX2_total ∈ goodTbl := gwt3 125 rfl rfl
set_option maxRecDepth 100000 in
theorem wd_677 : Cond.code yX2_total cX2_total 1 (some .int) ∈ goodTbl := gwt3 126 rfl rfl
set_option maxRecDepth 100000 in
theorem wd_678 : Cond.methodLink RX2 68 yX2_totalWithout ∈ goodTbl := gwt3 127 rfl rfl
set_option maxRecDepth 100000 in
theorem wd_679 : Cond.instanceMethod yX2_totalWithout ∈ goodTbl := gwt3 128 rfl rfl
set_option maxRecDepth 100000 in
theorem wd_680 : Cond.selects RX2 yX2_totalWithout yX2_totalWithout ∈ goodTbl := gwt3 129 rfl rfl
set_option maxRecDepth 100000 in
theorem wd_681 : Cond.code yX2_totalWithout cX2_totalWithout 5 (some .int) ∈ goodTbl := gwt3 130 rfl rfl
set_option maxRecDepth 100000 in
theorem wd_682 : Cond.methodLink RX2 71 yX2_itemAt ∈ goodTbl := gwt3 131 rfl rfl
set_option maxRecDepth 100000 in
theorem wd_683 : Cond.methodLink RX2 75 yX1_sum ∈ goodTbl := gwt3 132 rfl rfl
set_option maxRecDepth 100000 in
theorem wd_685 : Cond.methodLink RX3 72 yX2_sumTaxed ∈ goodTbl := gwt3 134 rfl rfl
set_option maxRecDepth 100000 in
theorem wd_686 : Cond.instanceMethod yX2_sumTaxed ∈ goodTbl := gwt3 135 rfl rfl
set_option maxRecDepth 100000 in
theorem wd_687 : Cond.selects RX2 yX2_sumTaxed yX2_sumTaxed ∈ goodTbl := gwt3 136 rfl rfl
set_option maxRecDepth 100000 in
theorem wd_688 : Cond.code yX2_sumTaxed cX2_sumTaxed 5 (some .int) ∈ goodTbl := gwt3 137 rfl rfl
set_option maxRecDepth 100000 in
theorem wd_689 : Cond.methodLink RX2 82 yX2_isStruck ∈ goodTbl := gwt3 138 rfl rfl
set_option maxRecDepth 100000 in
theorem wd_691 : Cond.methodLink RX3 78 yX2_taxOf ∈ goodTbl := gwt3 140 rfl rfl
set_option maxRecDepth 100000 in
theorem wd_692 : Cond.instanceMethod yX2_taxOf ∈ goodTbl := gwt3 141 rfl rfl
set_option maxRecDepth 100000 in
theorem wd_693 : Cond.selects RX2 yX2_taxOf yX2_taxOf ∈ goodTbl := gwt3 142 rfl rfl
set_option maxRecDepth 100000 in
theorem wd_694 : Cond.code yX2_taxOf cX2_taxOf 4 (some .int) ∈ goodTbl := gwt3 143 rfl rfl
set_option maxRecDepth 100000 in
theorem wd_696 : Cond.methodLink RX2 89 yX2_sumTaxed ∈ goodTbl := gwt3 145 rfl rfl
set_option maxRecDepth 100000 in
theorem wd_697 : Cond.methodLink RX5 156 yX4_settingAt ∈ goodTbl := gwt3 146 rfl rfl
set_option maxRecDepth 100000 in
theorem wd_698 : Cond.methodLink RX5 124 yX2_copyFrom ∈ goodTbl := gwt3 147 rfl rfl
set_option maxRecDepth 100000 in
theorem wd_699 : Cond.methodLink RX5 134 yX2_closeAs ∈ goodTbl := gwt3 148 rfl rfl
set_option maxRecDepth 100000 in
theorem wd_700 : Cond.instanceMethod yX2_closeAs ∈ goodTbl := gwt3 149 rfl rfl
set_option maxRecDepth 100000 in
theorem wd_701 : Cond.selects RX2 yX2_closeAs yX2_closeAs ∈ goodTbl := gwt3 150 rfl rfl
set_option maxRecDepth 100000 in
theorem wd_702 : Cond.code yX2_closeAs cX2_closeAs 6 none ∈ goodTbl := gwt3 151 rfl rfl
set_option maxRecDepth 100000 in
theorem wd_703 : Cond.methodLink RX5 138 yX2_clear ∈ goodTbl := gwt3 152 rfl rfl
set_option maxRecDepth 100000 in
theorem wd_704 : Cond.instanceMethod yX2_clear ∈ goodTbl := gwt3 153 rfl rfl
set_option maxRecDepth 100000 in
theorem wd_705 : Cond.selects RX2 yX2_clear yX2_clear ∈ goodTbl := gwt3 154 rfl rfl
set_option maxRecDepth 100000 in
theorem wd_706 : Cond.code yX2_clear cX2_clear 1 none ∈ goodTbl := gwt3 155 rfl rfl
set_option maxRecDepth 100000 in
theorem wd_707 : Cond.methodLink RL 31 yX5_hurry ∈ goodTbl := gwt3 156 rfl rfl
set_option maxRecDepth 100000 in
theorem wd_708 : Cond.instanceMethod yX5_hurry ∈ goodTbl := gwt3 157 rfl rfl
set_option maxRecDepth 100000 in
theorem wd_709 : Cond.selects RX5 yX5_hurry yX5_hurry ∈ goodTbl := gwt3 158 rfl rfl
set_option maxRecDepth 100000 in
theorem wd_710 : Cond.code yX5_hurry cX5_hurry 5 (some .int) ∈ goodTbl := gwt3 159 rfl rfl
set_option maxRecDepth 100000 in
theorem wd_711 : Cond.methodLink RX5 141 yX4_known ∈ goodTbl := gwt3 160 rfl rfl
set_option maxRecDepth 100000 in
theorem wd_712 : Cond.instanceMethod yX4_known ∈ goodTbl := gwt3 161 rfl rfl
set_option maxRecDepth 100000 in
theorem wd_713 : Cond.selects RX4 yX4_known yX4_known ∈ goodTbl := gwt3 162 rfl rfl
set_option maxRecDepth 100000 in
theorem wd_714 : Cond.code yX4_known cX4_known 4 (some (.object "ReceiptRolls$Receipt")) ∈ goodTbl := gwt3 163 rfl rfl
set_option maxRecDepth 100000 in
theorem wd_715 : Cond.methodLink RX4 71 yX4_places ∈ goodTbl := gwt3 164 rfl rfl
set_option maxRecDepth 100000 in
theorem wd_716 : Cond.instanceMethod yX4_places ∈ goodTbl := gwt3 165 rfl rfl
set_option maxRecDepth 100000 in
theorem wd_717 : Cond.selects RX4 yX4_places yX4_places ∈ goodTbl := gwt3 166 rfl rfl
set_option maxRecDepth 100000 in
theorem wd_718 : Cond.code yX4_places cX4_places 1 (some .int) ∈ goodTbl := gwt3 167 rfl rfl
set_option maxRecDepth 100000 in
theorem wd_719 : Cond.methodLink RX4 75 yX4_placeAt ∈ goodTbl := gwt3 168 rfl rfl
set_option maxRecDepth 100000 in
theorem wd_720 : Cond.instanceMethod yX4_placeAt ∈ goodTbl := gwt3 169 rfl rfl
set_option maxRecDepth 100000 in
theorem wd_721 : Cond.selects RX4 yX4_placeAt yX4_placeAt ∈ goodTbl := gwt3 170 rfl rfl
set_option maxRecDepth 100000 in
theorem wd_722 : Cond.code yX4_placeAt cX4_placeAt 3 (some (.object "ReceiptRolls$Receipt")) ∈ goodTbl := gwt3 171 rfl rfl
set_option maxRecDepth 100000 in
theorem wd_723 : Cond.methodLink RL 35 yX5_newRoll ∈ goodTbl := gwt3 172 rfl rfl
set_option maxRecDepth 100000 in
theorem wd_724 : Cond.instanceMethod yX5_newRoll ∈ goodTbl := gwt3 173 rfl rfl
set_option maxRecDepth 100000 in
theorem wd_725 : Cond.selects RX5 yX5_newRoll yX5_newRoll ∈ goodTbl := gwt3 174 rfl rfl
set_option maxRecDepth 100000 in
theorem wd_726 : Cond.code yX5_newRoll cX5_newRoll 2 (some .int) ∈ goodTbl := gwt3 175 rfl rfl
set_option maxRecDepth 100000 in
theorem wd_727 : Cond.methodLink RL 40 yX5_tear ∈ goodTbl := gwt3 176 rfl rfl
set_option maxRecDepth 100000 in
theorem wd_728 : Cond.instanceMethod yX5_tear ∈ goodTbl := gwt3 177 rfl rfl
set_option maxRecDepth 100000 in
theorem wd_729 : Cond.selects RX5 yX5_tear yX5_tear ∈ goodTbl := gwt3 178 rfl rfl
set_option maxRecDepth 100000 in
theorem wd_730 : Cond.code yX5_tear cX5_tear 4 (some .int) ∈ goodTbl := gwt3 179 rfl rfl
set_option maxRecDepth 100000 in
theorem wd_731 : Cond.methodLink RL 45 yX5_pass ∈ goodTbl := gwt3 180 rfl rfl
set_option maxRecDepth 100000 in
theorem wd_732 : Cond.instanceMethod yX5_pass ∈ goodTbl := gwt3 181 rfl rfl
set_option maxRecDepth 100000 in
theorem wd_733 : Cond.selects RX5 yX5_pass yX5_pass ∈ goodTbl := gwt3 182 rfl rfl
set_option maxRecDepth 100000 in
theorem wd_734 : Cond.code yX5_pass cX5_pass 4 (some .int) ∈ goodTbl := gwt3 183 rfl rfl
set_option maxRecDepth 100000 in
theorem wd_735 : Cond.methodLink RX5 178 yX4_tick ∈ goodTbl := gwt3 184 rfl rfl
set_option maxRecDepth 100000 in
theorem wd_736 : Cond.instanceMethod yX4_tick ∈ goodTbl := gwt3 185 rfl rfl
set_option maxRecDepth 100000 in
theorem wd_737 : Cond.selects RX4 yX4_tick yX4_tick ∈ goodTbl := gwt3 186 rfl rfl
set_option maxRecDepth 100000 in
theorem wd_738 : Cond.code yX4_tick cX4_tick 2 (some .int) ∈ goodTbl := gwt3 187 rfl rfl
set_option maxRecDepth 100000 in
theorem wd_739 : Cond.methodLink RX4 90 yX4_printLine ∈ goodTbl := gwt3 188 rfl rfl
set_option maxRecDepth 100000 in
theorem wd_741 : Cond.instanceMethod yX4_printLine ∈ goodTbl := gwt3 190 rfl rfl
set_option maxRecDepth 100000 in
theorem wd_742 : Cond.code yX4_printLine cX4_printLine 2 (some .boolean) ∈ goodTbl := gwt3 191 rfl rfl
set_option maxRecDepth 100000 in
theorem wd_743 : Cond.methodLink RX4 94 yX4_takeReceipt ∈ goodTbl := gwt3 192 rfl rfl
set_option maxRecDepth 100000 in
theorem wd_745 : Cond.instanceMethod yX4_takeReceipt ∈ goodTbl := gwt3 194 rfl rfl
set_option maxRecDepth 100000 in
theorem wd_746 : Cond.code yX4_takeReceipt cX4_takeReceipt 2 (some (.object "ReceiptRolls$Receipt")) ∈ goodTbl := gwt3 195 rfl rfl
set_option maxRecDepth 100000 in
theorem wd_747 : Cond.methodLink RX4 107 yX4_known ∈ goodTbl := gwt3 196 rfl rfl
set_option maxRecDepth 100000 in
theorem wd_748 : Cond.methodLink RX4 110 yX4_waitingAt ∈ goodTbl := gwt3 197 rfl rfl
set_option maxRecDepth 100000 in
theorem wd_749 : Cond.instanceMethod yX4_waitingAt ∈ goodTbl := gwt3 198 rfl rfl
set_option maxRecDepth 100000 in
theorem wd_750 : Cond.selects RX4 yX4_waitingAt yX4_waitingAt ∈ goodTbl := gwt3 199 rfl rfl
set_option maxRecDepth 100000 in
theorem wd_751 : Cond.code yX4_waitingAt cX4_waitingAt 4 (some (.object "ReceiptRolls$Receipt")) ∈ goodTbl := gwt3 200 rfl rfl
set_option maxRecDepth 100000 in
theorem wd_752 : Cond.methodLink RX4 82 yX4_waitingAheadOf ∈ goodTbl := gwt3 201 rfl rfl
set_option maxRecDepth 100000 in
theorem wd_754 : Cond.instanceMethod yX4_waitingAheadOf ∈ goodTbl := gwt3 203 rfl rfl
set_option maxRecDepth 100000 in
theorem wd_755 : Cond.code yX4_waitingAheadOf cX4_waitingAheadOf 5 (some .int) ∈ goodTbl := gwt3 204 rfl rfl
set_option maxRecDepth 100000 in
theorem wd_756 : Cond.methodLink RX4 86 yX2_isAheadOf ∈ goodTbl := gwt3 205 rfl rfl
set_option maxRecDepth 100000 in
theorem wd_757 : Cond.instanceMethod yX2_isAheadOf ∈ goodTbl := gwt3 206 rfl rfl
set_option maxRecDepth 100000 in
theorem wd_758 : Cond.selects RX2 yX2_isAheadOf yX2_isAheadOf ∈ goodTbl := gwt3 207 rfl rfl
set_option maxRecDepth 100000 in
theorem wd_759 : Cond.code yX2_isAheadOf cX2_isAheadOf 2 (some .boolean) ∈ goodTbl := gwt3 208 rfl rfl
set_option maxRecDepth 100000 in
theorem wd_760 : Cond.methodLink RX4 104 yX4_finish ∈ goodTbl := gwt3 209 rfl rfl
set_option maxRecDepth 100000 in
theorem wd_762 : Cond.instanceMethod yX4_finish ∈ goodTbl := gwt3 211 rfl rfl
set_option maxRecDepth 100000 in
theorem wd_763 : Cond.code yX4_finish cX4_finish 4 none ∈ goodTbl := gwt3 212 rfl rfl
set_option maxRecDepth 100000 in
theorem wd_764 : Cond.methodLink RX4 119 yX2_clear ∈ goodTbl := gwt3 213 rfl rfl
set_option maxRecDepth 100000 in
theorem wd_765 : Cond.methodLink RL 49 yX5_item ∈ goodTbl := gwt3 214 rfl rfl
set_option maxRecDepth 100000 in
theorem wd_766 : Cond.instanceMethod yX5_item ∈ goodTbl := gwt3 215 rfl rfl
set_option maxRecDepth 100000 in
theorem wd_767 : Cond.selects RX5 yX5_item yX5_item ∈ goodTbl := gwt3 216 rfl rfl
set_option maxRecDepth 100000 in
theorem wd_768 : Cond.code yX5_item cX5_item 6 (some .int) ∈ goodTbl := gwt3 217 rfl rfl
set_option maxRecDepth 100000 in
theorem wd_769 : Cond.methodLink RX5 190 yX3_linesOfItem ∈ goodTbl := gwt3 218 rfl rfl
set_option maxRecDepth 100000 in
theorem wd_770 : Cond.instanceMethod yX3_linesOfItem ∈ goodTbl := gwt3 219 rfl rfl
set_option maxRecDepth 100000 in
theorem wd_771 : Cond.selects RX3 yX3_linesOfItem yX3_linesOfItem ∈ goodTbl := gwt3 220 rfl rfl
set_option maxRecDepth 100000 in
theorem wd_772 : Cond.code yX3_linesOfItem cX3_linesOfItem 3 (some .int) ∈ goodTbl := gwt3 221 rfl rfl
set_option maxRecDepth 100000 in
theorem wd_773 : Cond.methodLink RX5 198 yJ0_length_8abf5 ∈ goodTbl := gwt3 222 rfl rfl
set_option maxRecDepth 100000 in
theorem wd_774 : Cond.methodLink RL 54 yX5_ofTill ∈ goodTbl := gwt3 223 rfl rfl
set_option maxRecDepth 100000 in
theorem wd_775 : Cond.instanceMethod yX5_ofTill ∈ goodTbl := gwt3 224 rfl rfl
set_option maxRecDepth 100000 in
theorem wd_776 : Cond.selects RX5 yX5_ofTill yX5_ofTill ∈ goodTbl := gwt3 225 rfl rfl
set_option maxRecDepth 100000 in
theorem wd_777 : Cond.code yX5_ofTill cX5_ofTill 4 (some .int) ∈ goodTbl := gwt3 226 rfl rfl
set_option maxRecDepth 100000 in
theorem wd_778 : Cond.methodLink RX5 203 yX2_itemsStruck ∈ goodTbl := gwt3 227 rfl rfl
set_option maxRecDepth 100000 in
theorem wd_779 : Cond.instanceMethod yX2_itemsStruck ∈ goodTbl := gwt3 228 rfl rfl
set_option maxRecDepth 100000 in
theorem wd_780 : Cond.selects RX2 yX2_itemsStruck yX2_itemsStruck ∈ goodTbl := gwt3 229 rfl rfl
set_option maxRecDepth 100000 in
theorem wd_781 : Cond.code yX2_itemsStruck cX2_itemsStruck 1 (some .int) ∈ goodTbl := gwt3 230 rfl rfl
set_option maxRecDepth 100000 in
theorem wd_782 : Cond.methodLink RX2 58 yJ6_bitCount_0f7a4 ∈ goodTbl := gwt3 231 rfl rfl
set_option maxRecDepth 100000 in
theorem wd_783 : Cond.static yJ6_bitCount_0f7a4 ∈ goodTbl := gwt3 232 rfl rfl
set_option maxRecDepth 100000 in
theorem wd_784 : Cond.code yJ6_bitCount_0f7a4 cJ6_bitCount_0f7a4 1 (some .int) ∈ goodTbl := gwt3 233 rfl rfl
set_option maxRecDepth 100000 in
theorem wd_785 : Cond.constant RJ6 265 (1431655765 : Int32) ∈ goodTbl := gwt3 234 rfl rfl
set_option maxRecDepth 100000 in
theorem wd_786 : Cond.constant RJ6 266 (858993459 : Int32) ∈ goodTbl := gwt3 235 rfl rfl
set_option maxRecDepth 100000 in
theorem wd_787 : Cond.constant RJ6 267 (252645135 : Int32) ∈ goodTbl := gwt3 236 rfl rfl
set_option maxRecDepth 100000 in
theorem wd_788 : Cond.methodLink RX5 205 yX2_total ∈ goodTbl := gwt3 237 rfl rfl
set_option maxRecDepth 100000 in
theorem wd_789 : Cond.methodLink RX5 208 yX2_taxOf ∈ goodTbl := gwt3 238 rfl rfl
set_option maxRecDepth 100000 in
theorem wd_790 : Cond.methodLink RL 58 yX5_ofReceipt ∈ goodTbl := gwt3 239 rfl rfl
set_option maxRecDepth 100000 in
theorem wd_791 : Cond.instanceMethod yX5_ofReceipt ∈ goodTbl := gwt4 0 rfl rfl
set_option maxRecDepth 100000 in
theorem wd_792 : Cond.selects RX5 yX5_ofReceipt yX5_ofReceipt ∈ goodTbl := gwt4 1 rfl rfl
set_option maxRecDepth 100000 in
theorem wd_793 : Cond.code yX5_ofReceipt cX5_ofReceipt 4 (some .int) ∈ goodTbl := gwt4 2 rfl rfl
set_option maxRecDepth 100000 in
theorem wd_794 : Cond.methodLink RL 62 yX5_sign ∈ goodTbl := gwt4 3 rfl rfl
set_option maxRecDepth 100000 in
theorem wd_795 : Cond.instanceMethod yX5_sign ∈ goodTbl := gwt4 4 rfl rfl
set_option maxRecDepth 100000 in
theorem wd_796 : Cond.selects RX5 yX5_sign yX5_sign ∈ goodTbl := gwt4 5 rfl rfl
set_option maxRecDepth 100000 in
theorem wd_797 : Cond.code yX5_sign cX5_sign 6 (some .int) ∈ goodTbl := gwt4 6 rfl rfl
set_option maxRecDepth 100000 in
theorem wd_798 : Cond.methodLink RX5 221 yX3_signAt ∈ goodTbl := gwt4 7 rfl rfl
set_option maxRecDepth 100000 in
theorem wd_799 : Cond.instanceMethod yX3_signAt ∈ goodTbl := gwt4 8 rfl rfl
set_option maxRecDepth 100000 in
theorem wd_800 : Cond.selects RX3 yX3_signAt yX3_signAt ∈ goodTbl := gwt4 9 rfl rfl
set_option maxRecDepth 100000 in
theorem wd_801 : Cond.code yX3_signAt cX3_signAt 2 (some .int) ∈ goodTbl := gwt4 10 rfl rfl
set_option maxRecDepth 100000 in
theorem wd_802 : Cond.methodLink RL 66 yX5_waiting ∈ goodTbl := gwt4 11 rfl rfl
set_option maxRecDepth 100000 in
theorem wd_803 : Cond.instanceMethod yX5_waiting ∈ goodTbl := gwt4 12 rfl rfl
set_option maxRecDepth 100000 in
theorem wd_804 : Cond.selects RX5 yX5_waiting yX5_waiting ∈ goodTbl := gwt4 13 rfl rfl
set_option maxRecDepth 100000 in
theorem wd_805 : Cond.code yX5_waiting cX5_waiting 3 (some .int) ∈ goodTbl := gwt4 14 rfl rfl
set_option maxRecDepth 100000 in
theorem wd_806 : Cond.methodLink RX5 224 yX4_waitingAt ∈ goodTbl := gwt4 15 rfl rfl
set_option maxRecDepth 100000 in
theorem wd_807 : Cond.methodLink RL 70 yX5_printer ∈ goodTbl := gwt4 16 rfl rfl
set_option maxRecDepth 100000 in
theorem wd_808 : Cond.instanceMethod yX5_printer ∈ goodTbl := gwt4 17 rfl rfl
set_option maxRecDepth 100000 in
theorem wd_809 : Cond.selects RX5 yX5_printer yX5_printer ∈ goodTbl := gwt4 18 rfl rfl
set_option maxRecDepth 100000 in
theorem wd_810 : Cond.code yX5_printer cX5_printer 2 (some .int) ∈ goodTbl := gwt4 19 rfl rfl
set_option maxRecDepth 100000 in
theorem wd_811 : Cond.methodLink RL 74 yX5_count ∈ goodTbl := gwt4 20 rfl rfl
set_option maxRecDepth 100000 in
theorem wd_812 : Cond.instanceMethod yX5_count ∈ goodTbl := gwt4 21 rfl rfl
set_option maxRecDepth 100000 in
theorem wd_813 : Cond.selects RX5 yX5_count yX5_count ∈ goodTbl := gwt4 22 rfl rfl
set_option maxRecDepth 100000 in
theorem wd_814 : Cond.code yX5_count cX5_count 2 (some .int) ∈ goodTbl := gwt4 23 rfl rfl
set_option maxRecDepth 100000 in
theorem wd_815 : Cond.methodLink RX5 233 yX4_receiptsWaiting ∈ goodTbl := gwt4 24 rfl rfl
set_option maxRecDepth 100000 in
theorem wd_816 : Cond.instanceMethod yX4_receiptsWaiting ∈ goodTbl := gwt4 25 rfl rfl
set_option maxRecDepth 100000 in
theorem wd_817 : Cond.selects RX4 yX4_receiptsWaiting yX4_receiptsWaiting ∈ goodTbl := gwt4 26 rfl rfl
set_option maxRecDepth 100000 in
theorem wd_818 : Cond.code yX4_receiptsWaiting cX4_receiptsWaiting 4 (some .int) ∈ goodTbl := gwt4 27 rfl rfl
set_option maxRecDepth 100000 in
theorem wd_819 : Cond.methodLink RL 78 yX5_between ∈ goodTbl := gwt4 28 rfl rfl
set_option maxRecDepth 100000 in
theorem wd_820 : Cond.instanceMethod yX5_between ∈ goodTbl := gwt4 29 rfl rfl
set_option maxRecDepth 100000 in
theorem wd_821 : Cond.selects RX5 yX5_between yX5_between ∈ goodTbl := gwt4 30 rfl rfl
set_option maxRecDepth 100000 in
theorem wd_822 : Cond.code yX5_between cX5_between 10 (some .int) ∈ goodTbl := gwt4 31 rfl rfl
set_option maxRecDepth 100000 in
theorem wd_823 : Cond.methodLink RX5 240 yX4_places ∈ goodTbl := gwt4 32 rfl rfl
set_option maxRecDepth 100000 in
theorem wd_824 : Cond.methodLink RX5 243 yX4_placeAt ∈ goodTbl := gwt4 33 rfl rfl
set_option maxRecDepth 100000 in
theorem wd_825 : Cond.methodLink RX5 246 Lib.Math.max.name ∈ goodTbl := gwt4 34 rfl rfl
set_option maxRecDepth 100000 in
theorem wd_826 : Cond.methodLink RL 82 yX5_doneIn ∈ goodTbl := gwt4 35 rfl rfl
set_option maxRecDepth 100000 in
theorem wd_827 : Cond.instanceMethod yX5_doneIn ∈ goodTbl := gwt4 36 rfl rfl
set_option maxRecDepth 100000 in
theorem wd_828 : Cond.selects RX5 yX5_doneIn yX5_doneIn ∈ goodTbl := gwt4 37 rfl rfl
set_option maxRecDepth 100000 in
theorem wd_829 : Cond.code yX5_doneIn cX5_doneIn 4 (some .int) ∈ goodTbl := gwt4 38 rfl rfl
set_option maxRecDepth 100000 in
theorem wd_830 : Cond.methodLink RX5 251 yX4_linesUntilDone ∈ goodTbl := gwt4 39 rfl rfl
set_option maxRecDepth 100000 in
theorem wd_831 : Cond.instanceMethod yX4_linesUntilDone ∈ goodTbl := gwt4 40 rfl rfl
set_option maxRecDepth 100000 in
theorem wd_832 : Cond.selects RX4 yX4_linesUntilDone yX4_linesUntilDone ∈ goodTbl := gwt4 41 rfl rfl
set_option maxRecDepth 100000 in
theorem wd_833 : Cond.code yX4_linesUntilDone cX4_linesUntilDone 5 (some .int) ∈ goodTbl := gwt4 42 rfl rfl
set_option maxRecDepth 100000 in
theorem wd_834 : Cond.methodLink RX4 122 yX2_linesToPrint ∈ goodTbl := gwt4 43 rfl rfl
set_option maxRecDepth 100000 in
theorem wd_835 : Cond.instanceMethod yX2_linesToPrint ∈ goodTbl := gwt4 44 rfl rfl
set_option maxRecDepth 100000 in
theorem wd_836 : Cond.selects RX2 yX2_linesToPrint yX2_linesToPrint ∈ goodTbl := gwt4 45 rfl rfl
set_option maxRecDepth 100000 in
theorem wd_837 : Cond.code yX2_linesToPrint cX2_linesToPrint 1 (some .int) ∈ goodTbl := gwt4 46 rfl rfl
set_option maxRecDepth 100000 in
theorem wd_838 : Cond.methodLink RX5 255 yX4_ticksFor ∈ goodTbl := gwt4 47 rfl rfl
set_option maxRecDepth 100000 in
theorem wd_839 : Cond.instanceMethod yX4_ticksFor ∈ goodTbl := gwt4 48 rfl rfl
set_option maxRecDepth 100000 in
theorem wd_840 : Cond.selects RX4 yX4_ticksFor yX4_ticksFor ∈ goodTbl := gwt4 49 rfl rfl
set_option maxRecDepth 100000 in
theorem wd_841 : Cond.code yX4_ticksFor cX4_ticksFor 3 (some .int) ∈ goodTbl := gwt4 50 rfl rfl
set_option maxRecDepth 100000 in
theorem wd_842 : Cond.methodLink RL 86 yX5_linesLeft ∈ goodTbl := gwt4 51 rfl rfl
set_option maxRecDepth 100000 in
theorem wd_843 : Cond.instanceMethod yX5_linesLeft ∈ goodTbl := gwt4 52 rfl rfl
set_option maxRecDepth 100000 in
theorem wd_844 : Cond.selects RX5 yX5_linesLeft yX5_linesLeft ∈ goodTbl := gwt4 53 rfl rfl
set_option maxRecDepth 100000 in
theorem wd_845 : Cond.code yX5_linesLeft cX5_linesLeft 1 (some .int) ∈ goodTbl := gwt4 54 rfl rfl
set_option maxRecDepth 100000 in
theorem wd_846 : Cond.methodLink RX5 258 yX4_linesToPrint ∈ goodTbl := gwt4 55 rfl rfl
set_option maxRecDepth 100000 in
theorem wd_847 : Cond.instanceMethod yX4_linesToPrint ∈ goodTbl := gwt4 56 rfl rfl
set_option maxRecDepth 100000 in
theorem wd_848 : Cond.selects RX4 yX4_linesToPrint yX4_linesToPrint ∈ goodTbl := gwt4 57 rfl rfl
set_option maxRecDepth 100000 in
theorem wd_849 : Cond.code yX4_linesToPrint cX4_linesToPrint 4 (some .int) ∈ goodTbl := gwt4 58 rfl rfl
set_option maxRecDepth 100000 in
theorem wd_850 : Cond.methodLink RL 90 yX5_outIn ∈ goodTbl := gwt4 59 rfl rfl
set_option maxRecDepth 100000 in
theorem wd_851 : Cond.instanceMethod yX5_outIn ∈ goodTbl := gwt4 60 rfl rfl
set_option maxRecDepth 100000 in
theorem wd_852 : Cond.selects RX5 yX5_outIn yX5_outIn ∈ goodTbl := gwt4 61 rfl rfl
set_option maxRecDepth 100000 in
theorem wd_853 : Cond.code yX5_outIn cX5_outIn 1 (some .int) ∈ goodTbl := gwt4 62 rfl rfl
set_option maxRecDepth 100000 in
theorem wd_854 : Cond.methodLink RL 94 yX5_bestWidth ∈ goodTbl := gwt4 63 rfl rfl
set_option maxRecDepth 100000 in
theorem wd_855 : Cond.instanceMethod yX5_bestWidth ∈ goodTbl := gwt4 64 rfl rfl
set_option maxRecDepth 100000 in
theorem wd_856 : Cond.selects RX5 yX5_bestWidth yX5_bestWidth ∈ goodTbl := gwt4 65 rfl rfl
set_option maxRecDepth 100000 in
theorem wd_857 : Cond.code yX5_bestWidth cX5_bestWidth 8 (some .int) ∈ goodTbl := gwt4 66 rfl rfl
set_option maxRecDepth 100000 in
theorem wd_858 : Cond.methodLink RL 98 yX5_ifStruck ∈ goodTbl := gwt4 67 rfl rfl
set_option maxRecDepth 100000 in
theorem wd_859 : Cond.instanceMethod yX5_ifStruck ∈ goodTbl := gwt4 68 rfl rfl
set_option maxRecDepth 100000 in
theorem wd_860 : Cond.selects RX5 yX5_ifStruck yX5_ifStruck ∈ goodTbl := gwt4 69 rfl rfl
set_option maxRecDepth 100000 in
theorem wd_861 : Cond.code yX5_ifStruck cX5_ifStruck 4 (some .int) ∈ goodTbl := gwt4 70 rfl rfl
set_option maxRecDepth 100000 in
theorem wd_862 : Cond.methodLink RX5 268 yX2_totalWithout ∈ goodTbl := gwt4 71 rfl rfl
set_option maxRecDepth 100000 in
theorem wd_863 : Cond.methodLink RL 104 yX5_put ∈ goodTbl := gwt4 72 rfl rfl
set_option maxRecDepth 100000 in
theorem wd_864 : Cond.instanceMethod yX5_put ∈ goodTbl := gwt4 73 rfl rfl
set_option maxRecDepth 100000 in
theorem wd_865 : Cond.selects RX5 yX5_put yX5_put ∈ goodTbl := gwt4 74 rfl rfl
set_option maxRecDepth 100000 in
theorem wd_866 : Cond.code yX5_put cX5_put 5 (some .int) ∈ goodTbl := gwt4 75 rfl rfl
set_option maxRecDepth 100000 in
theorem wd_867 : Cond.methodLink RX5 271 yX5_lengthOf ∈ goodTbl := gwt4 76 rfl rfl
set_option maxRecDepth 100000 in
theorem wd_868 : Cond.static yX5_lengthOf ∈ goodTbl := gwt4 77 rfl rfl
set_option maxRecDepth 100000 in
theorem wd_869 : Cond.code yX5_lengthOf cX5_lengthOf 4 (some .int) ∈ goodTbl := gwt4 78 rfl rfl
set_option maxRecDepth 100000 in
theorem wd_870 : Cond.methodLink RX5 275 yX5_codeAt ∈ goodTbl := gwt4 79 rfl rfl
set_option maxRecDepth 100000 in
theorem wd_871 : Cond.static yX5_codeAt ∈ goodTbl := gwt4 80 rfl rfl
set_option maxRecDepth 100000 in
theorem wd_872 : Cond.code yX5_codeAt cX5_codeAt 3 (some .int) ∈ goodTbl := gwt4 81 rfl rfl
set_option maxRecDepth 100000 in
theorem wd_873 : Cond.constantLong RX5 288 (255 : Int64) ∈ goodTbl := gwt4 82 rfl rfl
set_option maxRecDepth 100000 in
theorem wd_874 : Cond.methodLink RX5 279 yJ4_append_cf468 ∈ goodTbl := gwt4 83 rfl rfl
set_option maxRecDepth 100000 in
theorem wd_875 : Cond.instanceMethod yJ4_append_cf468 ∈ goodTbl := gwt4 84 rfl rfl
set_option maxRecDepth 100000 in
theorem wd_876 : Cond.selects RJ4 yJ4_append_cf468 yJ4_append_cf468 ∈ goodTbl := gwt4 85 rfl rfl
set_option maxRecDepth 100000 in
theorem wd_877 : Cond.code yJ4_append_cf468 cJ4_append_cf468 2 (some (.object "java/lang/StringBuilder")) ∈ goodTbl := gwt4 86 rfl rfl
set_option maxRecDepth 100000 in
theorem wd_878 : Cond.methodLink RJ4 50 yJ5_append_3fe6f ∈ goodTbl := gwt4 87 rfl rfl
set_option maxRecDepth 100000 in
theorem wd_879 : Cond.instanceMethod yJ5_append_3fe6f ∈ goodTbl := gwt4 88 rfl rfl
set_option maxRecDepth 100000 in
theorem wd_880 : Cond.code yJ5_append_3fe6f cJ5_append_3fe6f 2 (some (.object "java/lang/AbstractStringBuilder")) ∈ goodTbl := gwt4 89 rfl rfl
set_option maxRecDepth 100000 in
theorem wd_881 : Cond.methodLink RJ5 191 yJ1_canEncode_fc78d ∈ goodTbl := gwt4 90 rfl rfl
set_option maxRecDepth 100000 in
theorem wd_882 : Cond.static yJ1_canEncode_fc78d ∈ goodTbl := gwt4 91 rfl rfl
set_option maxRecDepth 100000 in
theorem wd_883 : Cond.code yJ1_canEncode_fc78d cJ1_canEncode_fc78d 1 (some .boolean) ∈ goodTbl := gwt4 92 rfl rfl
set_option maxRecDepth 100000 in
theorem wd_900 : Cond.methodLink RL 109 yX5_wipe ∈ goodTbl := gwt4 109 rfl rfl
set_option maxRecDepth 100000 in
theorem wd_901 : Cond.instanceMethod yX5_wipe ∈ goodTbl := gwt4 110 rfl rfl
set_option maxRecDepth 100000 in
theorem wd_902 : Cond.selects RX5 yX5_wipe yX5_wipe ∈ goodTbl := gwt4 111 rfl rfl
set_option maxRecDepth 100000 in
theorem wd_903 : Cond.code yX5_wipe cX5_wipe 2 (some .int) ∈ goodTbl := gwt4 112 rfl rfl
set_option maxRecDepth 100000 in
theorem wd_904 : Cond.methodLink RL 113 yX5_fault ∈ goodTbl := gwt4 113 rfl rfl
set_option maxRecDepth 100000 in
theorem wd_905 : Cond.instanceMethod yX5_fault ∈ goodTbl := gwt4 114 rfl rfl
set_option maxRecDepth 100000 in
theorem wd_906 : Cond.selects RX5 yX5_fault yX5_fault ∈ goodTbl := gwt4 115 rfl rfl
set_option maxRecDepth 100000 in
theorem wd_907 : Cond.code yX5_fault cX5_fault 1 (some .int) ∈ goodTbl := gwt4 116 rfl rfl
set_option maxRecDepth 100000 in
theorem wd_908 : Cond.methodLink RL 117 yX5_undo ∈ goodTbl := gwt4 117 rfl rfl
set_option maxRecDepth 100000 in
theorem wd_909 : Cond.instanceMethod yX5_undo ∈ goodTbl := gwt4 118 rfl rfl
set_option maxRecDepth 100000 in
theorem wd_910 : Cond.selects RX5 yX5_undo yX5_undo ∈ goodTbl := gwt4 119 rfl rfl
set_option maxRecDepth 100000 in
theorem wd_911 : Cond.code yX5_undo cX5_undo 1 (some .int) ∈ goodTbl := gwt4 120 rfl rfl
set_option maxRecDepth 100000 in
theorem wd_912 : Cond.methodLink RX5 283 yX0_giveBack ∈ goodTbl := gwt4 121 rfl rfl
set_option maxRecDepth 100000 in
theorem wd_913 : Cond.instanceMethod yX0_giveBack ∈ goodTbl := gwt4 122 rfl rfl
set_option maxRecDepth 100000 in
theorem wd_914 : Cond.selects RX0 yX0_giveBack yX0_giveBack ∈ goodTbl := gwt4 123 rfl rfl
set_option maxRecDepth 100000 in
theorem wd_915 : Cond.code yX0_giveBack cX0_giveBack 3 none ∈ goodTbl := gwt4 124 rfl rfl
set_option maxRecDepth 100000 in
theorem wd_916 : Cond.methodLink RL 121 yX5_save ∈ goodTbl := gwt4 125 rfl rfl
set_option maxRecDepth 100000 in
theorem wd_917 : Cond.instanceMethod yX5_save ∈ goodTbl := gwt4 126 rfl rfl
set_option maxRecDepth 100000 in
theorem wd_918 : Cond.selects RX5 yX5_save yX5_save ∈ goodTbl := gwt4 127 rfl rfl
set_option maxRecDepth 100000 in
theorem wd_919 : Cond.code yX5_save cX5_save 2 (some .int) ∈ goodTbl := gwt4 128 rfl rfl
set_option maxRecDepth 100000 in
theorem wd_920 : Cond.methodLink RX5 286 yX4_copyFrom ∈ goodTbl := gwt4 129 rfl rfl
set_option maxRecDepth 100000 in
theorem wd_921 : Cond.methodLink RL 125 yX5_restore ∈ goodTbl := gwt4 130 rfl rfl
set_option maxRecDepth 100000 in
theorem wd_922 : Cond.instanceMethod yX5_restore ∈ goodTbl := gwt4 131 rfl rfl
set_option maxRecDepth 100000 in
theorem wd_923 : Cond.selects RX5 yX5_restore yX5_restore ∈ goodTbl := gwt4 132 rfl rfl
set_option maxRecDepth 100000 in
theorem wd_924 : Cond.code yX5_restore cX5_restore 2 (some .int) ∈ goodTbl := gwt4 133 rfl rfl
set_option maxRecDepth 100000 in
theorem wd_925 : Cond.classLink RL 10 RX6 ∈ goodTbl := gwt4 134 rfl rfl
set_option maxRecDepth 100000 in
theorem wd_926 : Cond.instantiable RX6 15 ∈ goodTbl := gwt4 135 rfl rfl
set_option maxRecDepth 100000 in
theorem wd_927 : Cond.methodLink RL 12 yX6_init ∈ goodTbl := gwt4 136 rfl rfl
set_option maxRecDepth 100000 in
theorem wd_928 : Cond.instanceMethod yX6_init ∈ goodTbl := gwt4 137 rfl rfl
set_option maxRecDepth 100000 in
theorem wd_929 : Cond.code yX6_init cX6_init 2 none ∈ goodTbl := gwt4 138 rfl rfl
set_option maxRecDepth 100000 in
theorem wd_930 : Cond.methodLink RX6 1 Lib.objectInit ∈ goodTbl := gwt4 139 rfl rfl
set_option maxRecDepth 100000 in
theorem wd_931 : Cond.methodLink RX6 36 yX6_lay ∈ goodTbl := gwt4 140 rfl rfl
set_option maxRecDepth 100000 in
theorem wd_933 : Cond.instanceMethod yX6_lay ∈ goodTbl := gwt4 142 rfl rfl
set_option maxRecDepth 100000 in
theorem wd_934 : Cond.code yX6_lay cX6_lay 4 none ∈ goodTbl := gwt4 143 rfl rfl
set_option maxRecDepth 100000 in
theorem wd_935 : Cond.fieldLink RX6 32 "ReceiptRollsModel" "thrown" "I" ∈ goodTbl := gwt4 144 rfl rfl
set_option maxRecDepth 100000 in
theorem wd_936 : Cond.fieldLink RX6 7 "ReceiptRollsModel" "s" "[I" ∈ goodTbl := gwt4 145 rfl rfl
set_option maxRecDepth 100000 in
theorem wd_937 : Cond.fieldLink RX6 13 "ReceiptRollsModel" "undos" "[I" ∈ goodTbl := gwt4 146 rfl rfl
set_option maxRecDepth 100000 in
theorem wd_938 : Cond.fieldLink RX6 44 "ReceiptRollsModel" "undoMany" "I" ∈ goodTbl := gwt4 147 rfl rfl
set_option maxRecDepth 100000 in
theorem wd_939 : Cond.fieldLink RX6 16 "ReceiptRollsModel" "slots" "[I" ∈ goodTbl := gwt4 148 rfl rfl
set_option maxRecDepth 100000 in
theorem wd_940 : Cond.fieldLink RX6 19 "ReceiptRollsModel" "hasSlot" "[Z" ∈ goodTbl := gwt4 149 rfl rfl
set_option maxRecDepth 100000 in
theorem wd_941 : Cond.fieldLink RX6 23 "ReceiptRollsModel" "pad" "[I" ∈ goodTbl := gwt4 150 rfl rfl
set_option maxRecDepth 100000 in
theorem wd_942 : Cond.fieldLink RX6 193 "ReceiptRollsModel" "length" "I" ∈ goodTbl := gwt4 151 rfl rfl
set_option maxRecDepth 100000 in
theorem wd_943 : Cond.fieldLink RX6 26 "ReceiptRollsModel" "line" "[I" ∈ goodTbl := gwt4 152 rfl rfl
set_option maxRecDepth 100000 in
theorem wd_944 : Cond.fieldLink RX6 77 "ReceiptRollsModel" "wanted" "I" ∈ goodTbl := gwt4 153 rfl rfl
set_option maxRecDepth 100000 in
theorem wd_945 : Cond.fieldLink RX6 74 "ReceiptRollsModel" "at" "I" ∈ goodTbl := gwt4 154 rfl rfl
set_option maxRecDepth 100000 in
theorem wd_946 : Cond.fieldLink RX6 80 "ReceiptRollsModel" "column" "I" ∈ goodTbl := gwt4 155 rfl rfl
set_option maxRecDepth 100000 in
theorem wd_947 : Cond.fieldLink RX6 113 "ReceiptRollsModel" "begun" "I" ∈ goodTbl := gwt4 156 rfl rfl
set_option maxRecDepth 100000 in
theorem wd_948 : Cond.fieldLink RX6 29 "ReceiptRollsModel" "word" "[I" ∈ goodTbl := gwt4 157 rfl rfl
set_option maxRecDepth 100000 in
theorem wd_949 : Cond.fieldLink RX6 91 "ReceiptRollsModel" "wordMany" "I" ∈ goodTbl := gwt4 158 rfl rfl
set_option maxRecDepth 100000 in
theorem wd_981 : Cond.arrayClass .boolean ∈ goodTbl := gwt4 190 rfl rfl
set_option maxRecDepth 100000 in
theorem wd_982 : Cond.methodLink RL 17 yX6_set ∈ goodTbl := gwt4 191 rfl rfl
set_option maxRecDepth 100000 in
theorem wd_983 : Cond.instanceMethod yX6_set ∈ goodTbl := gwt4 192 rfl rfl
set_option maxRecDepth 100000 in
theorem wd_984 : Cond.selects RX6 yX6_set yX6_set ∈ goodTbl := gwt4 193 rfl rfl
set_option maxRecDepth 100000 in
theorem wd_985 : Cond.code yX6_set cX6_set 4 (some .int) ∈ goodTbl := gwt4 194 rfl rfl
set_option maxRecDepth 100000 in
theorem wd_986 : Cond.methodLink RX6 40 yX6_in ∈ goodTbl := gwt4 195 rfl rfl
set_option maxRecDepth 100000 in
theorem wd_987 : Cond.static yX6_in ∈ goodTbl := gwt4 196 rfl rfl
set_option maxRecDepth 100000 in
theorem wd_988 : Cond.code yX6_in cX6_in 3 (some .boolean) ∈ goodTbl := gwt4 197 rfl rfl
set_option maxRecDepth 100000 in
theorem wd_989 : Cond.methodLink RX6 184 yX6_leastOf ∈ goodTbl := gwt4 198 rfl rfl
set_option maxRecDepth 100000 in
theorem wd_990 : Cond.static yX6_leastOf ∈ goodTbl := gwt4 199 rfl rfl
set_option maxRecDepth 100000 in
theorem wd_991 : Cond.code yX6_leastOf cX6_leastOf 1 (some .int) ∈ goodTbl := gwt4 200 rfl rfl
set_option maxRecDepth 100000 in
theorem wd_992 : Cond.methodLink RX6 187 yX6_mostOf ∈ goodTbl := gwt4 201 rfl rfl
set_option maxRecDepth 100000 in
theorem wd_993 : Cond.static yX6_mostOf ∈ goodTbl := gwt4 202 rfl rfl
set_option maxRecDepth 100000 in
theorem wd_994 : Cond.code yX6_mostOf cX6_mostOf 1 (some .int) ∈ goodTbl := gwt4 203 rfl rfl
set_option maxRecDepth 100000 in
theorem wd_995 : Cond.methodLink RX6 190 yX6_records ∈ goodTbl := gwt4 204 rfl rfl
set_option maxRecDepth 100000 in
theorem wd_997 : Cond.instanceMethod yX6_records ∈ goodTbl := gwt4 206 rfl rfl
set_option maxRecDepth 100000 in
theorem wd_998 : Cond.code yX6_records cX6_records 2 none ∈ goodTbl := gwt4 207 rfl rfl
set_option maxRecDepth 100000 in
theorem wd_999 : Cond.methodLink RL 22 yX6_ring ∈ goodTbl := gwt4 208 rfl rfl
set_option maxRecDepth 100000 in
theorem wd_1000 : Cond.instanceMethod yX6_ring ∈ goodTbl := gwt4 209 rfl rfl
set_option maxRecDepth 100000 in
theorem wd_1001 : Cond.selects RX6 yX6_ring yX6_ring ∈ goodTbl := gwt4 210 rfl rfl
set_option maxRecDepth 100000 in
theorem wd_1002 : Cond.code yX6_ring cX6_ring 6 (some .int) ∈ goodTbl := gwt4 211 rfl rfl
set_option maxRecDepth 100000 in
theorem wd_1003 : Cond.methodLink RX6 196 yX6_isTill ∈ goodTbl := gwt4 212 rfl rfl
set_option maxRecDepth 100000 in
theorem wd_1004 : Cond.static yX6_isTill ∈ goodTbl := gwt4 213 rfl rfl
set_option maxRecDepth 100000 in
theorem wd_1005 : Cond.code yX6_isTill cX6_isTill 1 (some .boolean) ∈ goodTbl := gwt4 214 rfl rfl
set_option maxRecDepth 100000 in
theorem wd_1006 : Cond.methodLink RX6 200 yX6_faultAt ∈ goodTbl := gwt4 215 rfl rfl
set_option maxRecDepth 100000 in
theorem wd_1008 : Cond.instanceMethod yX6_faultAt ∈ goodTbl := gwt4 217 rfl rfl
set_option maxRecDepth 100000 in
theorem wd_1009 : Cond.code yX6_faultAt cX6_faultAt 2 (some .int) ∈ goodTbl := gwt4 218 rfl rfl
set_option maxRecDepth 100000 in
theorem wd_1010 : Cond.methodLink RX6 245 yX6_canStand ∈ goodTbl := gwt4 219 rfl rfl
set_option maxRecDepth 100000 in
theorem wd_1012 : Cond.instanceMethod yX6_canStand ∈ goodTbl := gwt4 221 rfl rfl
set_option maxRecDepth 100000 in
theorem wd_1013 : Cond.code yX6_canStand cX6_canStand 2 (some .boolean) ∈ goodTbl := gwt4 222 rfl rfl
set_option maxRecDepth 100000 in
theorem wd_1014 : Cond.methodLink RX6 47 yX6_of ∈ goodTbl := gwt4 223 rfl rfl
set_option maxRecDepth 100000 in
theorem wd_1016 : Cond.instanceMethod yX6_of ∈ goodTbl := gwt4 225 rfl rfl
set_option maxRecDepth 100000 in
theorem wd_1017 : Cond.code yX6_of cX6_of 3 (some .int) ∈ goodTbl := gwt4 226 rfl rfl
set_option maxRecDepth 100000 in
theorem wd_1018 : Cond.methodLink RX6 203 yX6_packsName ∈ goodTbl := gwt4 227 rfl rfl
set_option maxRecDepth 100000 in
theorem wd_1020 : Cond.instanceMethod yX6_packsName ∈ goodTbl := gwt4 229 rfl rfl
set_option maxRecDepth 100000 in
theorem wd_1021 : Cond.code yX6_packsName cX6_packsName 6 none ∈ goodTbl := gwt4 230 rfl rfl
set_option maxRecDepth 100000 in
theorem wd_1022 : Cond.methodLink RX6 206 yX6_happens ∈ goodTbl := gwt4 231 rfl rfl
set_option maxRecDepth 100000 in
theorem wd_1024 : Cond.instanceMethod yX6_happens ∈ goodTbl := gwt4 233 rfl rfl
set_option maxRecDepth 100000 in
theorem wd_1025 : Cond.code yX6_happens cX6_happens 4 none ∈ goodTbl := gwt4 234 rfl rfl
set_option maxRecDepth 100000 in
theorem wd_1026 : Cond.methodLink RL 26 yX6_strike ∈ goodTbl := gwt4 235 rfl rfl
set_option maxRecDepth 100000 in
theorem wd_1027 : Cond.instanceMethod yX6_strike ∈ goodTbl := gwt4 236 rfl rfl
set_option maxRecDepth 100000 in
theorem wd_1028 : Cond.selects RX6 yX6_strike yX6_strike ∈ goodTbl := gwt4 237 rfl rfl
set_option maxRecDepth 100000 in
theorem wd_1029 : Cond.code yX6_strike cX6_strike 3 (some .int) ∈ goodTbl := gwt4 238 rfl rfl
set_option maxRecDepth 100000 in
theorem wd_1030 : Cond.methodLink RX6 209 yX6_isItem ∈ goodTbl := gwt4 239 rfl rfl
set_option maxRecDepth 100000 in
theorem wd_1032 : Cond.instanceMethod yX6_isItem ∈ goodTbl := gwt5 1 rfl rfl
set_option maxRecDepth 100000 in
theorem wd_1033 : Cond.code yX6_isItem cX6_isItem 3 (some .boolean) ∈ goodTbl := gwt5 2 rfl rfl
set_option maxRecDepth 100000 in
theorem wd_1034 : Cond.methodLink RX6 60 yX6_isStruck ∈ goodTbl := gwt5 3 rfl rfl
set_option maxRecDepth 100000 in
theorem wd_1036 : Cond.instanceMethod yX6_isStruck ∈ goodTbl := gwt5 5 rfl rfl
set_option maxRecDepth 100000 in
theorem wd_1037 : Cond.code yX6_isStruck cX6_isStruck 3 (some .boolean) ∈ goodTbl := gwt5 6 rfl rfl
set_option maxRecDepth 100000 in
theorem wd_1038 : Cond.methodLink RX6 51 yX6_packed ∈ goodTbl := gwt5 7 rfl rfl
set_option maxRecDepth 100000 in
theorem wd_1040 : Cond.instanceMethod yX6_packed ∈ goodTbl := gwt5 9 rfl rfl
set_option maxRecDepth 100000 in
theorem wd_1041 : Cond.code yX6_packed cX6_packed 3 (some .int) ∈ goodTbl := gwt5 10 rfl rfl
set_option maxRecDepth 100000 in
theorem wd_1042 : Cond.constant RX6 212 (8388608 : Int32) ∈ goodTbl := gwt5 11 rfl rfl
set_option maxRecDepth 100000 in
theorem wd_1043 : Cond.methodLink RX6 64 yX6_sum ∈ goodTbl := gwt5 12 rfl rfl
set_option maxRecDepth 100000 in
theorem wd_1045 : Cond.instanceMethod yX6_sum ∈ goodTbl := gwt5 14 rfl rfl
set_option maxRecDepth 100000 in
theorem wd_1046 : Cond.code yX6_sum cX6_sum 3 (some .int) ∈ goodTbl := gwt5 15 rfl rfl
set_option maxRecDepth 100000 in
theorem wd_1047 : Cond.methodLink RX6 54 yX6_howMany ∈ goodTbl := gwt5 16 rfl rfl
set_option maxRecDepth 100000 in
theorem wd_1049 : Cond.instanceMethod yX6_howMany ∈ goodTbl := gwt5 18 rfl rfl
set_option maxRecDepth 100000 in
theorem wd_1050 : Cond.code yX6_howMany cX6_howMany 3 (some .int) ∈ goodTbl := gwt5 19 rfl rfl
set_option maxRecDepth 100000 in
theorem wd_1051 : Cond.methodLink RX6 57 yX6_price ∈ goodTbl := gwt5 20 rfl rfl
set_option maxRecDepth 100000 in
theorem wd_1053 : Cond.instanceMethod yX6_price ∈ goodTbl := gwt5 22 rfl rfl
set_option maxRecDepth 100000 in
theorem wd_1054 : Cond.code yX6_price cX6_price 3 (some .int) ∈ goodTbl := gwt5 23 rfl rfl
set_option maxRecDepth 100000 in
theorem wd_1055 : Cond.methodLink RL 30 yX6_close ∈ goodTbl := gwt5 24 rfl rfl
set_option maxRecDepth 100000 in
theorem wd_1056 : Cond.instanceMethod yX6_close ∈ goodTbl := gwt5 25 rfl rfl
set_option maxRecDepth 100000 in
theorem wd_1057 : Cond.selects RX6 yX6_close yX6_close ∈ goodTbl := gwt5 26 rfl rfl
set_option maxRecDepth 100000 in
theorem wd_1058 : Cond.code yX6_close cX6_close 5 (some .int) ∈ goodTbl := gwt5 27 rfl rfl
set_option maxRecDepth 100000 in
theorem wd_1059 : Cond.methodLink RX6 158 yX6_manyHow ∈ goodTbl := gwt5 28 rfl rfl
set_option maxRecDepth 100000 in
theorem wd_1061 : Cond.instanceMethod yX6_manyHow ∈ goodTbl := gwt5 30 rfl rfl
set_option maxRecDepth 100000 in
theorem wd_1062 : Cond.code yX6_manyHow cX6_manyHow 4 (some .int) ∈ goodTbl := gwt5 31 rfl rfl
set_option maxRecDepth 100000 in
theorem wd_1063 : Cond.methodLink RX6 149 yX6_isHow ∈ goodTbl := gwt5 32 rfl rfl
set_option maxRecDepth 100000 in
theorem wd_1065 : Cond.instanceMethod yX6_isHow ∈ goodTbl := gwt5 34 rfl rfl
set_option maxRecDepth 100000 in
theorem wd_1066 : Cond.code yX6_isHow cX6_isHow 3 (some .boolean) ∈ goodTbl := gwt5 35 rfl rfl
set_option maxRecDepth 100000 in
theorem wd_1067 : Cond.methodLink RX6 213 yX6_freeRecord ∈ goodTbl := gwt5 36 rfl rfl
set_option maxRecDepth 100000 in
theorem wd_1069 : Cond.instanceMethod yX6_freeRecord ∈ goodTbl := gwt5 38 rfl rfl
set_option maxRecDepth 100000 in
theorem wd_1070 : Cond.code yX6_freeRecord cX6_freeRecord 2 (some .int) ∈ goodTbl := gwt5 39 rfl rfl
set_option maxRecDepth 100000 in
theorem wd_1071 : Cond.methodLink RX6 161 yX6_empties ∈ goodTbl := gwt5 40 rfl rfl
set_option maxRecDepth 100000 in
theorem wd_1073 : Cond.instanceMethod yX6_empties ∈ goodTbl := gwt5 42 rfl rfl
set_option maxRecDepth 100000 in
theorem wd_1074 : Cond.code yX6_empties cX6_empties 3 none ∈ goodTbl := gwt5 43 rfl rfl
set_option maxRecDepth 100000 in
theorem wd_1075 : Cond.methodLink RL 34 yX6_hurry ∈ goodTbl := gwt5 44 rfl rfl
set_option maxRecDepth 100000 in
theorem wd_1076 : Cond.instanceMethod yX6_hurry ∈ goodTbl := gwt5 45 rfl rfl
set_option maxRecDepth 100000 in
theorem wd_1077 : Cond.selects RX6 yX6_hurry yX6_hurry ∈ goodTbl := gwt5 46 rfl rfl
set_option maxRecDepth 100000 in
theorem wd_1078 : Cond.code yX6_hurry cX6_hurry 5 (some .int) ∈ goodTbl := gwt5 47 rfl rfl
set_option maxRecDepth 100000 in
theorem wd_1079 : Cond.methodLink RX6 216 yX6_recordOf ∈ goodTbl := gwt5 48 rfl rfl
set_option maxRecDepth 100000 in
theorem wd_1081 : Cond.instanceMethod yX6_recordOf ∈ goodTbl := gwt5 50 rfl rfl
set_option maxRecDepth 100000 in
theorem wd_1082 : Cond.code yX6_recordOf cX6_recordOf 3 (some .int) ∈ goodTbl := gwt5 51 rfl rfl
set_option maxRecDepth 100000 in
theorem wd_1083 : Cond.methodLink RL 39 yX6_newRoll ∈ goodTbl := gwt5 52 rfl rfl
set_option maxRecDepth 100000 in
theorem wd_1084 : Cond.instanceMethod yX6_newRoll ∈ goodTbl := gwt5 53 rfl rfl
set_option maxRecDepth 100000 in
theorem wd_1085 : Cond.selects RX6 yX6_newRoll yX6_newRoll ∈ goodTbl := gwt5 54 rfl rfl
set_option maxRecDepth 100000 in
theorem wd_1086 : Cond.code yX6_newRoll cX6_newRoll 2 (some .int) ∈ goodTbl := gwt5 55 rfl rfl
set_option maxRecDepth 100000 in
theorem wd_1087 : Cond.methodLink RL 44 yX6_tear ∈ goodTbl := gwt5 56 rfl rfl
set_option maxRecDepth 100000 in
theorem wd_1088 : Cond.instanceMethod yX6_tear ∈ goodTbl := gwt5 57 rfl rfl
set_option maxRecDepth 100000 in
theorem wd_1089 : Cond.selects RX6 yX6_tear yX6_tear ∈ goodTbl := gwt5 58 rfl rfl
set_option maxRecDepth 100000 in
theorem wd_1090 : Cond.code yX6_tear cX6_tear 4 (some .int) ∈ goodTbl := gwt5 59 rfl rfl
set_option maxRecDepth 100000 in
theorem wd_1091 : Cond.methodLink RX6 167 yX6_printedNow ∈ goodTbl := gwt5 60 rfl rfl
set_option maxRecDepth 100000 in
theorem wd_1093 : Cond.instanceMethod yX6_printedNow ∈ goodTbl := gwt5 62 rfl rfl
set_option maxRecDepth 100000 in
theorem wd_1094 : Cond.code yX6_printedNow cX6_printedNow 2 (some .int) ∈ goodTbl := gwt5 63 rfl rfl
set_option maxRecDepth 100000 in
theorem wd_1095 : Cond.methodLink RX6 143 yX6_widthOf ∈ goodTbl := gwt5 64 rfl rfl
set_option maxRecDepth 100000 in
theorem wd_1097 : Cond.instanceMethod yX6_widthOf ∈ goodTbl := gwt5 66 rfl rfl
set_option maxRecDepth 100000 in
theorem wd_1098 : Cond.code yX6_widthOf cX6_widthOf 2 (some .int) ∈ goodTbl := gwt5 67 rfl rfl
set_option maxRecDepth 100000 in
theorem wd_1099 : Cond.methodLink RX6 146 yX6_laysAll ∈ goodTbl := gwt5 68 rfl rfl
set_option maxRecDepth 100000 in
theorem wd_1101 : Cond.instanceMethod yX6_laysAll ∈ goodTbl := gwt5 70 rfl rfl
set_option maxRecDepth 100000 in
theorem wd_1102 : Cond.code yX6_laysAll cX6_laysAll 6 (some .int) ∈ goodTbl := gwt5 71 rfl rfl
set_option maxRecDepth 100000 in
theorem wd_1103 : Cond.methodLink RX6 87 yX6_lays ∈ goodTbl := gwt5 72 rfl rfl
set_option maxRecDepth 100000 in
theorem wd_1105 : Cond.instanceMethod yX6_lays ∈ goodTbl := gwt5 74 rfl rfl
set_option maxRecDepth 100000 in
theorem wd_1106 : Cond.code yX6_lays cX6_lays 2 none ∈ goodTbl := gwt5 75 rfl rfl
set_option maxRecDepth 100000 in
theorem wd_1107 : Cond.methodLink RX6 83 yX6_puts ∈ goodTbl := gwt5 76 rfl rfl
set_option maxRecDepth 100000 in
theorem wd_1109 : Cond.instanceMethod yX6_puts ∈ goodTbl := gwt5 78 rfl rfl
set_option maxRecDepth 100000 in
theorem wd_1110 : Cond.code yX6_puts cX6_puts 3 none ∈ goodTbl := gwt5 79 rfl rfl
set_option maxRecDepth 100000 in
theorem wd_1111 : Cond.methodLink RX6 122 yX6_numberOf ∈ goodTbl := gwt5 80 rfl rfl
set_option maxRecDepth 100000 in
theorem wd_1113 : Cond.instanceMethod yX6_numberOf ∈ goodTbl := gwt5 82 rfl rfl
set_option maxRecDepth 100000 in
theorem wd_1114 : Cond.code yX6_numberOf cX6_numberOf 2 (some .int) ∈ goodTbl := gwt5 83 rfl rfl
set_option maxRecDepth 100000 in
theorem wd_1115 : Cond.methodLink RX6 116 yX6_number ∈ goodTbl := gwt5 84 rfl rfl
set_option maxRecDepth 100000 in
theorem wd_1117 : Cond.instanceMethod yX6_number ∈ goodTbl := gwt5 86 rfl rfl
set_option maxRecDepth 100000 in
theorem wd_1118 : Cond.code yX6_number cX6_number 3 none ∈ goodTbl := gwt5 87 rfl rfl
set_option maxRecDepth 100000 in
theorem wd_1119 : Cond.methodLink RX6 94 yX6_nextLine ∈ goodTbl := gwt5 88 rfl rfl
set_option maxRecDepth 100000 in
theorem wd_1121 : Cond.instanceMethod yX6_nextLine ∈ goodTbl := gwt5 90 rfl rfl
set_option maxRecDepth 100000 in
theorem wd_1122 : Cond.code yX6_nextLine cX6_nextLine 1 none ∈ goodTbl := gwt5 91 rfl rfl
set_option maxRecDepth 100000 in
theorem wd_1123 : Cond.methodLink RX6 125 yX6_event ∈ goodTbl := gwt5 92 rfl rfl
set_option maxRecDepth 100000 in
theorem wd_1125 : Cond.instanceMethod yX6_event ∈ goodTbl := gwt5 94 rfl rfl
set_option maxRecDepth 100000 in
theorem wd_1126 : Cond.code yX6_event cX6_event 3 (some .int) ∈ goodTbl := gwt5 95 rfl rfl
set_option maxRecDepth 100000 in
theorem wd_1127 : Cond.methodLink RX6 128 yX6_layItem ∈ goodTbl := gwt5 96 rfl rfl
set_option maxRecDepth 100000 in
theorem wd_1129 : Cond.instanceMethod yX6_layItem ∈ goodTbl := gwt5 98 rfl rfl
set_option maxRecDepth 100000 in
theorem wd_1130 : Cond.code yX6_layItem cX6_layItem 8 none ∈ goodTbl := gwt5 99 rfl rfl
set_option maxRecDepth 100000 in
theorem wd_1131 : Cond.methodLink RX6 97 yX6_addsToWord ∈ goodTbl := gwt5 100 rfl rfl
set_option maxRecDepth 100000 in
theorem wd_1133 : Cond.instanceMethod yX6_addsToWord ∈ goodTbl := gwt5 102 rfl rfl
set_option maxRecDepth 100000 in
theorem wd_1134 : Cond.code yX6_addsToWord cX6_addsToWord 2 none ∈ goodTbl := gwt5 103 rfl rfl
set_option maxRecDepth 100000 in
theorem wd_1135 : Cond.methodLink RX6 100 yX6_layWord ∈ goodTbl := gwt5 104 rfl rfl
set_option maxRecDepth 100000 in
theorem wd_1137 : Cond.instanceMethod yX6_layWord ∈ goodTbl := gwt5 106 rfl rfl
set_option maxRecDepth 100000 in
theorem wd_1138 : Cond.code yX6_layWord cX6_layWord 3 none ∈ goodTbl := gwt5 107 rfl rfl
set_option maxRecDepth 100000 in
theorem wd_1139 : Cond.methodLink RX6 103 yX6_nameLength ∈ goodTbl := gwt5 108 rfl rfl
set_option maxRecDepth 100000 in
theorem wd_1141 : Cond.instanceMethod yX6_nameLength ∈ goodTbl := gwt5 110 rfl rfl
set_option maxRecDepth 100000 in
theorem wd_1142 : Cond.code yX6_nameLength cX6_nameLength 3 (some .int) ∈ goodTbl := gwt5 111 rfl rfl
set_option maxRecDepth 100000 in
theorem wd_1143 : Cond.methodLink RX6 106 yX6_nameSign ∈ goodTbl := gwt5 112 rfl rfl
set_option maxRecDepth 100000 in
theorem wd_1145 : Cond.instanceMethod yX6_nameSign ∈ goodTbl := gwt5 114 rfl rfl
set_option maxRecDepth 100000 in
theorem wd_1146 : Cond.code yX6_nameSign cX6_nameSign 4 (some .int) ∈ goodTbl := gwt5 115 rfl rfl
set_option maxRecDepth 100000 in
theorem wd_1147 : Cond.methodLink RX6 110 yX6_money ∈ goodTbl := gwt5 116 rfl rfl
set_option maxRecDepth 100000 in
theorem wd_1149 : Cond.instanceMethod yX6_money ∈ goodTbl := gwt5 118 rfl rfl
set_option maxRecDepth 100000 in
theorem wd_1150 : Cond.code yX6_money cX6_money 6 none ∈ goodTbl := gwt5 119 rfl rfl
set_option maxRecDepth 100000 in
theorem wd_1151 : Cond.methodLink RX6 131 yX6_layVoid ∈ goodTbl := gwt5 120 rfl rfl
set_option maxRecDepth 100000 in
theorem wd_1153 : Cond.instanceMethod yX6_layVoid ∈ goodTbl := gwt5 122 rfl rfl
set_option maxRecDepth 100000 in
theorem wd_1154 : Cond.code yX6_layVoid cX6_layVoid 4 none ∈ goodTbl := gwt5 123 rfl rfl
set_option maxRecDepth 100000 in
theorem wd_1155 : Cond.methodLink RX6 134 yX6_total ∈ goodTbl := gwt5 124 rfl rfl
set_option maxRecDepth 100000 in
theorem wd_1157 : Cond.instanceMethod yX6_total ∈ goodTbl := gwt5 126 rfl rfl
set_option maxRecDepth 100000 in
theorem wd_1158 : Cond.code yX6_total cX6_total 4 (some .int) ∈ goodTbl := gwt5 127 rfl rfl
set_option maxRecDepth 100000 in
theorem wd_1159 : Cond.methodLink RX6 137 yX6_hasTax ∈ goodTbl := gwt5 128 rfl rfl
set_option maxRecDepth 100000 in
theorem wd_1161 : Cond.instanceMethod yX6_hasTax ∈ goodTbl := gwt5 130 rfl rfl
set_option maxRecDepth 100000 in
theorem wd_1162 : Cond.code yX6_hasTax cX6_hasTax 5 (some .boolean) ∈ goodTbl := gwt5 131 rfl rfl
set_option maxRecDepth 100000 in
theorem wd_1163 : Cond.methodLink RX6 67 yX6_tax ∈ goodTbl := gwt5 132 rfl rfl
set_option maxRecDepth 100000 in
theorem wd_1165 : Cond.instanceMethod yX6_tax ∈ goodTbl := gwt5 134 rfl rfl
set_option maxRecDepth 100000 in
theorem wd_1166 : Cond.code yX6_tax cX6_tax 3 (some .int) ∈ goodTbl := gwt5 135 rfl rfl
set_option maxRecDepth 100000 in
theorem wd_1167 : Cond.methodLink RX6 140 yX6_layTax ∈ goodTbl := gwt5 136 rfl rfl
set_option maxRecDepth 100000 in
theorem wd_1169 : Cond.instanceMethod yX6_layTax ∈ goodTbl := gwt5 138 rfl rfl
set_option maxRecDepth 100000 in
theorem wd_1170 : Cond.code yX6_layTax cX6_layTax 4 none ∈ goodTbl := gwt5 139 rfl rfl
set_option maxRecDepth 100000 in
theorem wd_1171 : Cond.methodLink RX6 70 yX6_rateOf ∈ goodTbl := gwt5 140 rfl rfl
set_option maxRecDepth 100000 in
theorem wd_1172 : Cond.static yX6_rateOf ∈ goodTbl := gwt5 141 rfl rfl
set_option maxRecDepth 100000 in
theorem wd_1173 : Cond.code yX6_rateOf cX6_rateOf 1 (some .int) ∈ goodTbl := gwt5 142 rfl rfl
set_option maxRecDepth 100000 in
theorem wd_1174 : Cond.methodLink RX6 119 yX6_taxOf ∈ goodTbl := gwt5 143 rfl rfl
set_option maxRecDepth 100000 in
theorem wd_1176 : Cond.instanceMethod yX6_taxOf ∈ goodTbl := gwt5 145 rfl rfl
set_option maxRecDepth 100000 in
theorem wd_1177 : Cond.code yX6_taxOf cX6_taxOf 6 (some .int) ∈ goodTbl := gwt5 146 rfl rfl
set_option maxRecDepth 100000 in
theorem wd_1178 : Cond.methodLink RL 48 yX6_pass ∈ goodTbl := gwt5 147 rfl rfl
set_option maxRecDepth 100000 in
theorem wd_1179 : Cond.instanceMethod yX6_pass ∈ goodTbl := gwt5 148 rfl rfl
set_option maxRecDepth 100000 in
theorem wd_1180 : Cond.selects RX6 yX6_pass yX6_pass ∈ goodTbl := gwt5 149 rfl rfl
set_option maxRecDepth 100000 in
theorem wd_1181 : Cond.code yX6_pass cX6_pass 4 (some .int) ∈ goodTbl := gwt5 150 rfl rfl
set_option maxRecDepth 100000 in
theorem wd_1182 : Cond.methodLink RX6 219 yX6_ticks ∈ goodTbl := gwt5 151 rfl rfl
set_option maxRecDepth 100000 in
theorem wd_1184 : Cond.instanceMethod yX6_ticks ∈ goodTbl := gwt5 153 rfl rfl
set_option maxRecDepth 100000 in
theorem wd_1185 : Cond.code yX6_ticks cX6_ticks 2 (some .int) ∈ goodTbl := gwt5 154 rfl rfl
set_option maxRecDepth 100000 in
theorem wd_1186 : Cond.methodLink RX6 180 yX6_printsLine ∈ goodTbl := gwt5 155 rfl rfl
set_option maxRecDepth 100000 in
theorem wd_1188 : Cond.instanceMethod yX6_printsLine ∈ goodTbl := gwt5 157 rfl rfl
set_option maxRecDepth 100000 in
theorem wd_1189 : Cond.code yX6_printsLine cX6_printsLine 2 (some .boolean) ∈ goodTbl := gwt5 158 rfl rfl
set_option maxRecDepth 100000 in
theorem wd_1190 : Cond.methodLink RX6 171 yX6_recordAt ∈ goodTbl := gwt5 159 rfl rfl
set_option maxRecDepth 100000 in
theorem wd_1192 : Cond.instanceMethod yX6_recordAt ∈ goodTbl := gwt5 161 rfl rfl
set_option maxRecDepth 100000 in
theorem wd_1193 : Cond.code yX6_recordAt cX6_recordAt 3 (some .int) ∈ goodTbl := gwt5 162 rfl rfl
set_option maxRecDepth 100000 in
theorem wd_1194 : Cond.methodLink RX6 155 yX6_rank ∈ goodTbl := gwt5 163 rfl rfl
set_option maxRecDepth 100000 in
theorem wd_1196 : Cond.instanceMethod yX6_rank ∈ goodTbl := gwt5 165 rfl rfl
set_option maxRecDepth 100000 in
theorem wd_1197 : Cond.code yX6_rank cX6_rank 4 (some .int) ∈ goodTbl := gwt5 166 rfl rfl
set_option maxRecDepth 100000 in
theorem wd_1198 : Cond.methodLink RX6 152 yX6_isAhead ∈ goodTbl := gwt5 167 rfl rfl
set_option maxRecDepth 100000 in
theorem wd_1200 : Cond.instanceMethod yX6_isAhead ∈ goodTbl := gwt5 169 rfl rfl
set_option maxRecDepth 100000 in
theorem wd_1201 : Cond.code yX6_isAhead cX6_isAhead 4 (some .boolean) ∈ goodTbl := gwt5 170 rfl rfl
set_option maxRecDepth 100000 in
theorem wd_1202 : Cond.methodLink RX6 174 yX6_linesOf ∈ goodTbl := gwt5 171 rfl rfl
set_option maxRecDepth 100000 in
theorem wd_1204 : Cond.instanceMethod yX6_linesOf ∈ goodTbl := gwt5 173 rfl rfl
set_option maxRecDepth 100000 in
theorem wd_1205 : Cond.code yX6_linesOf cX6_linesOf 2 (some .int) ∈ goodTbl := gwt5 174 rfl rfl
set_option maxRecDepth 100000 in
theorem wd_1206 : Cond.methodLink RX6 177 yX6_ends ∈ goodTbl := gwt5 175 rfl rfl
set_option maxRecDepth 100000 in
theorem wd_1208 : Cond.instanceMethod yX6_ends ∈ goodTbl := gwt5 177 rfl rfl
set_option maxRecDepth 100000 in
theorem wd_1209 : Cond.code yX6_ends cX6_ends 2 none ∈ goodTbl := gwt5 178 rfl rfl
set_option maxRecDepth 100000 in
theorem wd_1210 : Cond.methodLink RX6 164 yX6_forgets ∈ goodTbl := gwt5 179 rfl rfl
set_option maxRecDepth 100000 in
theorem wd_1212 : Cond.instanceMethod yX6_forgets ∈ goodTbl := gwt5 181 rfl rfl
set_option maxRecDepth 100000 in
theorem wd_1213 : Cond.code yX6_forgets cX6_forgets 4 none ∈ goodTbl := gwt5 182 rfl rfl
set_option maxRecDepth 100000 in
theorem wd_1214 : Cond.methodLink RL 53 yX6_item ∈ goodTbl := gwt5 183 rfl rfl
set_option maxRecDepth 100000 in
theorem wd_1215 : Cond.instanceMethod yX6_item ∈ goodTbl := gwt5 184 rfl rfl
set_option maxRecDepth 100000 in
theorem wd_1216 : Cond.selects RX6 yX6_item yX6_item ∈ goodTbl := gwt5 185 rfl rfl
set_option maxRecDepth 100000 in
theorem wd_1217 : Cond.code yX6_item cX6_item 4 (some .int) ∈ goodTbl := gwt5 186 rfl rfl
set_option maxRecDepth 100000 in
theorem wd_1218 : Cond.methodLink RX6 222 yX6_linesOfItem ∈ goodTbl := gwt5 187 rfl rfl
set_option maxRecDepth 100000 in
theorem wd_1220 : Cond.instanceMethod yX6_linesOfItem ∈ goodTbl := gwt5 189 rfl rfl
set_option maxRecDepth 100000 in
theorem wd_1221 : Cond.code yX6_linesOfItem cX6_linesOfItem 3 (some .int) ∈ goodTbl := gwt5 190 rfl rfl
set_option maxRecDepth 100000 in
theorem wd_1222 : Cond.methodLink RL 57 yX6_ofTill ∈ goodTbl := gwt5 191 rfl rfl
set_option maxRecDepth 100000 in
theorem wd_1223 : Cond.instanceMethod yX6_ofTill ∈ goodTbl := gwt5 192 rfl rfl
set_option maxRecDepth 100000 in
theorem wd_1224 : Cond.selects RX6 yX6_ofTill yX6_ofTill ∈ goodTbl := gwt5 193 rfl rfl
set_option maxRecDepth 100000 in
theorem wd_1225 : Cond.code yX6_ofTill cX6_ofTill 3 (some .int) ∈ goodTbl := gwt5 194 rfl rfl
set_option maxRecDepth 100000 in
theorem wd_1226 : Cond.methodLink RX6 225 yX6_struckOf ∈ goodTbl := gwt5 195 rfl rfl
set_option maxRecDepth 100000 in
theorem wd_1228 : Cond.instanceMethod yX6_struckOf ∈ goodTbl := gwt5 197 rfl rfl
set_option maxRecDepth 100000 in
theorem wd_1229 : Cond.code yX6_struckOf cX6_struckOf 4 (some .int) ∈ goodTbl := gwt5 198 rfl rfl
set_option maxRecDepth 100000 in
theorem wd_1230 : Cond.methodLink RL 61 yX6_ofReceipt ∈ goodTbl := gwt5 199 rfl rfl
set_option maxRecDepth 100000 in
theorem wd_1231 : Cond.instanceMethod yX6_ofReceipt ∈ goodTbl := gwt5 200 rfl rfl
set_option maxRecDepth 100000 in
theorem wd_1232 : Cond.selects RX6 yX6_ofReceipt yX6_ofReceipt ∈ goodTbl := gwt5 201 rfl rfl
set_option maxRecDepth 100000 in
theorem wd_1233 : Cond.code yX6_ofReceipt cX6_ofReceipt 4 (some .int) ∈ goodTbl := gwt5 202 rfl rfl
set_option maxRecDepth 100000 in
theorem wd_1234 : Cond.methodLink RL 65 yX6_sign ∈ goodTbl := gwt5 203 rfl rfl
set_option maxRecDepth 100000 in
theorem wd_1235 : Cond.instanceMethod yX6_sign ∈ goodTbl := gwt5 204 rfl rfl
set_option maxRecDepth 100000 in
theorem wd_1236 : Cond.selects RX6 yX6_sign yX6_sign ∈ goodTbl := gwt5 205 rfl rfl
set_option maxRecDepth 100000 in
theorem wd_1237 : Cond.code yX6_sign cX6_sign 5 (some .int) ∈ goodTbl := gwt5 206 rfl rfl
set_option maxRecDepth 100000 in
theorem wd_1238 : Cond.methodLink RX6 228 yX6_signAt ∈ goodTbl := gwt5 207 rfl rfl
set_option maxRecDepth 100000 in
theorem wd_1240 : Cond.instanceMethod yX6_signAt ∈ goodTbl := gwt5 209 rfl rfl
set_option maxRecDepth 100000 in
theorem wd_1241 : Cond.code yX6_signAt cX6_signAt 4 (some .int) ∈ goodTbl := gwt5 210 rfl rfl
set_option maxRecDepth 100000 in
theorem wd_1242 : Cond.methodLink RL 69 yX6_waiting ∈ goodTbl := gwt5 211 rfl rfl
set_option maxRecDepth 100000 in
theorem wd_1243 : Cond.instanceMethod yX6_waiting ∈ goodTbl := gwt5 212 rfl rfl
set_option maxRecDepth 100000 in
theorem wd_1244 : Cond.selects RX6 yX6_waiting yX6_waiting ∈ goodTbl := gwt5 213 rfl rfl
set_option maxRecDepth 100000 in
theorem wd_1245 : Cond.code yX6_waiting cX6_waiting 3 (some .int) ∈ goodTbl := gwt5 214 rfl rfl
set_option maxRecDepth 100000 in
theorem wd_1246 : Cond.methodLink RL 73 yX6_printer ∈ goodTbl := gwt5 215 rfl rfl
set_option maxRecDepth 100000 in
theorem wd_1247 : Cond.instanceMethod yX6_printer ∈ goodTbl := gwt5 216 rfl rfl
set_option maxRecDepth 100000 in
theorem wd_1248 : Cond.selects RX6 yX6_printer yX6_printer ∈ goodTbl := gwt5 217 rfl rfl
set_option maxRecDepth 100000 in
theorem wd_1249 : Cond.code yX6_printer cX6_printer 3 (some .int) ∈ goodTbl := gwt5 218 rfl rfl
set_option maxRecDepth 100000 in
theorem wd_1250 : Cond.methodLink RL 77 yX6_count ∈ goodTbl := gwt5 219 rfl rfl
set_option maxRecDepth 100000 in
theorem wd_1251 : Cond.instanceMethod yX6_count ∈ goodTbl := gwt5 220 rfl rfl
set_option maxRecDepth 100000 in
theorem wd_1252 : Cond.selects RX6 yX6_count yX6_count ∈ goodTbl := gwt5 221 rfl rfl
set_option maxRecDepth 100000 in
theorem wd_1253 : Cond.code yX6_count cX6_count 2 (some .int) ∈ goodTbl := gwt5 222 rfl rfl
set_option maxRecDepth 100000 in
theorem wd_1254 : Cond.methodLink RL 81 yX6_between ∈ goodTbl := gwt5 223 rfl rfl
set_option maxRecDepth 100000 in
theorem wd_1255 : Cond.instanceMethod yX6_between ∈ goodTbl := gwt5 224 rfl rfl
set_option maxRecDepth 100000 in
theorem wd_1256 : Cond.selects RX6 yX6_between yX6_between ∈ goodTbl := gwt5 225 rfl rfl
set_option maxRecDepth 100000 in
theorem wd_1257 : Cond.code yX6_between cX6_between 9 (some .int) ∈ goodTbl := gwt5 226 rfl rfl
set_option maxRecDepth 100000 in
theorem wd_1258 : Cond.methodLink RL 85 yX6_doneIn ∈ goodTbl := gwt5 227 rfl rfl
set_option maxRecDepth 100000 in
theorem wd_1259 : Cond.instanceMethod yX6_doneIn ∈ goodTbl := gwt5 228 rfl rfl
set_option maxRecDepth 100000 in
theorem wd_1260 : Cond.selects RX6 yX6_doneIn yX6_doneIn ∈ goodTbl := gwt5 229 rfl rfl
set_option maxRecDepth 100000 in
theorem wd_1261 : Cond.code yX6_doneIn cX6_doneIn 4 (some .int) ∈ goodTbl := gwt5 230 rfl rfl
set_option maxRecDepth 100000 in
theorem wd_1262 : Cond.methodLink RX6 234 yX6_linesUpTo ∈ goodTbl := gwt5 231 rfl rfl
set_option maxRecDepth 100000 in
theorem wd_1264 : Cond.instanceMethod yX6_linesUpTo ∈ goodTbl := gwt5 233 rfl rfl
set_option maxRecDepth 100000 in
theorem wd_1265 : Cond.code yX6_linesUpTo cX6_linesUpTo 5 (some .int) ∈ goodTbl := gwt5 234 rfl rfl
set_option maxRecDepth 100000 in
theorem wd_1266 : Cond.methodLink RX6 231 yX6_leftOf ∈ goodTbl := gwt5 235 rfl rfl
set_option maxRecDepth 100000 in
theorem wd_1268 : Cond.instanceMethod yX6_leftOf ∈ goodTbl := gwt5 237 rfl rfl
set_option maxRecDepth 100000 in
theorem wd_1269 : Cond.code yX6_leftOf cX6_leftOf 2 (some .int) ∈ goodTbl := gwt5 238 rfl rfl
set_option maxRecDepth 100000 in
theorem wd_1270 : Cond.methodLink RX6 237 yX6_ticksFor ∈ goodTbl := gwt5 239 rfl rfl
set_option maxRecDepth 100000 in
theorem wd_1272 : Cond.instanceMethod yX6_ticksFor ∈ goodTbl := gwt6 1 rfl rfl
set_option maxRecDepth 100000 in
theorem wd_1273 : Cond.code yX6_ticksFor cX6_ticksFor 2 (some .int) ∈ goodTbl := gwt6 2 rfl rfl
set_option maxRecDepth 100000 in
theorem wd_1274 : Cond.methodLink RL 89 yX6_linesLeft ∈ goodTbl := gwt6 3 rfl rfl
set_option maxRecDepth 100000 in
theorem wd_1275 : Cond.instanceMethod yX6_linesLeft ∈ goodTbl := gwt6 4 rfl rfl
set_option maxRecDepth 100000 in
theorem wd_1276 : Cond.selects RX6 yX6_linesLeft yX6_linesLeft ∈ goodTbl := gwt6 5 rfl rfl
set_option maxRecDepth 100000 in
theorem wd_1277 : Cond.code yX6_linesLeft cX6_linesLeft 1 (some .int) ∈ goodTbl := gwt6 6 rfl rfl
set_option maxRecDepth 100000 in
theorem wd_1278 : Cond.methodLink RX6 240 yX6_allLeft ∈ goodTbl := gwt6 7 rfl rfl
set_option maxRecDepth 100000 in
theorem wd_1280 : Cond.instanceMethod yX6_allLeft ∈ goodTbl := gwt6 9 rfl rfl
set_option maxRecDepth 100000 in
theorem wd_1281 : Cond.code yX6_allLeft cX6_allLeft 3 (some .int) ∈ goodTbl := gwt6 10 rfl rfl
set_option maxRecDepth 100000 in
theorem wd_1282 : Cond.methodLink RL 93 yX6_outIn ∈ goodTbl := gwt6 11 rfl rfl
set_option maxRecDepth 100000 in
theorem wd_1283 : Cond.instanceMethod yX6_outIn ∈ goodTbl := gwt6 12 rfl rfl
set_option maxRecDepth 100000 in
theorem wd_1284 : Cond.selects RX6 yX6_outIn yX6_outIn ∈ goodTbl := gwt6 13 rfl rfl
set_option maxRecDepth 100000 in
theorem wd_1285 : Cond.code yX6_outIn cX6_outIn 1 (some .int) ∈ goodTbl := gwt6 14 rfl rfl
set_option maxRecDepth 100000 in
theorem wd_1286 : Cond.methodLink RL 97 yX6_bestWidth ∈ goodTbl := gwt6 15 rfl rfl
set_option maxRecDepth 100000 in
theorem wd_1287 : Cond.instanceMethod yX6_bestWidth ∈ goodTbl := gwt6 16 rfl rfl
set_option maxRecDepth 100000 in
theorem wd_1288 : Cond.selects RX6 yX6_bestWidth yX6_bestWidth ∈ goodTbl := gwt6 17 rfl rfl
set_option maxRecDepth 100000 in
theorem wd_1289 : Cond.code yX6_bestWidth cX6_bestWidth 7 (some .int) ∈ goodTbl := gwt6 18 rfl rfl
set_option maxRecDepth 100000 in
theorem wd_1290 : Cond.methodLink RL 101 yX6_ifStruck ∈ goodTbl := gwt6 19 rfl rfl
set_option maxRecDepth 100000 in
theorem wd_1291 : Cond.instanceMethod yX6_ifStruck ∈ goodTbl := gwt6 20 rfl rfl
set_option maxRecDepth 100000 in
theorem wd_1292 : Cond.selects RX6 yX6_ifStruck yX6_ifStruck ∈ goodTbl := gwt6 21 rfl rfl
set_option maxRecDepth 100000 in
theorem wd_1293 : Cond.code yX6_ifStruck cX6_ifStruck 3 (some .int) ∈ goodTbl := gwt6 22 rfl rfl
set_option maxRecDepth 100000 in
theorem wd_1294 : Cond.methodLink RL 108 yX6_put ∈ goodTbl := gwt6 23 rfl rfl
set_option maxRecDepth 100000 in
theorem wd_1295 : Cond.instanceMethod yX6_put ∈ goodTbl := gwt6 24 rfl rfl
set_option maxRecDepth 100000 in
theorem wd_1296 : Cond.selects RX6 yX6_put yX6_put ∈ goodTbl := gwt6 25 rfl rfl
set_option maxRecDepth 100000 in
theorem wd_1297 : Cond.code yX6_put cX6_put 8 (some .int) ∈ goodTbl := gwt6 26 rfl rfl
set_option maxRecDepth 100000 in
theorem wd_1298 : Cond.constantLong RX6 243 (255 : Int64) ∈ goodTbl := gwt6 27 rfl rfl
set_option maxRecDepth 100000 in
theorem wd_1299 : Cond.methodLink RL 112 yX6_wipe ∈ goodTbl := gwt6 28 rfl rfl
set_option maxRecDepth 100000 in
theorem wd_1300 : Cond.instanceMethod yX6_wipe ∈ goodTbl := gwt6 29 rfl rfl
set_option maxRecDepth 100000 in
theorem wd_1301 : Cond.selects RX6 yX6_wipe yX6_wipe ∈ goodTbl := gwt6 30 rfl rfl
set_option maxRecDepth 100000 in
theorem wd_1302 : Cond.code yX6_wipe cX6_wipe 2 (some .int) ∈ goodTbl := gwt6 31 rfl rfl
set_option maxRecDepth 100000 in
theorem wd_1303 : Cond.methodLink RL 116 yX6_fault ∈ goodTbl := gwt6 32 rfl rfl
set_option maxRecDepth 100000 in
theorem wd_1304 : Cond.instanceMethod yX6_fault ∈ goodTbl := gwt6 33 rfl rfl
set_option maxRecDepth 100000 in
theorem wd_1305 : Cond.selects RX6 yX6_fault yX6_fault ∈ goodTbl := gwt6 34 rfl rfl
set_option maxRecDepth 100000 in
theorem wd_1306 : Cond.code yX6_fault cX6_fault 1 (some .int) ∈ goodTbl := gwt6 35 rfl rfl
set_option maxRecDepth 100000 in
theorem wd_1307 : Cond.methodLink RL 120 yX6_undo ∈ goodTbl := gwt6 36 rfl rfl
set_option maxRecDepth 100000 in
theorem wd_1308 : Cond.instanceMethod yX6_undo ∈ goodTbl := gwt6 37 rfl rfl
set_option maxRecDepth 100000 in
theorem wd_1309 : Cond.selects RX6 yX6_undo yX6_undo ∈ goodTbl := gwt6 38 rfl rfl
set_option maxRecDepth 100000 in
theorem wd_1310 : Cond.code yX6_undo cX6_undo 2 (some .int) ∈ goodTbl := gwt6 39 rfl rfl
set_option maxRecDepth 100000 in
theorem wd_1311 : Cond.methodLink RL 124 yX6_save ∈ goodTbl := gwt6 40 rfl rfl
set_option maxRecDepth 100000 in
theorem wd_1312 : Cond.instanceMethod yX6_save ∈ goodTbl := gwt6 41 rfl rfl
set_option maxRecDepth 100000 in
theorem wd_1313 : Cond.selects RX6 yX6_save yX6_save ∈ goodTbl := gwt6 42 rfl rfl
set_option maxRecDepth 100000 in
theorem wd_1314 : Cond.code yX6_save cX6_save 3 (some .int) ∈ goodTbl := gwt6 43 rfl rfl
set_option maxRecDepth 100000 in
theorem wd_1315 : Cond.methodLink RL 128 yX6_restore ∈ goodTbl := gwt6 44 rfl rfl
set_option maxRecDepth 100000 in
theorem wd_1316 : Cond.instanceMethod yX6_restore ∈ goodTbl := gwt6 45 rfl rfl
set_option maxRecDepth 100000 in
theorem wd_1317 : Cond.selects RX6 yX6_restore yX6_restore ∈ goodTbl := gwt6 46 rfl rfl
set_option maxRecDepth 100000 in
theorem wd_1318 : Cond.code yX6_restore cX6_restore 3 (some .int) ∈ goodTbl := gwt6 47 rfl rfl
set_option maxRecDepth 100000 in
theorem wd_1319 : Cond.constantLong RL 102 (4294967295 : Int64) ∈ goodTbl := gwt6 48 rfl rfl
set_option maxRecDepth 100000 in
theorem wd_1320 : Cond.sameMethod RJ5 RJ5 "length" "()I" ∈ goodTbl := gwt6 49 rfl rfl
set_option maxRecDepth 100000 in
theorem wd_1321 : Cond.sameMethod RJ5 RJ5 "charAt" "(I)C" ∈ goodTbl := gwt6 50 rfl rfl
set_option maxRecDepth 100000 in
theorem wd_1322 : Cond.selects RJ4 yJ5_length_8abf5 yJ4_length_8abf5 ∈ goodTbl := gwt6 51 rfl rfl
set_option maxRecDepth 100000 in
theorem wd_1323 : Cond.sameMethod RJ5 RJ5 "setLength" "(I)V" ∈ goodTbl := gwt6 52 rfl rfl
set_option maxRecDepth 100000 in
theorem wd_1324 : Cond.sameMethod RJ5 RJ5 "ensureCapacityInternal" "(I)V" ∈ goodTbl := gwt6 53 rfl rfl
set_option maxRecDepth 100000 in
theorem wd_1325 : Cond.sameMethod RJ5 RJ5 "newCapacity" "(I)I" ∈ goodTbl := gwt6 54 rfl rfl
set_option maxRecDepth 100000 in
theorem wd_1326 : Cond.sameMethod RJ5 RJ5 "append" "(C)Ljava/lang/AbstractStringBuilder;" ∈ goodTbl := gwt6 55 rfl rfl
theorem wd_oi : Cond.instanceMethod Lib.objectInit ∈ goodTbl := gw 96 (by decide +kernel) rfl
theorem wd_oc : Cond.code Lib.objectInit ⟨#[0xb1]⟩ 1 none ∈ goodTbl := gw 97 (by decide +kernel) rfl
theorem wd_cpy : Cond.native arraycopyName ∈ goodTbl ∧ Cond.static arraycopyName ∈ goodTbl ∧ Cond.initialized "java/lang/System" ∈ goodTbl := ⟨gw 444 (by decide +kernel) rfl, gw 443 (by decide +kernel) rfl, gw 86 (by decide +kernel) rfl⟩
theorem wd_max : Cond.static Lib.Math.max.name ∈ goodTbl ∧ Cond.initialized "java/lang/Math" ∈ goodTbl ∧ Cond.code Lib.Math.max.name Lib.Math.max.code 2 (some .int) ∈ goodTbl := ⟨gw 535 (by decide +kernel) rfl, gw 82 (by decide +kernel) rfl, gw 536 (by decide +kernel) rfl⟩
theorem wd_min : Cond.static Lib.Math.min.name ∈ goodTbl ∧ Cond.initialized "java/lang/Math" ∈ goodTbl ∧ Cond.code Lib.Math.min.name Lib.Math.min.code 2 (some .int) ∈ goodTbl := ⟨gw 382 (by decide +kernel) rfl, gw 82 (by decide +kernel) rfl, gw 383 (by decide +kernel) rfl⟩
theorem wd_abs : Cond.static Lib.Math.abs.name ∈ goodTbl ∧ Cond.initialized "java/lang/Math" ∈ goodTbl ∧ Cond.code Lib.Math.abs.name Lib.Math.abs.code 1 (some .int) ∈ goodTbl := ⟨gw 663 (by decide +kernel) rfl, gw 82 (by decide +kernel) rfl, gw 664 (by decide +kernel) rfl⟩
theorem wd_cln : Cond.sameMethod "[B" "java/lang/Object" "clone" "()Ljava/lang/Object;" ∈ goodTbl ∧ Cond.native ⟨"java/lang/Object", "clone", "()Ljava/lang/Object;"⟩ ∈ goodTbl ∧ Cond.instanceMethod ⟨"java/lang/Object", "clone", "()Ljava/lang/Object;"⟩ ∈ goodTbl ∧ Cond.selects "[B" ⟨"[B", "clone", "()Ljava/lang/Object;"⟩ ⟨"java/lang/Object", "clone", "()Ljava/lang/Object;"⟩ ∈ goodTbl := ⟨gw 446 (by decide +kernel) rfl, gw 447 (by decide +kernel) rfl, gw 448 (by decide +kernel) rfl, gw 449 (by decide +kernel) rfl⟩
theorem e_z0 {X : Cx} : ∀ s, EnvX X s → va_Z "ReceiptRolls" "LEAST_SETTINGS" "[I" (tV (.inr (.inr (X.2.2.2 0)))) (AX X) s s.heap := fun _ h => h.2.2.2.2.1.1
theorem e_z1 {X : Cx} : ∀ s, EnvX X s → va_Z "ReceiptRolls" "MOST_SETTINGS" "[I" (tV (.inr (.inr (X.2.2.2 1)))) (AX X) s s.heap := fun _ h => h.2.2.2.2.1.2.1
theorem e_z2 {X : Cx} : ∀ s, EnvX X s → va_Z "ReceiptRolls" "RATES" "[I" (tV (.inr (.inr (X.2.2.2 2)))) (AX X) s s.heap := fun _ h => h.2.2.2.2.1.2.2.1
theorem e_z3 {X : Cx} : ∀ s, EnvX X s → va_Z "jdk/internal/util/Preconditions" "SIOOBE_FORMATTER" "Ljava/util/function/BiFunction;" (tV (.inr (.inr (X.2.2.2 3)))) (AX X) s s.heap := fun _ h => h.2.2.2.2.1.2.2.2.1
theorem e_z4 {X : Cx} : ∀ s, EnvX X s → va_Z "java/lang/String" "COMPACT_STRINGS" "Z" (tV (.inl (1 : Int32))) (AX X) s s.heap := fun _ h => h.2.2.2.2.1.2.2.2.2
theorem e_s4 {X : Cx} : ∀ s, EnvX X s → ∃ a, X.2.2.2 4 = some a ∧ vk_R "ReceiptRolls$Sheet" 19 "#" a s := fun _ h => h.2.2.2.2.2.1.1
theorem e_s5 {X : Cx} : ∀ s, EnvX X s → ∃ a, X.2.2.2 5 = some a ∧ vk_R "ReceiptRolls$Sheet" 50 "void " a s := fun _ h => h.2.2.2.2.2.1.2.1
theorem e_s6 {X : Cx} : ∀ s, EnvX X s → ∃ a, X.2.2.2 6 = some a ∧ vk_R "ReceiptRolls$Sheet" 62 "sum" a s := fun _ h => h.2.2.2.2.2.1.2.2.1
theorem e_s7 {X : Cx} : ∀ s, EnvX X s → ∃ a, X.2.2.2 7 = some a ∧ vk_R "ReceiptRolls$Sheet" 76 "tax " a s := fun _ h => h.2.2.2.2.2.1.2.2.2
theorem e_mX4 {X : Cx} : ∀ s, EnvX X s → va_Nw (.methodLinkNest "ReceiptRolls$State" 31 yX2_init "ReceiptRolls") s := fun _ h => h.2.2.1.1
theorem e_mX5 {X : Cx} : ∀ s, EnvX X s → va_Nw (.methodLinkNest "ReceiptRolls" 36 yX3_init "ReceiptRolls") s := fun _ h => h.2.2.1.2
theorem e_nX3 {X : Cx} : ∀ s, EnvX X s → va_Nw (.fieldLinkNest "ReceiptRolls$Sheet" 69 "ReceiptRolls" "RATES" "[I" "ReceiptRolls") s := fun _ h => h.2.2.2.1.1
theorem e_nX2 {X : Cx} : ∀ s, EnvX X s → va_Nw (.fieldLinkNest "ReceiptRolls$Receipt" 86 "ReceiptRolls" "RATES" "[I" "ReceiptRolls") s := fun _ h => h.2.2.2.1.2
theorem lvLe_0 : lvLe [] [] := fun _ _ h => h
theorem lvLe_n {a : Option AV} {L L' : List (Option AV)} (h : lvLe L L') : lvLe (a :: L) (none :: L') := by
  intro i v hv
  cases i with
  | zero => cases hv
  | succ i => exact h i v hv
theorem lvLe_s {a : Option AV} {L L' : List (Option AV)} (h : lvLe L L') : lvLe (a :: L) (a :: L') := by
  intro i v hv
  cases i with
  | zero => exact hv
  | succ i => exact h i v hv
theorem ex_ensureCapacityInternal : Cond.selects RJ4 yJ5_ensureCapacityInternal_d00df yJ5_ensureCapacityInternal_d00df ∈ goodTbl := List.mem_append_left _ List.mem_cons_self
theorem ex_newCapacity : Cond.selects RJ4 yJ5_newCapacity_0f7a4 yJ5_newCapacity_0f7a4 ∈ goodTbl := List.mem_append_left _ (List.mem_cons_of_mem _ List.mem_cons_self)
def FU : Nat := 20000
theorem q_ldcw {X : Cx} {M : MI} {h0 h : Hp} {o : Rs} {L : List (Option AV)} {st : List AV} {pc len tgt idx : Nat} {v w : Int32} (hx : tbB M.2.1 (pc, .ldc_w idx, len, v, tgt) = true) (hw : Cond.constant M.1.cls idx w ∈ goodTbl) (g : Gd X M h0 o h (pc + 3) L (.inl w :: st)) : Gd X M h0 o h pc L st := by
  have hd := tb_len hx rfl
  exact q_w g (fun hat _ _ hl k => lv_ldcw hat.1 hat.2.1 hat.2.2.2.1 (hat.2.2.2.2.2.1 _ hw) hd (k _ hl))
