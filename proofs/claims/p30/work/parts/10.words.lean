/-! words of the tables, by their places -/
theorem gwt1 {w : Cond} (i : Nat) (h : tables_1_1[i]? = some w) (hg : goodWord w = true) : w ∈ goodTbl := List.mem_append_right _ (List.mem_filter.mpr ⟨List.mem_append_right _ (show w ∈ tables_1_1 ++ (tables_1_2 ++ (tables_1_3 ++ tables_1_4)) from List.mem_append_left _ (List.mem_of_getElem? h)), hg⟩)
theorem gwt2 {w : Cond} (i : Nat) (h : tables_1_2[i]? = some w) (hg : goodWord w = true) : w ∈ goodTbl := List.mem_append_right _ (List.mem_filter.mpr ⟨List.mem_append_right _ (show w ∈ tables_1_1 ++ (tables_1_2 ++ (tables_1_3 ++ tables_1_4)) from List.mem_append_right _ (List.mem_append_left _ (List.mem_of_getElem? h))), hg⟩)
theorem gwt3 {w : Cond} (i : Nat) (h : tables_1_3[i]? = some w) (hg : goodWord w = true) : w ∈ goodTbl := List.mem_append_right _ (List.mem_filter.mpr ⟨List.mem_append_right _ (show w ∈ tables_1_1 ++ (tables_1_2 ++ (tables_1_3 ++ tables_1_4)) from List.mem_append_right _ (List.mem_append_right _ (List.mem_append_left _ (List.mem_of_getElem? h)))), hg⟩)
theorem gwt4 {w : Cond} (i : Nat) (h : tables_1_4[i]? = some w) (hg : goodWord w = true) : w ∈ goodTbl := List.mem_append_right _ (List.mem_filter.mpr ⟨List.mem_append_right _ (show w ∈ tables_1_1 ++ (tables_1_2 ++ (tables_1_3 ++ tables_1_4)) from List.mem_append_right _ (List.mem_append_right _ (List.mem_append_right _ (List.mem_of_getElem? h)))), hg⟩)
set_option maxRecDepth 100000 in
theorem wd_0 : Cond.selects RX5 yX5_layLines yX5_layLines ∈ goodTbl := gw 0 rfl rfl
set_option maxRecDepth 100000 in
theorem wd_1 : Cond.selects RX3 yX3_begin yX3_begin ∈ goodTbl := gw 1 rfl rfl
set_option maxRecDepth 100000 in
theorem wd_2 : Cond.selects RX3 yX3_addText yX3_addText ∈ goodTbl := gw 2 rfl rfl
set_option maxRecDepth 100000 in
theorem wd_3 : Cond.selects RX3 yX3_addSign yX3_addSign ∈ goodTbl := gw 3 rfl rfl
set_option maxRecDepth 100000 in
theorem wd_4 : Cond.selects RX3 yX3_addNumber yX3_addNumber ∈ goodTbl := gw 4 rfl rfl
set_option maxRecDepth 100000 in
theorem wd_5 : Cond.selects RX3 yX3_endLine yX3_endLine ∈ goodTbl := gw 5 rfl rfl
set_option maxRecDepth 100000 in
theorem wd_6 : Cond.selects RX3 yX3_layItem yX3_layItem ∈ goodTbl := gw 6 rfl rfl
set_option maxRecDepth 100000 in
theorem wd_7 : Cond.selects RX3 yX3_layWord yX3_layWord ∈ goodTbl := gw 7 rfl rfl
set_option maxRecDepth 100000 in
theorem wd_8 : Cond.selects RX3 yX3_addMoney yX3_addMoney ∈ goodTbl := gw 8 rfl rfl
set_option maxRecDepth 100000 in
theorem wd_9 : Cond.selects RX3 yX3_layTold yX3_layTold ∈ goodTbl := gw 9 rfl rfl
set_option maxRecDepth 100000 in
theorem wd_10 : Cond.selects RX0 yX0_dropOldest yX0_dropOldest ∈ goodTbl := gw 10 rfl rfl
set_option maxRecDepth 100000 in
theorem wd_11 : Cond.selects RX2 yX2_addEvent yX2_addEvent ∈ goodTbl := gw 11 rfl rfl
set_option maxRecDepth 100000 in
theorem wd_12 : Cond.selects RX4 yX4_printLine yX4_printLine ∈ goodTbl := gw 12 rfl rfl
set_option maxRecDepth 100000 in
theorem wd_13 : Cond.selects RX4 yX4_takeReceipt yX4_takeReceipt ∈ goodTbl := gw 13 rfl rfl
set_option maxRecDepth 100000 in
theorem wd_14 : Cond.selects RX4 yX4_waitingAheadOf yX4_waitingAheadOf ∈ goodTbl := gw 14 rfl rfl
set_option maxRecDepth 100000 in
theorem wd_15 : Cond.selects RX4 yX4_finish yX4_finish ∈ goodTbl := gw 15 rfl rfl
set_option maxRecDepth 100000 in
theorem wd_16 : Cond.selects RX5 yX5_faultOfPad yX5_faultOfPad ∈ goodTbl := gw 16 rfl rfl
set_option maxRecDepth 100000 in
theorem wd_17 : Cond.initialized RL ∈ goodTbl := gwt1 0 rfl rfl
set_option maxRecDepth 100000 in
theorem wd_18 : Cond.initialized RX5 ∈ goodTbl := gwt1 1 rfl rfl
set_option maxRecDepth 100000 in
theorem wd_19 : Cond.initialized RX4 ∈ goodTbl := gwt1 2 rfl rfl
set_option maxRecDepth 100000 in
theorem wd_20 : Cond.initialized RX2 ∈ goodTbl := gwt1 3 rfl rfl
set_option maxRecDepth 100000 in
theorem wd_21 : Cond.initialized RX0 ∈ goodTbl := gwt1 4 rfl rfl
set_option maxRecDepth 100000 in
theorem wd_22 : Cond.initialized RJ5 ∈ goodTbl := gwt1 5 rfl rfl
set_option maxRecDepth 100000 in
theorem wd_23 : Cond.initialized RJ4 ∈ goodTbl := gwt1 6 rfl rfl
set_option maxRecDepth 100000 in
theorem wd_24 : Cond.initialized RJ0 ∈ goodTbl := gwt1 7 rfl rfl
set_option maxRecDepth 100000 in
theorem wd_26 : Cond.initialized RX3 ∈ goodTbl := gwt1 9 rfl rfl
set_option maxRecDepth 100000 in
theorem wd_27 : Cond.initialized RJ6 ∈ goodTbl := gwt1 10 rfl rfl
set_option maxRecDepth 100000 in
theorem wd_28 : Cond.initialized RJ1 ∈ goodTbl := gwt1 11 rfl rfl
set_option maxRecDepth 100000 in
theorem wd_29 : Cond.initialized RJ3 ∈ goodTbl := gwt1 12 rfl rfl
set_option maxRecDepth 100000 in
theorem wd_31 : Cond.initialized RJ8 ∈ goodTbl := gwt1 14 rfl rfl
set_option maxRecDepth 100000 in
theorem wd_32 : Cond.initialized RJ7 ∈ goodTbl := gwt1 15 rfl rfl
set_option maxRecDepth 100000 in
theorem wd_34 : Cond.initialized RX1 ∈ goodTbl := gwt1 17 rfl rfl
set_option maxRecDepth 100000 in
theorem wd_35 : Cond.classLink RL 13 RX5 ∈ goodTbl := gwt1 18 rfl rfl
set_option maxRecDepth 100000 in
theorem wd_36 : Cond.instantiable RX5 5 ∈ goodTbl := gwt1 19 rfl rfl
set_option maxRecDepth 100000 in
theorem wd_37 : Cond.methodLink RL 79 yX5_init ∈ goodTbl := gwt1 20 rfl rfl
set_option maxRecDepth 100000 in
theorem wd_38 : Cond.instanceMethod yX5_init ∈ goodTbl := gwt1 21 rfl rfl
set_option maxRecDepth 100000 in
theorem wd_39 : Cond.code yX5_init cX5_init 1 none ∈ goodTbl := gwt1 22 rfl rfl
set_option maxRecDepth 100000 in
theorem wd_40 : Cond.methodLink RX5 1 Lib.objectInit ∈ goodTbl := gwt1 23 rfl rfl
set_option maxRecDepth 100000 in
theorem wd_43 : Cond.classLink RX5 7 RX4 ∈ goodTbl := gwt1 26 rfl rfl
set_option maxRecDepth 100000 in
theorem wd_44 : Cond.instantiable RX4 13 ∈ goodTbl := gwt1 27 rfl rfl
set_option maxRecDepth 100000 in
theorem wd_45 : Cond.methodLink RX5 9 yX4_init ∈ goodTbl := gwt1 28 rfl rfl
set_option maxRecDepth 100000 in
theorem wd_46 : Cond.instanceMethod yX4_init ∈ goodTbl := gwt1 29 rfl rfl
set_option maxRecDepth 100000 in
theorem wd_47 : Cond.code yX4_init cX4_init 2 none ∈ goodTbl := gwt1 30 rfl rfl
set_option maxRecDepth 100000 in
theorem wd_48 : Cond.methodLink RX4 3 Lib.objectInit ∈ goodTbl := gwt1 31 rfl rfl
set_option maxRecDepth 100000 in
theorem wd_49 : Cond.classLink RX4 22 RX2 ∈ goodTbl := gwt1 32 rfl rfl
set_option maxRecDepth 100000 in
theorem wd_51 : Cond.instantiable RX2 14 ∈ goodTbl := gwt1 34 rfl rfl
set_option maxRecDepth 100000 in
theorem wd_53 : Cond.instanceMethod yX2_init ∈ goodTbl := gwt1 36 rfl rfl
set_option maxRecDepth 100000 in
theorem wd_54 : Cond.code yX2_init cX2_init 1 none ∈ goodTbl := gwt1 37 rfl rfl
set_option maxRecDepth 100000 in
theorem wd_55 : Cond.methodLink RX2 3 Lib.objectInit ∈ goodTbl := gwt1 38 rfl rfl
set_option maxRecDepth 100000 in
theorem wd_56 : Cond.classLink RX2 9 RX1 ∈ goodTbl := gwt1 39 rfl rfl
set_option maxRecDepth 100000 in
theorem wd_58 : Cond.fieldLink RX2 21 "ReceiptRolls$Receipt" "number" "I" ∈ goodTbl := gwt1 41 rfl rfl
set_option maxRecDepth 100000 in
theorem wd_59 : Cond.fieldLink RX4 68 "ReceiptRolls$Receipt" "number" "I" ∈ goodTbl := gwt1 42 rfl rfl
set_option maxRecDepth 100000 in
theorem wd_60 : Cond.fieldLink RX5 227 "ReceiptRolls$Receipt" "number" "I" ∈ goodTbl := gwt1 43 rfl rfl
set_option maxRecDepth 100000 in
theorem wd_61 : Cond.fieldLink RX2 25 "ReceiptRolls$Receipt" "till" "I" ∈ goodTbl := gwt1 44 rfl rfl
set_option maxRecDepth 100000 in
theorem wd_62 : Cond.fieldLink RX5 211 "ReceiptRolls$Receipt" "till" "I" ∈ goodTbl := gwt1 45 rfl rfl
set_option maxRecDepth 100000 in
theorem wd_63 : Cond.fieldLink RX2 28 "ReceiptRolls$Receipt" "priority" "I" ∈ goodTbl := gwt1 46 rfl rfl
set_option maxRecDepth 100000 in
theorem wd_64 : Cond.fieldLink RX5 147 "ReceiptRolls$Receipt" "priority" "I" ∈ goodTbl := gwt1 47 rfl rfl
set_option maxRecDepth 100000 in
theorem wd_65 : Cond.fieldLink RX2 31 "ReceiptRolls$Receipt" "stage" "I" ∈ goodTbl := gwt1 48 rfl rfl
set_option maxRecDepth 100000 in
theorem wd_66 : Cond.fieldLink RX5 144 "ReceiptRolls$Receipt" "stage" "I" ∈ goodTbl := gwt1 49 rfl rfl
set_option maxRecDepth 100000 in
theorem wd_67 : Cond.fieldLink RX4 79 "ReceiptRolls$Receipt" "stage" "I" ∈ goodTbl := gwt1 50 rfl rfl
set_option maxRecDepth 100000 in
theorem wd_68 : Cond.fieldLink RX2 34 "ReceiptRolls$Receipt" "width" "I" ∈ goodTbl := gwt1 51 rfl rfl
set_option maxRecDepth 100000 in
theorem wd_69 : Cond.fieldLink RX5 217 "ReceiptRolls$Receipt" "width" "I" ∈ goodTbl := gwt1 52 rfl rfl
set_option maxRecDepth 100000 in
theorem wd_70 : Cond.fieldLink RX2 37 "ReceiptRolls$Receipt" "lines" "I" ∈ goodTbl := gwt1 53 rfl rfl
set_option maxRecDepth 100000 in
theorem wd_71 : Cond.fieldLink RX5 214 "ReceiptRolls$Receipt" "lines" "I" ∈ goodTbl := gwt1 54 rfl rfl
set_option maxRecDepth 100000 in
theorem wd_72 : Cond.fieldLink RX4 101 "ReceiptRolls$Receipt" "lines" "I" ∈ goodTbl := gwt1 55 rfl rfl
set_option maxRecDepth 100000 in
theorem wd_73 : Cond.fieldLink RX2 40 "ReceiptRolls$Receipt" "printed" "I" ∈ goodTbl := gwt1 56 rfl rfl
set_option maxRecDepth 100000 in
theorem wd_74 : Cond.fieldLink RX5 166 "ReceiptRolls$Receipt" "printed" "I" ∈ goodTbl := gwt1 57 rfl rfl
set_option maxRecDepth 100000 in
theorem wd_75 : Cond.fieldLink RX4 98 "ReceiptRolls$Receipt" "printed" "I" ∈ goodTbl := gwt1 58 rfl rfl
set_option maxRecDepth 100000 in
theorem wd_76 : Cond.fieldLink RX2 43 "ReceiptRolls$Receipt" "doneTick" "I" ∈ goodTbl := gwt1 59 rfl rfl
set_option maxRecDepth 100000 in
theorem wd_77 : Cond.fieldLink RX5 218 "ReceiptRolls$Receipt" "doneTick" "I" ∈ goodTbl := gwt1 60 rfl rfl
set_option maxRecDepth 100000 in
theorem wd_78 : Cond.fieldLink RX4 113 "ReceiptRolls$Receipt" "doneTick" "I" ∈ goodTbl := gwt1 61 rfl rfl
set_option maxRecDepth 100000 in
theorem wd_79 : Cond.fieldLink RX2 46 "ReceiptRolls$Receipt" "doneRank" "I" ∈ goodTbl := gwt1 62 rfl rfl
set_option maxRecDepth 100000 in
theorem wd_80 : Cond.fieldLink RX4 116 "ReceiptRolls$Receipt" "doneRank" "I" ∈ goodTbl := gwt1 63 rfl rfl
set_option maxRecDepth 100000 in
theorem wd_81 : Cond.fieldLink RX2 49 "ReceiptRolls$Receipt" "items" "I" ∈ goodTbl := gwt1 64 rfl rfl
set_option maxRecDepth 100000 in
theorem wd_82 : Cond.fieldLink RX5 67 "ReceiptRolls$Receipt" "items" "I" ∈ goodTbl := gwt1 65 rfl rfl
set_option maxRecDepth 100000 in
theorem wd_83 : Cond.fieldLink RX3 32 "ReceiptRolls$Receipt" "events" "I" ∈ goodTbl := gwt1 66 rfl rfl
set_option maxRecDepth 100000 in
theorem wd_84 : Cond.fieldLink RX2 52 "ReceiptRolls$Receipt" "events" "I" ∈ goodTbl := gwt1 67 rfl rfl
set_option maxRecDepth 100000 in
theorem wd_85 : Cond.fieldLink RX2 55 "ReceiptRolls$Receipt" "struck" "I" ∈ goodTbl := gwt1 68 rfl rfl
set_option maxRecDepth 100000 in
theorem wd_86 : Cond.fieldLink RX2 11 "ReceiptRolls$Receipt" "rung" "[LReceiptRolls$Item;" ∈ goodTbl := gwt1 69 rfl rfl
set_option maxRecDepth 100000 in
theorem wd_87 : Cond.fieldLink RX2 17 "ReceiptRolls$Receipt" "happened" "[I" ∈ goodTbl := gwt1 70 rfl rfl
set_option maxRecDepth 100000 in
theorem wd_88 : Cond.fieldLink RX3 38 "ReceiptRolls$Receipt" "happened" "[I" ∈ goodTbl := gwt1 71 rfl rfl
set_option maxRecDepth 100000 in
theorem wd_118 : Cond.arrayClass .int ∈ goodTbl := gwt1 101 rfl rfl
set_option maxRecDepth 100000 in
theorem wd_119 : Cond.fieldLink RX4 9 "ReceiptRolls$State" "rollLeft" "I" ∈ goodTbl := gwt1 102 rfl rfl
set_option maxRecDepth 100000 in
theorem wd_120 : Cond.fieldLink RX5 150 "ReceiptRolls$State" "rollLeft" "I" ∈ goodTbl := gwt1 103 rfl rfl
set_option maxRecDepth 100000 in
theorem wd_121 : Cond.fieldLink RX4 32 "ReceiptRolls$State" "linesPrinted" "I" ∈ goodTbl := gwt1 104 rfl rfl
set_option maxRecDepth 100000 in
theorem wd_122 : Cond.fieldLink RX5 230 "ReceiptRolls$State" "linesPrinted" "I" ∈ goodTbl := gwt1 105 rfl rfl
set_option maxRecDepth 100000 in
theorem wd_123 : Cond.fieldLink RX4 35 "ReceiptRolls$State" "linesSpoilt" "I" ∈ goodTbl := gwt1 106 rfl rfl
set_option maxRecDepth 100000 in
theorem wd_124 : Cond.fieldLink RX5 172 "ReceiptRolls$State" "linesSpoilt" "I" ∈ goodTbl := gwt1 107 rfl rfl
set_option maxRecDepth 100000 in
theorem wd_125 : Cond.fieldLink RX4 15 "ReceiptRolls$State" "rolls" "I" ∈ goodTbl := gwt1 108 rfl rfl
set_option maxRecDepth 100000 in
theorem wd_126 : Cond.fieldLink RX5 160 "ReceiptRolls$State" "rolls" "I" ∈ goodTbl := gwt1 109 rfl rfl
set_option maxRecDepth 100000 in
theorem wd_127 : Cond.fieldLink RX4 38 "ReceiptRolls$State" "linesThrown" "I" ∈ goodTbl := gwt1 110 rfl rfl
set_option maxRecDepth 100000 in
theorem wd_128 : Cond.fieldLink RX5 153 "ReceiptRolls$State" "linesThrown" "I" ∈ goodTbl := gwt1 111 rfl rfl
set_option maxRecDepth 100000 in
theorem wd_129 : Cond.fieldLink RX4 41 "ReceiptRolls$State" "ticks" "I" ∈ goodTbl := gwt1 112 rfl rfl
set_option maxRecDepth 100000 in
theorem wd_130 : Cond.fieldLink RX5 175 "ReceiptRolls$State" "ticks" "I" ∈ goodTbl := gwt1 113 rfl rfl
set_option maxRecDepth 100000 in
theorem wd_131 : Cond.fieldLink RX4 44 "ReceiptRolls$State" "closed" "I" ∈ goodTbl := gwt1 114 rfl rfl
set_option maxRecDepth 100000 in
theorem wd_132 : Cond.fieldLink RX5 114 "ReceiptRolls$State" "closed" "I" ∈ goodTbl := gwt1 115 rfl rfl
set_option maxRecDepth 100000 in
theorem wd_133 : Cond.fieldLink RX4 47 "ReceiptRolls$State" "done" "I" ∈ goodTbl := gwt1 116 rfl rfl
set_option maxRecDepth 100000 in
theorem wd_134 : Cond.fieldLink RX5 117 "ReceiptRolls$State" "done" "I" ∈ goodTbl := gwt1 117 rfl rfl
set_option maxRecDepth 100000 in
theorem wd_135 : Cond.fieldLink RX4 50 "ReceiptRolls$State" "itemsStruck" "I" ∈ goodTbl := gwt1 118 rfl rfl
set_option maxRecDepth 100000 in
theorem wd_136 : Cond.fieldLink RX5 101 "ReceiptRolls$State" "itemsStruck" "I" ∈ goodTbl := gwt1 119 rfl rfl
set_option maxRecDepth 100000 in
theorem wd_137 : Cond.fieldLink RX4 53 "ReceiptRolls$State" "printing" "I" ∈ goodTbl := gwt1 120 rfl rfl
set_option maxRecDepth 100000 in
theorem wd_138 : Cond.fieldLink RX5 163 "ReceiptRolls$State" "printing" "I" ∈ goodTbl := gwt1 121 rfl rfl
set_option maxRecDepth 100000 in
theorem wd_139 : Cond.fieldLink RX4 18 "ReceiptRolls$State" "settings" "[I" ∈ goodTbl := gwt1 122 rfl rfl
set_option maxRecDepth 100000 in
theorem wd_140 : Cond.fieldLink RX4 24 "ReceiptRolls$State" "open" "[LReceiptRolls$Receipt;" ∈ goodTbl := gwt1 123 rfl rfl
set_option maxRecDepth 100000 in
theorem wd_141 : Cond.fieldLink RX4 28 "ReceiptRolls$State" "ledger" "[LReceiptRolls$Receipt;" ∈ goodTbl := gwt1 124 rfl rfl
set_option maxRecDepth 100000 in
theorem wd_169 : Cond.classLink RX5 16 RX0 ∈ goodTbl := gwt1 152 rfl rfl
set_option maxRecDepth 100000 in
theorem wd_170 : Cond.instantiable RX0 2 ∈ goodTbl := gwt1 153 rfl rfl
set_option maxRecDepth 100000 in
theorem wd_171 : Cond.methodLink RX5 18 yX0_init ∈ goodTbl := gwt1 154 rfl rfl
set_option maxRecDepth 100000 in
theorem wd_172 : Cond.instanceMethod yX0_init ∈ goodTbl := gwt1 155 rfl rfl
set_option maxRecDepth 100000 in
theorem wd_173 : Cond.code yX0_init cX0_init 2 none ∈ goodTbl := gwt1 156 rfl rfl
set_option maxRecDepth 100000 in
theorem wd_174 : Cond.methodLink RX0 3 Lib.objectInit ∈ goodTbl := gwt1 157 rfl rfl
set_option maxRecDepth 100000 in
theorem wd_175 : Cond.classLink RX0 9 RX4 ∈ goodTbl := gwt1 158 rfl rfl
set_option maxRecDepth 100000 in
theorem wd_177 : Cond.methodLink RX0 17 yX4_init ∈ goodTbl := gwt1 160 rfl rfl
set_option maxRecDepth 100000 in
theorem wd_178 : Cond.fieldLink RX0 18 "ReceiptRolls$History" "kept" "I" ∈ goodTbl := gwt1 161 rfl rfl
set_option maxRecDepth 100000 in
theorem wd_179 : Cond.fieldLink RX5 237 "ReceiptRolls$History" "kept" "I" ∈ goodTbl := gwt1 162 rfl rfl
set_option maxRecDepth 100000 in
theorem wd_180 : Cond.fieldLink RX0 11 "ReceiptRolls$History" "states" "[LReceiptRolls$State;" ∈ goodTbl := gwt1 163 rfl rfl
set_option maxRecDepth 100000 in
theorem wd_186 : Cond.classLink RX5 27 RJ4 ∈ goodTbl := gwt1 169 rfl rfl
set_option maxRecDepth 100000 in
theorem wd_187 : Cond.instantiable RJ4 4 ∈ goodTbl := gwt1 170 rfl rfl
set_option maxRecDepth 100000 in
theorem wd_188 : Cond.methodLink RX5 29 yJ4_init_da8c8 ∈ goodTbl := gwt1 171 rfl rfl
set_option maxRecDepth 100000 in
theorem wd_189 : Cond.instanceMethod yJ4_init_da8c8 ∈ goodTbl := gwt1 172 rfl rfl
set_option maxRecDepth 100000 in
theorem wd_190 : Cond.code yJ4_init_da8c8 cJ4_init_da8c8 1 none ∈ goodTbl := gwt1 173 rfl rfl
set_option maxRecDepth 100000 in
theorem wd_191 : Cond.methodLink RJ4 1 yJ5_init_d00df ∈ goodTbl := gwt1 174 rfl rfl
set_option maxRecDepth 100000 in
theorem wd_192 : Cond.instanceMethod yJ5_init_d00df ∈ goodTbl := gwt1 175 rfl rfl
set_option maxRecDepth 100000 in
theorem wd_193 : Cond.code yJ5_init_d00df cJ5_init_d00df 2 none ∈ goodTbl := gwt1 176 rfl rfl
set_option maxRecDepth 100000 in
theorem wd_194 : Cond.methodLink RJ5 3 Lib.objectInit ∈ goodTbl := gwt1 177 rfl rfl
set_option maxRecDepth 100000 in
theorem wd_195 : Cond.fieldLink RJ5 18 "java/lang/String" "COMPACT_STRINGS" "Z" ∈ goodTbl := gwt1 178 rfl rfl
set_option maxRecDepth 100000 in
theorem wd_204 : Cond.fieldLink RJ5 15 "java/lang/AbstractStringBuilder" "value" "[B" ∈ goodTbl := gwt1 187 rfl rfl
set_option maxRecDepth 100000 in
theorem wd_205 : Cond.fieldLink RJ5 22 "java/lang/AbstractStringBuilder" "coder" "B" ∈ goodTbl := gwt1 188 rfl rfl
set_option maxRecDepth 100000 in
theorem wd_206 : Cond.fieldLink RJ5 73 "java/lang/AbstractStringBuilder" "maybeLatin1" "Z" ∈ goodTbl := gwt1 189 rfl rfl
set_option maxRecDepth 100000 in
theorem wd_207 : Cond.fieldLink RJ0 1048 "java/lang/AbstractStringBuilder" "maybeLatin1" "Z" ∈ goodTbl := gwt1 190 rfl rfl
set_option maxRecDepth 100000 in
theorem wd_208 : Cond.fieldLink RJ5 79 "java/lang/AbstractStringBuilder" "count" "I" ∈ goodTbl := gwt1 191 rfl rfl
set_option maxRecDepth 100000 in
theorem wd_217 : Cond.superclass RJ4 RJ5 ∈ goodTbl := gwt1 200 rfl rfl
set_option maxRecDepth 100000 in
theorem wd_218 : Cond.arrayClass .byte ∈ goodTbl := gwt1 201 rfl rfl
set_option maxRecDepth 100000 in
theorem wd_219 : Cond.classLink RX5 34 RX3 ∈ goodTbl := gwt1 202 rfl rfl
set_option maxRecDepth 100000 in
theorem wd_220 : Cond.instantiable RX3 6 ∈ goodTbl := gwt1 203 rfl rfl
set_option maxRecDepth 100000 in
theorem wd_222 : Cond.instanceMethod yX3_init ∈ goodTbl := gwt1 205 rfl rfl
set_option maxRecDepth 100000 in
theorem wd_223 : Cond.code yX3_init cX3_init 1 none ∈ goodTbl := gwt1 206 rfl rfl
set_option maxRecDepth 100000 in
theorem wd_224 : Cond.methodLink RX3 3 Lib.objectInit ∈ goodTbl := gwt1 207 rfl rfl
set_option maxRecDepth 100000 in
theorem wd_225 : Cond.fieldLink RX3 84 "ReceiptRolls$Sheet" "width" "I" ∈ goodTbl := gwt1 208 rfl rfl
set_option maxRecDepth 100000 in
theorem wd_226 : Cond.fieldLink RX5 128 "ReceiptRolls$Sheet" "width" "I" ∈ goodTbl := gwt1 209 rfl rfl
set_option maxRecDepth 100000 in
theorem wd_227 : Cond.fieldLink RX3 81 "ReceiptRolls$Sheet" "line" "I" ∈ goodTbl := gwt1 210 rfl rfl
set_option maxRecDepth 100000 in
theorem wd_228 : Cond.fieldLink RX5 131 "ReceiptRolls$Sheet" "line" "I" ∈ goodTbl := gwt1 211 rfl rfl
set_option maxRecDepth 100000 in
theorem wd_229 : Cond.fieldLink RX3 90 "ReceiptRolls$Sheet" "firstAlike" "I" ∈ goodTbl := gwt1 212 rfl rfl
set_option maxRecDepth 100000 in
theorem wd_230 : Cond.fieldLink RX5 169 "ReceiptRolls$Sheet" "firstAlike" "I" ∈ goodTbl := gwt1 213 rfl rfl
set_option maxRecDepth 100000 in
theorem wd_231 : Cond.fieldLink RX3 87 "ReceiptRolls$Sheet" "wanted" "I" ∈ goodTbl := gwt1 214 rfl rfl
set_option maxRecDepth 100000 in
theorem wd_232 : Cond.fieldLink RX3 93 "ReceiptRolls$Sheet" "column" "I" ∈ goodTbl := gwt1 215 rfl rfl
set_option maxRecDepth 100000 in
theorem wd_233 : Cond.fieldLink RX3 9 "ReceiptRolls$Sheet" "signs" "[C" ∈ goodTbl := gwt1 216 rfl rfl
set_option maxRecDepth 100000 in
theorem wd_247 : Cond.arrayClass .char ∈ goodTbl := gwt1 230 rfl rfl
set_option maxRecDepth 100000 in
theorem wd_248 : Cond.fieldLink RX5 10 "ReceiptRolls" "now" "LReceiptRolls$State;" ∈ goodTbl := gwt1 231 rfl rfl
set_option maxRecDepth 100000 in
theorem wd_249 : Cond.fieldLink RX5 19 "ReceiptRolls" "history" "LReceiptRolls$History;" ∈ goodTbl := gwt1 232 rfl rfl
set_option maxRecDepth 100000 in
theorem wd_250 : Cond.fieldLink RX5 23 "ReceiptRolls" "slots" "[LReceiptRolls$State;" ∈ goodTbl := gwt1 233 rfl rfl
set_option maxRecDepth 100000 in
theorem wd_251 : Cond.fieldLink RX5 30 "ReceiptRolls" "pad" "Ljava/lang/StringBuilder;" ∈ goodTbl := gwt1 234 rfl rfl
set_option maxRecDepth 100000 in
theorem wd_252 : Cond.fieldLink RX5 37 "ReceiptRolls" "sheet" "LReceiptRolls$Sheet;" ∈ goodTbl := gwt1 235 rfl rfl
set_option maxRecDepth 100000 in
theorem wd_264 : Cond.methodLink RL 25 yX5_ofReceipt ∈ goodTbl := gwt2 7 rfl rfl
set_option maxRecDepth 100000 in
theorem wd_265 : Cond.instanceMethod yX5_ofReceipt ∈ goodTbl := gwt2 8 rfl rfl
set_option maxRecDepth 100000 in
theorem wd_266 : Cond.selects RX5 yX5_ofReceipt yX5_ofReceipt ∈ goodTbl := gwt2 9 rfl rfl
set_option maxRecDepth 100000 in
theorem wd_267 : Cond.code yX5_ofReceipt cX5_ofReceipt 4 (some .int) ∈ goodTbl := gwt2 10 rfl rfl
set_option maxRecDepth 100000 in
theorem wd_268 : Cond.methodLink RX5 141 yX4_known ∈ goodTbl := gwt2 11 rfl rfl
set_option maxRecDepth 100000 in
theorem wd_269 : Cond.instanceMethod yX4_known ∈ goodTbl := gwt2 12 rfl rfl
set_option maxRecDepth 100000 in
theorem wd_270 : Cond.selects RX4 yX4_known yX4_known ∈ goodTbl := gwt2 13 rfl rfl
set_option maxRecDepth 100000 in
theorem wd_271 : Cond.code yX4_known cX4_known 4 (some (.object "ReceiptRolls$Receipt")) ∈ goodTbl := gwt2 14 rfl rfl
set_option maxRecDepth 100000 in
theorem wd_272 : Cond.methodLink RX4 71 yX4_places ∈ goodTbl := gwt2 15 rfl rfl
set_option maxRecDepth 100000 in
theorem wd_273 : Cond.instanceMethod yX4_places ∈ goodTbl := gwt2 16 rfl rfl
set_option maxRecDepth 100000 in
theorem wd_274 : Cond.selects RX4 yX4_places yX4_places ∈ goodTbl := gwt2 17 rfl rfl
set_option maxRecDepth 100000 in
theorem wd_275 : Cond.code yX4_places cX4_places 1 (some .int) ∈ goodTbl := gwt2 18 rfl rfl
set_option maxRecDepth 100000 in
theorem wd_276 : Cond.methodLink RX4 75 yX4_placeAt ∈ goodTbl := gwt2 19 rfl rfl
set_option maxRecDepth 100000 in
theorem wd_277 : Cond.instanceMethod yX4_placeAt ∈ goodTbl := gwt2 20 rfl rfl
set_option maxRecDepth 100000 in
theorem wd_278 : Cond.selects RX4 yX4_placeAt yX4_placeAt ∈ goodTbl := gwt2 21 rfl rfl
set_option maxRecDepth 100000 in
theorem wd_279 : Cond.code yX4_placeAt cX4_placeAt 3 (some (.object "ReceiptRolls$Receipt")) ∈ goodTbl := gwt2 22 rfl rfl
set_option maxRecDepth 100000 in
theorem wd_280 : Cond.methodLink RX5 203 yX2_itemsStruck ∈ goodTbl := gwt2 23 rfl rfl
set_option maxRecDepth 100000 in
theorem wd_281 : Cond.instanceMethod yX2_itemsStruck ∈ goodTbl := gwt2 24 rfl rfl
set_option maxRecDepth 100000 in
theorem wd_282 : Cond.selects RX2 yX2_itemsStruck yX2_itemsStruck ∈ goodTbl := gwt2 25 rfl rfl
set_option maxRecDepth 100000 in
theorem wd_283 : Cond.code yX2_itemsStruck cX2_itemsStruck 1 (some .int) ∈ goodTbl := gwt2 26 rfl rfl
set_option maxRecDepth 100000 in
theorem wd_284 : Cond.methodLink RX2 58 yJ6_bitCount_0f7a4 ∈ goodTbl := gwt2 27 rfl rfl
set_option maxRecDepth 100000 in
theorem wd_285 : Cond.static yJ6_bitCount_0f7a4 ∈ goodTbl := gwt2 28 rfl rfl
set_option maxRecDepth 100000 in
theorem wd_286 : Cond.code yJ6_bitCount_0f7a4 cJ6_bitCount_0f7a4 1 (some .int) ∈ goodTbl := gwt2 29 rfl rfl
set_option maxRecDepth 100000 in
theorem wd_287 : Cond.constant RJ6 265 (1431655765 : Int32) ∈ goodTbl := gwt2 30 rfl rfl
set_option maxRecDepth 100000 in
theorem wd_288 : Cond.constant RJ6 266 (858993459 : Int32) ∈ goodTbl := gwt2 31 rfl rfl
set_option maxRecDepth 100000 in
theorem wd_289 : Cond.constant RJ6 267 (252645135 : Int32) ∈ goodTbl := gwt2 32 rfl rfl
set_option maxRecDepth 100000 in
theorem wd_290 : Cond.methodLink RX5 205 yX2_total ∈ goodTbl := gwt2 33 rfl rfl
set_option maxRecDepth 100000 in
theorem wd_291 : Cond.instanceMethod yX2_total ∈ goodTbl := gwt2 34 rfl rfl
set_option maxRecDepth 100000 in
theorem wd_292 : Cond.selects RX2 yX2_total yX2_total ∈ goodTbl := gwt2 35 rfl rfl
set_option maxRecDepth 100000 in
theorem wd_293 : Cond.code yX2_total cX2_total 1 (some .int) ∈ goodTbl := gwt2 36 rfl rfl
set_option maxRecDepth 100000 in
theorem wd_294 : Cond.methodLink RX2 68 yX2_totalWithout ∈ goodTbl := gwt2 37 rfl rfl
set_option maxRecDepth 100000 in
theorem wd_295 : Cond.instanceMethod yX2_totalWithout ∈ goodTbl := gwt2 38 rfl rfl
set_option maxRecDepth 100000 in
theorem wd_296 : Cond.selects RX2 yX2_totalWithout yX2_totalWithout ∈ goodTbl := gwt2 39 rfl rfl
set_option maxRecDepth 100000 in
theorem wd_297 : Cond.code yX2_totalWithout cX2_totalWithout 5 (some .int) ∈ goodTbl := gwt2 40 rfl rfl
set_option maxRecDepth 100000 in
theorem wd_298 : Cond.methodLink RX2 71 yX2_itemAt ∈ goodTbl := gwt2 41 rfl rfl
set_option maxRecDepth 100000 in
theorem wd_299 : Cond.instanceMethod yX2_itemAt ∈ goodTbl := gwt2 42 rfl rfl
set_option maxRecDepth 100000 in
theorem wd_300 : Cond.selects RX2 yX2_itemAt yX2_itemAt ∈ goodTbl := gwt2 43 rfl rfl
set_option maxRecDepth 100000 in
theorem wd_301 : Cond.code yX2_itemAt cX2_itemAt 2 (some (.object "ReceiptRolls$Item")) ∈ goodTbl := gwt2 44 rfl rfl
set_option maxRecDepth 100000 in
theorem wd_302 : Cond.methodLink RX2 75 yX1_sum ∈ goodTbl := gwt2 45 rfl rfl
set_option maxRecDepth 100000 in
theorem wd_303 : Cond.instanceMethod yX1_sum ∈ goodTbl := gwt2 46 rfl rfl
set_option maxRecDepth 100000 in
theorem wd_304 : Cond.selects RX1 yX1_sum yX1_sum ∈ goodTbl := gwt2 47 rfl rfl
set_option maxRecDepth 100000 in
theorem wd_305 : Cond.code yX1_sum cX1_sum 1 (some .int) ∈ goodTbl := gwt2 48 rfl rfl
set_option maxRecDepth 100000 in
theorem wd_306 : Cond.methodLink RL 18 yX5_printer ∈ goodTbl := gwt2 49 rfl rfl
set_option maxRecDepth 100000 in
theorem wd_307 : Cond.instanceMethod yX5_printer ∈ goodTbl := gwt2 50 rfl rfl
set_option maxRecDepth 100000 in
theorem wd_308 : Cond.selects RX5 yX5_printer yX5_printer ∈ goodTbl := gwt2 51 rfl rfl
set_option maxRecDepth 100000 in
theorem wd_309 : Cond.code yX5_printer cX5_printer 2 (some .int) ∈ goodTbl := gwt2 52 rfl rfl
set_option maxRecDepth 100000 in
theorem wd_310 : Cond.methodLink RL 12 yX5_count ∈ goodTbl := gwt2 53 rfl rfl
set_option maxRecDepth 100000 in
theorem wd_311 : Cond.instanceMethod yX5_count ∈ goodTbl := gwt2 54 rfl rfl
set_option maxRecDepth 100000 in
theorem wd_312 : Cond.selects RX5 yX5_count yX5_count ∈ goodTbl := gwt2 55 rfl rfl
set_option maxRecDepth 100000 in
theorem wd_313 : Cond.code yX5_count cX5_count 2 (some .int) ∈ goodTbl := gwt2 56 rfl rfl
set_option maxRecDepth 100000 in
theorem wd_314 : Cond.methodLink RX5 233 yX4_receiptsWaiting ∈ goodTbl := gwt2 57 rfl rfl
set_option maxRecDepth 100000 in
theorem wd_315 : Cond.instanceMethod yX4_receiptsWaiting ∈ goodTbl := gwt2 58 rfl rfl
set_option maxRecDepth 100000 in
theorem wd_316 : Cond.selects RX4 yX4_receiptsWaiting yX4_receiptsWaiting ∈ goodTbl := gwt2 59 rfl rfl
set_option maxRecDepth 100000 in
theorem wd_317 : Cond.code yX4_receiptsWaiting cX4_receiptsWaiting 4 (some .int) ∈ goodTbl := gwt2 60 rfl rfl
set_option maxRecDepth 100000 in
theorem wd_318 : Cond.methodLink RX5 156 yX4_settingAt ∈ goodTbl := gwt2 61 rfl rfl
set_option maxRecDepth 100000 in
theorem wd_319 : Cond.instanceMethod yX4_settingAt ∈ goodTbl := gwt2 62 rfl rfl
set_option maxRecDepth 100000 in
theorem wd_320 : Cond.selects RX4 yX4_settingAt yX4_settingAt ∈ goodTbl := gwt2 63 rfl rfl
set_option maxRecDepth 100000 in
theorem wd_321 : Cond.code yX4_settingAt cX4_settingAt 2 (some .int) ∈ goodTbl := gwt2 64 rfl rfl
set_option maxRecDepth 100000 in
theorem wd_322 : Cond.methodLink RX5 236 yJ4_length_8abf5 ∈ goodTbl := gwt2 65 rfl rfl
set_option maxRecDepth 100000 in
theorem wd_323 : Cond.instanceMethod yJ4_length_8abf5 ∈ goodTbl := gwt2 66 rfl rfl
set_option maxRecDepth 100000 in
theorem wd_324 : Cond.selects RJ4 yJ4_length_8abf5 yJ4_length_8abf5 ∈ goodTbl := gwt2 67 rfl rfl
set_option maxRecDepth 100000 in
theorem wd_325 : Cond.code yJ4_length_8abf5 cJ4_length_8abf5 1 (some .int) ∈ goodTbl := gwt2 68 rfl rfl
set_option maxRecDepth 100000 in
theorem wd_326 : Cond.methodLink RJ4 343 yJ5_length_8abf5 ∈ goodTbl := gwt2 69 rfl rfl
set_option maxRecDepth 100000 in
theorem wd_327 : Cond.instanceMethod yJ5_length_8abf5 ∈ goodTbl := gwt2 70 rfl rfl
set_option maxRecDepth 100000 in
theorem wd_328 : Cond.code yJ5_length_8abf5 cJ5_length_8abf5 1 (some .int) ∈ goodTbl := gwt2 71 rfl rfl
set_option maxRecDepth 100000 in
theorem wd_329 : Cond.methodLink RL 92 yX5_undo ∈ goodTbl := gwt2 72 rfl rfl
set_option maxRecDepth 100000 in
theorem wd_330 : Cond.instanceMethod yX5_undo ∈ goodTbl := gwt2 73 rfl rfl
set_option maxRecDepth 100000 in
theorem wd_331 : Cond.selects RX5 yX5_undo yX5_undo ∈ goodTbl := gwt2 74 rfl rfl
set_option maxRecDepth 100000 in
theorem wd_332 : Cond.code yX5_undo cX5_undo 1 (some .int) ∈ goodTbl := gwt2 75 rfl rfl
set_option maxRecDepth 100000 in
theorem wd_333 : Cond.methodLink RX5 283 yX0_giveBack ∈ goodTbl := gwt2 76 rfl rfl
set_option maxRecDepth 100000 in
theorem wd_334 : Cond.instanceMethod yX0_giveBack ∈ goodTbl := gwt2 77 rfl rfl
set_option maxRecDepth 100000 in
theorem wd_335 : Cond.selects RX0 yX0_giveBack yX0_giveBack ∈ goodTbl := gwt2 78 rfl rfl
set_option maxRecDepth 100000 in
theorem wd_336 : Cond.code yX0_giveBack cX0_giveBack 3 none ∈ goodTbl := gwt2 79 rfl rfl
set_option maxRecDepth 100000 in
theorem wd_337 : Cond.methodLink RX0 25 yX4_copyFrom ∈ goodTbl := gwt2 80 rfl rfl
set_option maxRecDepth 100000 in
theorem wd_338 : Cond.instanceMethod yX4_copyFrom ∈ goodTbl := gwt2 81 rfl rfl
set_option maxRecDepth 100000 in
theorem wd_339 : Cond.selects RX4 yX4_copyFrom yX4_copyFrom ∈ goodTbl := gwt2 82 rfl rfl
set_option maxRecDepth 100000 in
theorem wd_340 : Cond.code yX4_copyFrom cX4_copyFrom 3 none ∈ goodTbl := gwt2 83 rfl rfl
set_option maxRecDepth 100000 in
theorem wd_341 : Cond.methodLink RX4 56 yX4_copyReceipts ∈ goodTbl := gwt2 84 rfl rfl
set_option maxRecDepth 100000 in
theorem wd_342 : Cond.static yX4_copyReceipts ∈ goodTbl := gwt2 85 rfl rfl
set_option maxRecDepth 100000 in
theorem wd_343 : Cond.code yX4_copyReceipts cX4_copyReceipts 3 none ∈ goodTbl := gwt2 86 rfl rfl
set_option maxRecDepth 100000 in
theorem wd_344 : Cond.methodLink RX4 60 yX2_copyFrom ∈ goodTbl := gwt2 87 rfl rfl
set_option maxRecDepth 100000 in
theorem wd_345 : Cond.instanceMethod yX2_copyFrom ∈ goodTbl := gwt2 88 rfl rfl
set_option maxRecDepth 100000 in
theorem wd_346 : Cond.selects RX2 yX2_copyFrom yX2_copyFrom ∈ goodTbl := gwt2 89 rfl rfl
set_option maxRecDepth 100000 in
theorem wd_347 : Cond.code yX2_copyFrom cX2_copyFrom 3 none ∈ goodTbl := gwt2 90 rfl rfl
set_option maxRecDepth 100000 in
theorem wd_348 : Cond.methodLink RL 80 yL_cell ∈ goodTbl := gwt2 91 rfl rfl
set_option maxRecDepth 100000 in
theorem wd_349 : Cond.static yL_cell ∈ goodTbl := gwt2 92 rfl rfl
set_option maxRecDepth 100000 in
theorem wd_350 : Cond.code yL_cell cL_cell 2 (some .int) ∈ goodTbl := gwt2 93 rfl rfl
set_option maxRecDepth 100000 in
theorem wd_351 : Cond.methodLink RL 84 yL_told ∈ goodTbl := gwt2 94 rfl rfl
set_option maxRecDepth 100000 in
theorem wd_352 : Cond.static yL_told ∈ goodTbl := gwt2 95 rfl rfl
set_option maxRecDepth 100000 in
theorem wd_353 : Cond.code yL_told cL_told 5 (some .long) ∈ goodTbl := gwt2 96 rfl rfl
set_option maxRecDepth 100000 in
theorem wd_354 : Cond.constantLong RL 8 (3 : Int64) ∈ goodTbl := gwt2 97 rfl rfl
set_option maxRecDepth 100000 in
theorem wd_355 : Cond.constantLong RL 10 (31 : Int64) ∈ goodTbl := gwt2 98 rfl rfl
set_option maxRecDepth 100000 in
theorem wd_356 : Cond.methodLink RL 21 yX5_ofTill ∈ goodTbl := gwt2 99 rfl rfl
set_option maxRecDepth 100000 in
theorem wd_357 : Cond.instanceMethod yX5_ofTill ∈ goodTbl := gwt2 100 rfl rfl
set_option maxRecDepth 100000 in
theorem wd_358 : Cond.selects RX5 yX5_ofTill yX5_ofTill ∈ goodTbl := gwt2 101 rfl rfl
set_option maxRecDepth 100000 in
theorem wd_359 : Cond.code yX5_ofTill cX5_ofTill 4 (some .int) ∈ goodTbl := gwt2 102 rfl rfl
set_option maxRecDepth 100000 in
theorem wd_360 : Cond.methodLink RX5 56 yX4_openAt ∈ goodTbl := gwt2 103 rfl rfl
set_option maxRecDepth 100000 in
theorem wd_361 : Cond.instanceMethod yX4_openAt ∈ goodTbl := gwt2 104 rfl rfl
set_option maxRecDepth 100000 in
theorem wd_362 : Cond.selects RX4 yX4_openAt yX4_openAt ∈ goodTbl := gwt2 105 rfl rfl
set_option maxRecDepth 100000 in
theorem wd_363 : Cond.code yX4_openAt cX4_openAt 2 (some (.object "ReceiptRolls$Receipt")) ∈ goodTbl := gwt2 106 rfl rfl
set_option maxRecDepth 100000 in
theorem wd_364 : Cond.methodLink RX5 120 yX5_layLines ∈ goodTbl := gwt2 107 rfl rfl
set_option maxRecDepth 100000 in
theorem wd_366 : Cond.instanceMethod yX5_layLines ∈ goodTbl := gwt2 109 rfl rfl
set_option maxRecDepth 100000 in
theorem wd_367 : Cond.code yX5_layLines cX5_layLines 3 (some .int) ∈ goodTbl := gwt2 110 rfl rfl
set_option maxRecDepth 100000 in
theorem wd_368 : Cond.methodLink RX5 261 yX3_lay ∈ goodTbl := gwt2 111 rfl rfl
set_option maxRecDepth 100000 in
theorem wd_369 : Cond.instanceMethod yX3_lay ∈ goodTbl := gwt2 112 rfl rfl
set_option maxRecDepth 100000 in
theorem wd_370 : Cond.selects RX3 yX3_lay yX3_lay ∈ goodTbl := gwt2 113 rfl rfl
set_option maxRecDepth 100000 in
theorem wd_371 : Cond.code yX3_lay cX3_lay 8 (some .int) ∈ goodTbl := gwt2 114 rfl rfl
set_option maxRecDepth 100000 in
theorem wd_372 : Cond.methodLink RX3 15 yX3_begin ∈ goodTbl := gwt2 115 rfl rfl
set_option maxRecDepth 100000 in
theorem wd_374 : Cond.instanceMethod yX3_begin ∈ goodTbl := gwt2 117 rfl rfl
set_option maxRecDepth 100000 in
theorem wd_375 : Cond.code yX3_begin cX3_begin 4 none ∈ goodTbl := gwt2 118 rfl rfl
set_option maxRecDepth 100000 in
theorem wd_377 : Cond.methodLink RX3 21 yX3_addText ∈ goodTbl := gwt2 120 rfl rfl
set_option maxRecDepth 100000 in
theorem wd_379 : Cond.instanceMethod yX3_addText ∈ goodTbl := gwt2 122 rfl rfl
set_option maxRecDepth 100000 in
theorem wd_380 : Cond.code yX3_addText cX3_addText 3 none ∈ goodTbl := gwt2 123 rfl rfl
set_option maxRecDepth 100000 in
theorem wd_381 : Cond.methodLink RX3 107 yJ0_length_8abf5 ∈ goodTbl := gwt2 124 rfl rfl
set_option maxRecDepth 100000 in
theorem wd_382 : Cond.instanceMethod yJ0_length_8abf5 ∈ goodTbl := gwt2 125 rfl rfl
set_option maxRecDepth 100000 in
theorem wd_383 : Cond.selects RJ0 yJ0_length_8abf5 yJ0_length_8abf5 ∈ goodTbl := gwt2 126 rfl rfl
set_option maxRecDepth 100000 in
theorem wd_384 : Cond.code yJ0_length_8abf5 cJ0_length_8abf5 1 (some .int) ∈ goodTbl := gwt2 127 rfl rfl
set_option maxRecDepth 100000 in
theorem wd_385 : Cond.methodLink RJ0 335 yJ0_coder_7d493 ∈ goodTbl := gwt2 128 rfl rfl
set_option maxRecDepth 100000 in
theorem wd_386 : Cond.instanceMethod yJ0_coder_7d493 ∈ goodTbl := gwt2 129 rfl rfl
set_option maxRecDepth 100000 in
theorem wd_387 : Cond.selects RJ0 yJ0_coder_7d493 yJ0_coder_7d493 ∈ goodTbl := gwt2 130 rfl rfl
set_option maxRecDepth 100000 in
theorem wd_388 : Cond.code yJ0_coder_7d493 cJ0_coder_7d493 1 (some .byte) ∈ goodTbl := gwt2 131 rfl rfl
set_option maxRecDepth 100000 in
theorem wd_389 : Cond.fieldLink RJ0 38 "java/lang/String" "COMPACT_STRINGS" "Z" ∈ goodTbl := gwt2 132 rfl rfl
set_option maxRecDepth 100000 in
theorem wd_390 : Cond.methodLink RX3 112 yJ0_charAt_5068e ∈ goodTbl := gwt2 133 rfl rfl
set_option maxRecDepth 100000 in
theorem wd_391 : Cond.instanceMethod yJ0_charAt_5068e ∈ goodTbl := gwt2 134 rfl rfl
set_option maxRecDepth 100000 in
theorem wd_392 : Cond.selects RJ0 yJ0_charAt_5068e yJ0_charAt_5068e ∈ goodTbl := gwt2 135 rfl rfl
set_option maxRecDepth 100000 in
theorem wd_393 : Cond.code yJ0_charAt_5068e cJ0_charAt_5068e 2 (some .char) ∈ goodTbl := gwt2 136 rfl rfl
set_option maxRecDepth 100000 in
theorem wd_394 : Cond.methodLink RJ0 492 yJ0_isLatin1_aae02 ∈ goodTbl := gwt2 137 rfl rfl
set_option maxRecDepth 100000 in
theorem wd_395 : Cond.instanceMethod yJ0_isLatin1_aae02 ∈ goodTbl := gwt2 138 rfl rfl
set_option maxRecDepth 100000 in
theorem wd_396 : Cond.selects RJ0 yJ0_isLatin1_aae02 yJ0_isLatin1_aae02 ∈ goodTbl := gwt2 139 rfl rfl
set_option maxRecDepth 100000 in
theorem wd_397 : Cond.code yJ0_isLatin1_aae02 cJ0_isLatin1_aae02 1 (some .boolean) ∈ goodTbl := gwt2 140 rfl rfl
set_option maxRecDepth 100000 in
theorem wd_398 : Cond.methodLink RJ0 495 yJ1_charAt_3b067 ∈ goodTbl := gwt2 141 rfl rfl
set_option maxRecDepth 100000 in
theorem wd_399 : Cond.static yJ1_charAt_3b067 ∈ goodTbl := gwt2 142 rfl rfl
set_option maxRecDepth 100000 in
theorem wd_400 : Cond.code yJ1_charAt_3b067 cJ1_charAt_3b067 2 (some .char) ∈ goodTbl := gwt2 143 rfl rfl
set_option maxRecDepth 100000 in
theorem wd_401 : Cond.methodLink RJ1 9 yJ0_checkIndex_df160 ∈ goodTbl := gwt2 144 rfl rfl
set_option maxRecDepth 100000 in
theorem wd_402 : Cond.static yJ0_checkIndex_df160 ∈ goodTbl := gwt2 145 rfl rfl
set_option maxRecDepth 100000 in
theorem wd_403 : Cond.code yJ0_checkIndex_df160 cJ0_checkIndex_df160 2 none ∈ goodTbl := gwt2 146 rfl rfl
set_option maxRecDepth 100000 in
theorem wd_404 : Cond.fieldLink RJ0 1053 "jdk/internal/util/Preconditions" "SIOOBE_FORMATTER" "Ljava/util/function/BiFunction;" ∈ goodTbl := gwt2 147 rfl rfl
set_option maxRecDepth 100000 in
theorem wd_406 : Cond.methodLink RJ0 1059 yJ3_checkIndex_8e157 ∈ goodTbl := gwt2 149 rfl rfl
set_option maxRecDepth 100000 in
theorem wd_407 : Cond.static yJ3_checkIndex_8e157 ∈ goodTbl := gwt2 150 rfl rfl
set_option maxRecDepth 100000 in
theorem wd_408 : Cond.code yJ3_checkIndex_8e157 cJ3_checkIndex_8e157 3 (some .int) ∈ goodTbl := gwt2 151 rfl rfl
set_option maxRecDepth 100000 in
theorem wd_428 : Cond.methodLink RX3 99 yX3_addSign ∈ goodTbl := gwt2 171 rfl rfl
set_option maxRecDepth 100000 in
theorem wd_430 : Cond.instanceMethod yX3_addSign ∈ goodTbl := gwt2 173 rfl rfl
set_option maxRecDepth 100000 in
theorem wd_431 : Cond.code yX3_addSign cX3_addSign 2 none ∈ goodTbl := gwt2 174 rfl rfl
set_option maxRecDepth 100000 in
theorem wd_432 : Cond.methodLink RX3 25 yX3_addNumber ∈ goodTbl := gwt2 175 rfl rfl
set_option maxRecDepth 100000 in
theorem wd_434 : Cond.instanceMethod yX3_addNumber ∈ goodTbl := gwt2 177 rfl rfl
set_option maxRecDepth 100000 in
theorem wd_435 : Cond.code yX3_addNumber cX3_addNumber 3 none ∈ goodTbl := gwt2 178 rfl rfl
set_option maxRecDepth 100000 in
theorem wd_436 : Cond.constant RX3 125 (1000000000 : Int32) ∈ goodTbl := gwt2 179 rfl rfl
set_option maxRecDepth 100000 in
theorem wd_437 : Cond.methodLink RX3 29 yX3_endLine ∈ goodTbl := gwt2 180 rfl rfl
set_option maxRecDepth 100000 in
theorem wd_439 : Cond.instanceMethod yX3_endLine ∈ goodTbl := gwt2 182 rfl rfl
set_option maxRecDepth 100000 in
theorem wd_440 : Cond.code yX3_endLine cX3_endLine 1 none ∈ goodTbl := gwt2 183 rfl rfl
set_option maxRecDepth 100000 in
theorem wd_441 : Cond.methodLink RX3 42 yX2_itemAt ∈ goodTbl := gwt2 184 rfl rfl
set_option maxRecDepth 100000 in
theorem wd_442 : Cond.methodLink RX3 46 yX3_layItem ∈ goodTbl := gwt2 185 rfl rfl
set_option maxRecDepth 100000 in
theorem wd_444 : Cond.instanceMethod yX3_layItem ∈ goodTbl := gwt2 187 rfl rfl
set_option maxRecDepth 100000 in
theorem wd_445 : Cond.code yX3_layItem cX3_layItem 5 none ∈ goodTbl := gwt2 188 rfl rfl
set_option maxRecDepth 100000 in
theorem wd_446 : Cond.methodLink RX3 116 yX3_layWord ∈ goodTbl := gwt2 189 rfl rfl
set_option maxRecDepth 100000 in
theorem wd_448 : Cond.instanceMethod yX3_layWord ∈ goodTbl := gwt2 191 rfl rfl
set_option maxRecDepth 100000 in
theorem wd_449 : Cond.code yX3_layWord cX3_layWord 7 none ∈ goodTbl := gwt2 192 rfl rfl
set_option maxRecDepth 100000 in
theorem wd_450 : Cond.methodLink RX3 119 Lib.Math.max.name ∈ goodTbl := gwt2 193 rfl rfl
set_option maxRecDepth 100000 in
theorem wd_453 : Cond.methodLink RX3 52 yX1_sum ∈ goodTbl := gwt2 196 rfl rfl
set_option maxRecDepth 100000 in
theorem wd_454 : Cond.methodLink RX3 66 yX3_addMoney ∈ goodTbl := gwt2 197 rfl rfl
set_option maxRecDepth 100000 in
theorem wd_456 : Cond.instanceMethod yX3_addMoney ∈ goodTbl := gwt2 199 rfl rfl
set_option maxRecDepth 100000 in
theorem wd_457 : Cond.code yX3_addMoney cX3_addMoney 4 none ∈ goodTbl := gwt2 200 rfl rfl
set_option maxRecDepth 100000 in
theorem wd_458 : Cond.methodLink RX3 126 Lib.Math.abs.name ∈ goodTbl := gwt2 201 rfl rfl
set_option maxRecDepth 100000 in
theorem wd_461 : Cond.methodLink RX3 129 yX3_digitsOf ∈ goodTbl := gwt2 204 rfl rfl
set_option maxRecDepth 100000 in
theorem wd_462 : Cond.static yX3_digitsOf ∈ goodTbl := gwt2 205 rfl rfl
set_option maxRecDepth 100000 in
theorem wd_463 : Cond.code yX3_digitsOf cX3_digitsOf 3 (some .int) ∈ goodTbl := gwt2 206 rfl rfl
set_option maxRecDepth 100000 in
theorem wd_465 : Cond.methodLink RX3 58 yX3_layTold ∈ goodTbl := gwt2 208 rfl rfl
set_option maxRecDepth 100000 in
theorem wd_467 : Cond.instanceMethod yX3_layTold ∈ goodTbl := gwt2 210 rfl rfl
set_option maxRecDepth 100000 in
theorem wd_468 : Cond.code yX3_layTold cX3_layTold 4 none ∈ goodTbl := gwt2 211 rfl rfl
set_option maxRecDepth 100000 in
theorem wd_470 : Cond.methodLink RX3 63 yX2_total ∈ goodTbl := gwt2 213 rfl rfl
set_option maxRecDepth 100000 in
theorem wd_473 : Cond.methodLink RX3 72 yX2_sumTaxed ∈ goodTbl := gwt2 216 rfl rfl
set_option maxRecDepth 100000 in
theorem wd_474 : Cond.instanceMethod yX2_sumTaxed ∈ goodTbl := gwt2 217 rfl rfl
set_option maxRecDepth 100000 in
theorem wd_475 : Cond.selects RX2 yX2_sumTaxed yX2_sumTaxed ∈ goodTbl := gwt2 218 rfl rfl
set_option maxRecDepth 100000 in
theorem wd_476 : Cond.code yX2_sumTaxed cX2_sumTaxed 5 (some .int) ∈ goodTbl := gwt2 219 rfl rfl
set_option maxRecDepth 100000 in
theorem wd_477 : Cond.methodLink RX2 82 yX2_isStruck ∈ goodTbl := gwt2 220 rfl rfl
set_option maxRecDepth 100000 in
theorem wd_478 : Cond.instanceMethod yX2_isStruck ∈ goodTbl := gwt2 221 rfl rfl
set_option maxRecDepth 100000 in
theorem wd_479 : Cond.selects RX2 yX2_isStruck yX2_isStruck ∈ goodTbl := gwt2 222 rfl rfl
set_option maxRecDepth 100000 in
theorem wd_480 : Cond.code yX2_isStruck cX2_isStruck 2 (some .boolean) ∈ goodTbl := gwt2 223 rfl rfl
set_option maxRecDepth 100000 in
theorem wd_482 : Cond.methodLink RX3 78 yX2_taxOf ∈ goodTbl := gwt2 225 rfl rfl
set_option maxRecDepth 100000 in
theorem wd_483 : Cond.instanceMethod yX2_taxOf ∈ goodTbl := gwt2 226 rfl rfl
set_option maxRecDepth 100000 in
theorem wd_484 : Cond.selects RX2 yX2_taxOf yX2_taxOf ∈ goodTbl := gwt2 227 rfl rfl
set_option maxRecDepth 100000 in
theorem wd_485 : Cond.code yX2_taxOf cX2_taxOf 4 (some .int) ∈ goodTbl := gwt2 228 rfl rfl
set_option maxRecDepth 100000 in
theorem wd_487 : Cond.methodLink RX2 89 yX2_sumTaxed ∈ goodTbl := gwt2 230 rfl rfl
set_option maxRecDepth 100000 in
theorem wd_488 : Cond.methodLink RX5 208 yX2_taxOf ∈ goodTbl := gwt2 231 rfl rfl
set_option maxRecDepth 100000 in
theorem wd_489 : Cond.methodLink RL 88 yL_act ∈ goodTbl := gwt2 232 rfl rfl
set_option maxRecDepth 100000 in
theorem wd_490 : Cond.static yL_act ∈ goodTbl := gwt2 233 rfl rfl
set_option maxRecDepth 100000 in
theorem wd_491 : Cond.code yL_act cL_act 6 (some .int) ∈ goodTbl := gwt2 234 rfl rfl
set_option maxRecDepth 100000 in
theorem wd_492 : Cond.methodLink RL 28 yL_low ∈ goodTbl := gwt2 235 rfl rfl
set_option maxRecDepth 100000 in
theorem wd_493 : Cond.static yL_low ∈ goodTbl := gwt2 236 rfl rfl
set_option maxRecDepth 100000 in
theorem wd_494 : Cond.code yL_low cL_low 2 (some .int) ∈ goodTbl := gwt2 237 rfl rfl
set_option maxRecDepth 100000 in
theorem wd_495 : Cond.constant RL 7 (2147483647 : Int32) ∈ goodTbl := gwt2 238 rfl rfl
set_option maxRecDepth 100000 in
theorem wd_496 : Cond.methodLink RL 33 yX5_close ∈ goodTbl := gwt2 239 rfl rfl
set_option maxRecDepth 100000 in
theorem wd_497 : Cond.instanceMethod yX5_close ∈ goodTbl := gwt3 0 rfl rfl
set_option maxRecDepth 100000 in
theorem wd_498 : Cond.selects RX5 yX5_close yX5_close ∈ goodTbl := gwt3 1 rfl rfl
set_option maxRecDepth 100000 in
theorem wd_499 : Cond.code yX5_close cX5_close 5 (some .int) ∈ goodTbl := gwt3 2 rfl rfl
set_option maxRecDepth 100000 in
theorem wd_500 : Cond.methodLink RX5 107 yX5_isPriority ∈ goodTbl := gwt3 3 rfl rfl
set_option maxRecDepth 100000 in
theorem wd_501 : Cond.static yX5_isPriority ∈ goodTbl := gwt3 4 rfl rfl
set_option maxRecDepth 100000 in
theorem wd_502 : Cond.code yX5_isPriority cX5_isPriority 1 (some .boolean) ∈ goodTbl := gwt3 5 rfl rfl
set_option maxRecDepth 100000 in
theorem wd_503 : Cond.methodLink RX5 110 yX4_freePlace ∈ goodTbl := gwt3 6 rfl rfl
set_option maxRecDepth 100000 in
theorem wd_504 : Cond.instanceMethod yX4_freePlace ∈ goodTbl := gwt3 7 rfl rfl
set_option maxRecDepth 100000 in
theorem wd_505 : Cond.selects RX4 yX4_freePlace yX4_freePlace ∈ goodTbl := gwt3 8 rfl rfl
set_option maxRecDepth 100000 in
theorem wd_506 : Cond.code yX4_freePlace cX4_freePlace 2 (some (.object "ReceiptRolls$Receipt")) ∈ goodTbl := gwt3 9 rfl rfl
set_option maxRecDepth 100000 in
theorem wd_507 : Cond.methodLink RX5 48 yX0_remember ∈ goodTbl := gwt3 10 rfl rfl
set_option maxRecDepth 100000 in
theorem wd_508 : Cond.instanceMethod yX0_remember ∈ goodTbl := gwt3 11 rfl rfl
set_option maxRecDepth 100000 in
theorem wd_509 : Cond.selects RX0 yX0_remember yX0_remember ∈ goodTbl := gwt3 12 rfl rfl
set_option maxRecDepth 100000 in
theorem wd_510 : Cond.code yX0_remember cX0_remember 2 none ∈ goodTbl := gwt3 13 rfl rfl
set_option maxRecDepth 100000 in
theorem wd_511 : Cond.methodLink RX0 22 yX0_dropOldest ∈ goodTbl := gwt3 14 rfl rfl
set_option maxRecDepth 100000 in
theorem wd_513 : Cond.instanceMethod yX0_dropOldest ∈ goodTbl := gwt3 16 rfl rfl
set_option maxRecDepth 100000 in
theorem wd_514 : Cond.code yX0_dropOldest cX0_dropOldest 3 none ∈ goodTbl := gwt3 17 rfl rfl
set_option maxRecDepth 100000 in
theorem wd_515 : Cond.methodLink RX5 124 yX2_copyFrom ∈ goodTbl := gwt3 18 rfl rfl
set_option maxRecDepth 100000 in
theorem wd_516 : Cond.methodLink RX5 134 yX2_closeAs ∈ goodTbl := gwt3 19 rfl rfl
set_option maxRecDepth 100000 in
theorem wd_517 : Cond.instanceMethod yX2_closeAs ∈ goodTbl := gwt3 20 rfl rfl
set_option maxRecDepth 100000 in
theorem wd_518 : Cond.selects RX2 yX2_closeAs yX2_closeAs ∈ goodTbl := gwt3 21 rfl rfl
set_option maxRecDepth 100000 in
theorem wd_519 : Cond.code yX2_closeAs cX2_closeAs 6 none ∈ goodTbl := gwt3 22 rfl rfl
set_option maxRecDepth 100000 in
theorem wd_520 : Cond.methodLink RX5 138 yX2_clear ∈ goodTbl := gwt3 23 rfl rfl
set_option maxRecDepth 100000 in
theorem wd_521 : Cond.instanceMethod yX2_clear ∈ goodTbl := gwt3 24 rfl rfl
set_option maxRecDepth 100000 in
theorem wd_522 : Cond.selects RX2 yX2_clear yX2_clear ∈ goodTbl := gwt3 25 rfl rfl
set_option maxRecDepth 100000 in
theorem wd_523 : Cond.code yX2_clear cX2_clear 1 none ∈ goodTbl := gwt3 26 rfl rfl
set_option maxRecDepth 100000 in
theorem wd_524 : Cond.methodLink RL 36 yX5_strike ∈ goodTbl := gwt3 27 rfl rfl
set_option maxRecDepth 100000 in
theorem wd_525 : Cond.instanceMethod yX5_strike ∈ goodTbl := gwt3 28 rfl rfl
set_option maxRecDepth 100000 in
theorem wd_526 : Cond.selects RX5 yX5_strike yX5_strike ∈ goodTbl := gwt3 29 rfl rfl
set_option maxRecDepth 100000 in
theorem wd_527 : Cond.code yX5_strike cX5_strike 5 (some .int) ∈ goodTbl := gwt3 30 rfl rfl
set_option maxRecDepth 100000 in
theorem wd_528 : Cond.methodLink RX5 90 yX2_itemAt ∈ goodTbl := gwt3 31 rfl rfl
set_option maxRecDepth 100000 in
theorem wd_529 : Cond.methodLink RX5 94 yX2_isStruck ∈ goodTbl := gwt3 32 rfl rfl
set_option maxRecDepth 100000 in
theorem wd_530 : Cond.methodLink RX5 98 yX2_strikeItem ∈ goodTbl := gwt3 33 rfl rfl
set_option maxRecDepth 100000 in
theorem wd_531 : Cond.instanceMethod yX2_strikeItem ∈ goodTbl := gwt3 34 rfl rfl
set_option maxRecDepth 100000 in
theorem wd_532 : Cond.selects RX2 yX2_strikeItem yX2_strikeItem ∈ goodTbl := gwt3 35 rfl rfl
set_option maxRecDepth 100000 in
theorem wd_533 : Cond.code yX2_strikeItem cX2_strikeItem 2 none ∈ goodTbl := gwt3 36 rfl rfl
set_option maxRecDepth 100000 in
theorem wd_534 : Cond.methodLink RX2 64 yX2_addEvent ∈ goodTbl := gwt3 37 rfl rfl
set_option maxRecDepth 100000 in
theorem wd_536 : Cond.instanceMethod yX2_addEvent ∈ goodTbl := gwt3 39 rfl rfl
set_option maxRecDepth 100000 in
theorem wd_537 : Cond.code yX2_addEvent cX2_addEvent 2 none ∈ goodTbl := gwt3 40 rfl rfl
set_option maxRecDepth 100000 in
theorem wd_538 : Cond.methodLink RX5 104 yX1_sum ∈ goodTbl := gwt3 41 rfl rfl
set_option maxRecDepth 100000 in
theorem wd_539 : Cond.methodLink RL 39 yX5_set ∈ goodTbl := gwt3 42 rfl rfl
set_option maxRecDepth 100000 in
theorem wd_540 : Cond.instanceMethod yX5_set ∈ goodTbl := gwt3 43 rfl rfl
set_option maxRecDepth 100000 in
theorem wd_541 : Cond.selects RX5 yX5_set yX5_set ∈ goodTbl := gwt3 44 rfl rfl
set_option maxRecDepth 100000 in
theorem wd_542 : Cond.code yX5_set cX5_set 3 (some .int) ∈ goodTbl := gwt3 45 rfl rfl
set_option maxRecDepth 100000 in
theorem wd_543 : Cond.fieldLink RX5 41 "ReceiptRolls" "LEAST_SETTINGS" "[I" ∈ goodTbl := gwt3 46 rfl rfl
set_option maxRecDepth 100000 in
theorem wd_545 : Cond.fieldLink RX5 45 "ReceiptRolls" "MOST_SETTINGS" "[I" ∈ goodTbl := gwt3 48 rfl rfl
set_option maxRecDepth 100000 in
theorem wd_547 : Cond.methodLink RX5 52 yX4_changeSetting ∈ goodTbl := gwt3 50 rfl rfl
set_option maxRecDepth 100000 in
theorem wd_548 : Cond.instanceMethod yX4_changeSetting ∈ goodTbl := gwt3 51 rfl rfl
set_option maxRecDepth 100000 in
theorem wd_549 : Cond.selects RX4 yX4_changeSetting yX4_changeSetting ∈ goodTbl := gwt3 52 rfl rfl
set_option maxRecDepth 100000 in
theorem wd_550 : Cond.code yX4_changeSetting cX4_changeSetting 4 (some .int) ∈ goodTbl := gwt3 53 rfl rfl
set_option maxRecDepth 100000 in
theorem wd_551 : Cond.methodLink RX4 64 yX4_settingAt ∈ goodTbl := gwt3 54 rfl rfl
set_option maxRecDepth 100000 in
theorem wd_552 : Cond.methodLink RL 42 yX5_newRoll ∈ goodTbl := gwt3 55 rfl rfl
set_option maxRecDepth 100000 in
theorem wd_553 : Cond.instanceMethod yX5_newRoll ∈ goodTbl := gwt3 56 rfl rfl
set_option maxRecDepth 100000 in
theorem wd_554 : Cond.selects RX5 yX5_newRoll yX5_newRoll ∈ goodTbl := gwt3 57 rfl rfl
set_option maxRecDepth 100000 in
theorem wd_555 : Cond.code yX5_newRoll cX5_newRoll 2 (some .int) ∈ goodTbl := gwt3 58 rfl rfl
set_option maxRecDepth 100000 in
theorem wd_556 : Cond.methodLink RL 46 yX5_hurry ∈ goodTbl := gwt3 59 rfl rfl
set_option maxRecDepth 100000 in
theorem wd_557 : Cond.instanceMethod yX5_hurry ∈ goodTbl := gwt3 60 rfl rfl
set_option maxRecDepth 100000 in
theorem wd_558 : Cond.selects RX5 yX5_hurry yX5_hurry ∈ goodTbl := gwt3 61 rfl rfl
set_option maxRecDepth 100000 in
theorem wd_559 : Cond.code yX5_hurry cX5_hurry 5 (some .int) ∈ goodTbl := gwt3 62 rfl rfl
set_option maxRecDepth 100000 in
theorem wd_560 : Cond.methodLink RL 49 yX5_tear ∈ goodTbl := gwt3 63 rfl rfl
set_option maxRecDepth 100000 in
theorem wd_561 : Cond.instanceMethod yX5_tear ∈ goodTbl := gwt3 64 rfl rfl
set_option maxRecDepth 100000 in
theorem wd_562 : Cond.selects RX5 yX5_tear yX5_tear ∈ goodTbl := gwt3 65 rfl rfl
set_option maxRecDepth 100000 in
theorem wd_563 : Cond.code yX5_tear cX5_tear 4 (some .int) ∈ goodTbl := gwt3 66 rfl rfl
set_option maxRecDepth 100000 in
theorem wd_564 : Cond.methodLink RL 52 yX5_pass ∈ goodTbl := gwt3 67 rfl rfl
set_option maxRecDepth 100000 in
theorem wd_565 : Cond.instanceMethod yX5_pass ∈ goodTbl := gwt3 68 rfl rfl
set_option maxRecDepth 100000 in
theorem wd_566 : Cond.selects RX5 yX5_pass yX5_pass ∈ goodTbl := gwt3 69 rfl rfl
set_option maxRecDepth 100000 in
theorem wd_567 : Cond.code yX5_pass cX5_pass 4 (some .int) ∈ goodTbl := gwt3 70 rfl rfl
set_option maxRecDepth 100000 in
theorem wd_568 : Cond.methodLink RX5 178 yX4_tick ∈ goodTbl := gwt3 71 rfl rfl
set_option maxRecDepth 100000 in
theorem wd_569 : Cond.instanceMethod yX4_tick ∈ goodTbl := gwt3 72 rfl rfl
set_option maxRecDepth 100000 in
theorem wd_570 : Cond.selects RX4 yX4_tick yX4_tick ∈ goodTbl := gwt3 73 rfl rfl
set_option maxRecDepth 100000 in
theorem wd_571 : Cond.code yX4_tick cX4_tick 2 (some .int) ∈ goodTbl := gwt3 74 rfl rfl
set_option maxRecDepth 100000 in
theorem wd_572 : Cond.methodLink RX4 90 yX4_printLine ∈ goodTbl := gwt3 75 rfl rfl
set_option maxRecDepth 100000 in
theorem wd_574 : Cond.instanceMethod yX4_printLine ∈ goodTbl := gwt3 77 rfl rfl
set_option maxRecDepth 100000 in
theorem wd_575 : Cond.code yX4_printLine cX4_printLine 2 (some .boolean) ∈ goodTbl := gwt3 78 rfl rfl
set_option maxRecDepth 100000 in
theorem wd_576 : Cond.methodLink RX4 94 yX4_takeReceipt ∈ goodTbl := gwt3 79 rfl rfl
set_option maxRecDepth 100000 in
theorem wd_578 : Cond.instanceMethod yX4_takeReceipt ∈ goodTbl := gwt3 81 rfl rfl
set_option maxRecDepth 100000 in
theorem wd_579 : Cond.code yX4_takeReceipt cX4_takeReceipt 2 (some (.object "ReceiptRolls$Receipt")) ∈ goodTbl := gwt3 82 rfl rfl
set_option maxRecDepth 100000 in
theorem wd_580 : Cond.methodLink RX4 107 yX4_known ∈ goodTbl := gwt3 83 rfl rfl
set_option maxRecDepth 100000 in
theorem wd_581 : Cond.methodLink RX4 110 yX4_waitingAt ∈ goodTbl := gwt3 84 rfl rfl
set_option maxRecDepth 100000 in
theorem wd_582 : Cond.instanceMethod yX4_waitingAt ∈ goodTbl := gwt3 85 rfl rfl
set_option maxRecDepth 100000 in
theorem wd_583 : Cond.selects RX4 yX4_waitingAt yX4_waitingAt ∈ goodTbl := gwt3 86 rfl rfl
set_option maxRecDepth 100000 in
theorem wd_584 : Cond.code yX4_waitingAt cX4_waitingAt 4 (some (.object "ReceiptRolls$Receipt")) ∈ goodTbl := gwt3 87 rfl rfl
set_option maxRecDepth 100000 in
theorem wd_585 : Cond.methodLink RX4 82 yX4_waitingAheadOf ∈ goodTbl := gwt3 88 rfl rfl
set_option maxRecDepth 100000 in
theorem wd_587 : Cond.instanceMethod yX4_waitingAheadOf ∈ goodTbl := gwt3 90 rfl rfl
set_option maxRecDepth 100000 in
theorem wd_588 : Cond.code yX4_waitingAheadOf cX4_waitingAheadOf 5 (some .int) ∈ goodTbl := gwt3 91 rfl rfl
set_option maxRecDepth 100000 in
theorem wd_589 : Cond.methodLink RX4 86 yX2_isAheadOf ∈ goodTbl := gwt3 92 rfl rfl
set_option maxRecDepth 100000 in
theorem wd_590 : Cond.instanceMethod yX2_isAheadOf ∈ goodTbl := gwt3 93 rfl rfl
set_option maxRecDepth 100000 in
theorem wd_591 : Cond.selects RX2 yX2_isAheadOf yX2_isAheadOf ∈ goodTbl := gwt3 94 rfl rfl
set_option maxRecDepth 100000 in
theorem wd_592 : Cond.code yX2_isAheadOf cX2_isAheadOf 2 (some .boolean) ∈ goodTbl := gwt3 95 rfl rfl
set_option maxRecDepth 100000 in
theorem wd_593 : Cond.methodLink RX4 104 yX4_finish ∈ goodTbl := gwt3 96 rfl rfl
set_option maxRecDepth 100000 in
theorem wd_595 : Cond.instanceMethod yX4_finish ∈ goodTbl := gwt3 98 rfl rfl
set_option maxRecDepth 100000 in
theorem wd_596 : Cond.code yX4_finish cX4_finish 4 none ∈ goodTbl := gwt3 99 rfl rfl
set_option maxRecDepth 100000 in
theorem wd_597 : Cond.methodLink RX4 119 yX2_clear ∈ goodTbl := gwt3 100 rfl rfl
set_option maxRecDepth 100000 in
theorem wd_598 : Cond.methodLink RL 55 yX5_wipe ∈ goodTbl := gwt3 101 rfl rfl
set_option maxRecDepth 100000 in
theorem wd_599 : Cond.instanceMethod yX5_wipe ∈ goodTbl := gwt3 102 rfl rfl
set_option maxRecDepth 100000 in
theorem wd_600 : Cond.selects RX5 yX5_wipe yX5_wipe ∈ goodTbl := gwt3 103 rfl rfl
set_option maxRecDepth 100000 in
theorem wd_601 : Cond.code yX5_wipe cX5_wipe 2 (some .int) ∈ goodTbl := gwt3 104 rfl rfl
set_option maxRecDepth 100000 in
theorem wd_602 : Cond.methodLink RX5 86 yJ4_setLength_d00df ∈ goodTbl := gwt3 105 rfl rfl
set_option maxRecDepth 100000 in
theorem wd_603 : Cond.instanceMethod yJ4_setLength_d00df ∈ goodTbl := gwt3 106 rfl rfl
set_option maxRecDepth 100000 in
theorem wd_604 : Cond.selects RJ4 yJ4_setLength_d00df yJ4_setLength_d00df ∈ goodTbl := gwt3 107 rfl rfl
set_option maxRecDepth 100000 in
theorem wd_605 : Cond.code yJ4_setLength_d00df cJ4_setLength_d00df 2 none ∈ goodTbl := gwt3 108 rfl rfl
set_option maxRecDepth 100000 in
theorem wd_606 : Cond.methodLink RJ4 333 yJ5_setLength_d00df ∈ goodTbl := gwt3 109 rfl rfl
set_option maxRecDepth 100000 in
theorem wd_607 : Cond.instanceMethod yJ5_setLength_d00df ∈ goodTbl := gwt3 110 rfl rfl
set_option maxRecDepth 100000 in
theorem wd_608 : Cond.code yJ5_setLength_d00df cJ5_setLength_d00df 2 none ∈ goodTbl := gwt3 111 rfl rfl
set_option maxRecDepth 100000 in
theorem wd_609 : Cond.methodLink RJ5 100 yJ5_ensureCapacityInternal_d00df ∈ goodTbl := gwt3 112 rfl rfl
set_option maxRecDepth 100000 in
theorem wd_611 : Cond.instanceMethod yJ5_ensureCapacityInternal_d00df ∈ goodTbl := gwt3 114 rfl rfl
set_option maxRecDepth 100000 in
theorem wd_612 : Cond.code yJ5_ensureCapacityInternal_d00df cJ5_ensureCapacityInternal_d00df 3 none ∈ goodTbl := gwt3 115 rfl rfl
set_option maxRecDepth 100000 in
theorem wd_613 : Cond.methodLink RJ5 104 yJ5_newCapacity_0f7a4 ∈ goodTbl := gwt3 116 rfl rfl
set_option maxRecDepth 100000 in
theorem wd_615 : Cond.instanceMethod yJ5_newCapacity_0f7a4 ∈ goodTbl := gwt3 118 rfl rfl
set_option maxRecDepth 100000 in
theorem wd_616 : Cond.code yJ5_newCapacity_0f7a4 cJ5_newCapacity_0f7a4 6 (some .int) ∈ goodTbl := gwt3 119 rfl rfl
set_option maxRecDepth 100000 in
theorem wd_617 : Cond.methodLink RJ5 114 yJ8_newLength_cabcc ∈ goodTbl := gwt3 120 rfl rfl
set_option maxRecDepth 100000 in
theorem wd_618 : Cond.static yJ8_newLength_cabcc ∈ goodTbl := gwt3 121 rfl rfl
set_option maxRecDepth 100000 in
theorem wd_619 : Cond.code yJ8_newLength_cabcc cJ8_newLength_cabcc 4 (some .int) ∈ goodTbl := gwt3 122 rfl rfl
set_option maxRecDepth 100000 in
theorem wd_620 : Cond.methodLink RJ8 194 Lib.Math.max.name ∈ goodTbl := gwt3 123 rfl rfl
set_option maxRecDepth 100000 in
theorem wd_621 : Cond.constant RJ8 200 (2147483639 : Int32) ∈ goodTbl := gwt3 124 rfl rfl
set_option maxRecDepth 100000 in
theorem wd_625 : Cond.constant RJ5 39 (2147483647 : Int32) ∈ goodTbl := gwt3 128 rfl rfl
set_option maxRecDepth 100000 in
theorem wd_626 : Cond.methodLink RJ5 108 yJ7_copyOf_9075b ∈ goodTbl := gwt3 129 rfl rfl
set_option maxRecDepth 100000 in
theorem wd_627 : Cond.static yJ7_copyOf_9075b ∈ goodTbl := gwt3 130 rfl rfl
set_option maxRecDepth 100000 in
theorem wd_628 : Cond.code yJ7_copyOf_9075b cJ7_copyOf_9075b 3 (some (.array .byte)) ∈ goodTbl := gwt3 131 rfl rfl
set_option maxRecDepth 100000 in
theorem wd_629 : Cond.methodLink RJ7 310 ⟨"[B", "clone", "()Ljava/lang/Object;"⟩ ∈ goodTbl := gwt3 132 rfl rfl
set_option maxRecDepth 100000 in
theorem wd_635 : Cond.classLink RJ7 311 "[B" ∈ goodTbl := gwt3 138 rfl rfl
set_option maxRecDepth 100000 in
theorem wd_636 : Cond.methodLink RJ7 304 Lib.Math.min.name ∈ goodTbl := gwt3 139 rfl rfl
set_option maxRecDepth 100000 in
theorem wd_639 : Cond.methodLink RJ7 150 arraycopyName ∈ goodTbl := gwt3 142 rfl rfl
set_option maxRecDepth 100000 in
theorem wd_642 : Cond.methodLink RJ5 83 yJ5_isLatin1_aae02 ∈ goodTbl := gwt3 145 rfl rfl
set_option maxRecDepth 100000 in
theorem wd_643 : Cond.instanceMethod yJ5_isLatin1_aae02 ∈ goodTbl := gwt3 146 rfl rfl
set_option maxRecDepth 100000 in
theorem wd_644 : Cond.sameMethod RJ5 RJ5 "isLatin1" "()Z" ∈ goodTbl := gwt3 147 rfl rfl
set_option maxRecDepth 100000 in
theorem wd_645 : Cond.selects RJ4 yJ5_isLatin1_aae02 yJ5_isLatin1_aae02 ∈ goodTbl := gwt3 148 rfl rfl
set_option maxRecDepth 100000 in
theorem wd_646 : Cond.code yJ5_isLatin1_aae02 cJ5_isLatin1_aae02 1 (some .boolean) ∈ goodTbl := gwt3 149 rfl rfl
set_option maxRecDepth 100000 in
theorem wd_647 : Cond.methodLink RJ5 133 yJ1_fillNull_b72d1 ∈ goodTbl := gwt3 150 rfl rfl
set_option maxRecDepth 100000 in
theorem wd_648 : Cond.static yJ1_fillNull_b72d1 ∈ goodTbl := gwt3 151 rfl rfl
set_option maxRecDepth 100000 in
theorem wd_649 : Cond.code yJ1_fillNull_b72d1 cJ1_fillNull_b72d1 3 none ∈ goodTbl := gwt3 152 rfl rfl
set_option maxRecDepth 100000 in
theorem wd_650 : Cond.methodLink RJ1 236 yJ7_fill_eb02e ∈ goodTbl := gwt3 153 rfl rfl
set_option maxRecDepth 100000 in
theorem wd_651 : Cond.static yJ7_fill_eb02e ∈ goodTbl := gwt3 154 rfl rfl
set_option maxRecDepth 100000 in
theorem wd_652 : Cond.code yJ7_fill_eb02e cJ7_fill_eb02e 5 none ∈ goodTbl := gwt3 155 rfl rfl
set_option maxRecDepth 100000 in
theorem wd_653 : Cond.methodLink RJ7 13 yJ7_rangeCheck_23922 ∈ goodTbl := gwt3 156 rfl rfl
set_option maxRecDepth 100000 in
theorem wd_654 : Cond.static yJ7_rangeCheck_23922 ∈ goodTbl := gwt3 157 rfl rfl
set_option maxRecDepth 100000 in
theorem wd_655 : Cond.code yJ7_rangeCheck_23922 cJ7_rangeCheck_23922 3 none ∈ goodTbl := gwt3 158 rfl rfl
set_option maxRecDepth 100000 in
theorem wd_660 : Cond.constantLong RL 58 (95 : Int64) ∈ goodTbl := gwt3 163 rfl rfl
set_option maxRecDepth 100000 in
theorem wd_661 : Cond.methodLink RL 60 yX5_put ∈ goodTbl := gwt3 164 rfl rfl
set_option maxRecDepth 100000 in
theorem wd_662 : Cond.instanceMethod yX5_put ∈ goodTbl := gwt3 165 rfl rfl
set_option maxRecDepth 100000 in
theorem wd_663 : Cond.selects RX5 yX5_put yX5_put ∈ goodTbl := gwt3 166 rfl rfl
set_option maxRecDepth 100000 in
theorem wd_664 : Cond.code yX5_put cX5_put 5 (some .int) ∈ goodTbl := gwt3 167 rfl rfl
set_option maxRecDepth 100000 in
theorem wd_665 : Cond.methodLink RX5 271 yX5_lengthOf ∈ goodTbl := gwt3 168 rfl rfl
set_option maxRecDepth 100000 in
theorem wd_666 : Cond.static yX5_lengthOf ∈ goodTbl := gwt3 169 rfl rfl
set_option maxRecDepth 100000 in
theorem wd_667 : Cond.code yX5_lengthOf cX5_lengthOf 4 (some .int) ∈ goodTbl := gwt3 170 rfl rfl
set_option maxRecDepth 100000 in
theorem wd_668 : Cond.methodLink RX5 275 yX5_codeAt ∈ goodTbl := gwt3 171 rfl rfl
set_option maxRecDepth 100000 in
theorem wd_669 : Cond.static yX5_codeAt ∈ goodTbl := gwt3 172 rfl rfl
set_option maxRecDepth 100000 in
theorem wd_670 : Cond.code yX5_codeAt cX5_codeAt 3 (some .int) ∈ goodTbl := gwt3 173 rfl rfl
set_option maxRecDepth 100000 in
theorem wd_671 : Cond.constantLong RX5 288 (255 : Int64) ∈ goodTbl := gwt3 174 rfl rfl
set_option maxRecDepth 100000 in
theorem wd_672 : Cond.methodLink RX5 279 yJ4_append_cf468 ∈ goodTbl := gwt3 175 rfl rfl
set_option maxRecDepth 100000 in
theorem wd_673 : Cond.instanceMethod yJ4_append_cf468 ∈ goodTbl := gwt3 176 rfl rfl
set_option maxRecDepth 100000 in
theorem wd_674 : Cond.selects RJ4 yJ4_append_cf468 yJ4_append_cf468 ∈ goodTbl := gwt3 177 rfl rfl
set_option maxRecDepth 100000 in
theorem wd_675 : Cond.code yJ4_append_cf468 cJ4_append_cf468 2 (some (.object "java/lang/StringBuilder")) ∈ goodTbl := gwt3 178 rfl rfl
set_option maxRecDepth 100000 in
theorem wd_676 : Cond.methodLink RJ4 50 yJ5_append_3fe6f ∈ goodTbl := gwt3 179 rfl rfl
set_option maxRecDepth 100000 in
theorem wd_677 : Cond.instanceMethod yJ5_append_3fe6f ∈ goodTbl := gwt3 180 rfl rfl
set_option maxRecDepth 100000 in
theorem wd_678 : Cond.code yJ5_append_3fe6f cJ5_append_3fe6f 2 (some (.object "java/lang/AbstractStringBuilder")) ∈ goodTbl := gwt3 181 rfl rfl
set_option maxRecDepth 100000 in
theorem wd_679 : Cond.methodLink RJ5 191 yJ1_canEncode_fc78d ∈ goodTbl := gwt3 182 rfl rfl
set_option maxRecDepth 100000 in
theorem wd_680 : Cond.static yJ1_canEncode_fc78d ∈ goodTbl := gwt3 183 rfl rfl
set_option maxRecDepth 100000 in
theorem wd_681 : Cond.code yJ1_canEncode_fc78d cJ1_canEncode_fc78d 1 (some .boolean) ∈ goodTbl := gwt3 184 rfl rfl
set_option maxRecDepth 100000 in
theorem wd_707 : Cond.methodLink RL 64 yX5_ring ∈ goodTbl := gwt3 210 rfl rfl
set_option maxRecDepth 100000 in
theorem wd_708 : Cond.instanceMethod yX5_ring ∈ goodTbl := gwt3 211 rfl rfl
set_option maxRecDepth 100000 in
theorem wd_709 : Cond.selects RX5 yX5_ring yX5_ring ∈ goodTbl := gwt3 212 rfl rfl
set_option maxRecDepth 100000 in
theorem wd_710 : Cond.code yX5_ring cX5_ring 7 (some .int) ∈ goodTbl := gwt3 213 rfl rfl
set_option maxRecDepth 100000 in
theorem wd_711 : Cond.methodLink RX5 60 yX5_faultOfPad ∈ goodTbl := gwt3 214 rfl rfl
set_option maxRecDepth 100000 in
theorem wd_713 : Cond.instanceMethod yX5_faultOfPad ∈ goodTbl := gwt3 216 rfl rfl
set_option maxRecDepth 100000 in
theorem wd_714 : Cond.code yX5_faultOfPad cX5_faultOfPad 6 (some .int) ∈ goodTbl := gwt3 217 rfl rfl
set_option maxRecDepth 100000 in
theorem wd_715 : Cond.methodLink RX5 290 yJ4_charAt_5068e ∈ goodTbl := gwt3 218 rfl rfl
set_option maxRecDepth 100000 in
theorem wd_716 : Cond.instanceMethod yJ4_charAt_5068e ∈ goodTbl := gwt3 219 rfl rfl
set_option maxRecDepth 100000 in
theorem wd_717 : Cond.selects RJ4 yJ4_charAt_5068e yJ4_charAt_5068e ∈ goodTbl := gwt3 220 rfl rfl
set_option maxRecDepth 100000 in
theorem wd_718 : Cond.code yJ4_charAt_5068e cJ4_charAt_5068e 2 (some .char) ∈ goodTbl := gwt3 221 rfl rfl
set_option maxRecDepth 100000 in
theorem wd_719 : Cond.methodLink RJ4 329 yJ5_charAt_5068e ∈ goodTbl := gwt3 222 rfl rfl
set_option maxRecDepth 100000 in
theorem wd_720 : Cond.instanceMethod yJ5_charAt_5068e ∈ goodTbl := gwt3 223 rfl rfl
set_option maxRecDepth 100000 in
theorem wd_721 : Cond.code yJ5_charAt_5068e cJ5_charAt_5068e 5 (some .char) ∈ goodTbl := gwt3 224 rfl rfl
set_option maxRecDepth 100000 in
theorem wd_722 : Cond.methodLink RJ5 138 Lib.Math.min.name ∈ goodTbl := gwt3 225 rfl rfl
set_option maxRecDepth 100000 in
theorem wd_723 : Cond.methodLink RJ5 144 yJ0_checkIndex_df160 ∈ goodTbl := gwt3 226 rfl rfl
set_option maxRecDepth 100000 in
theorem wd_725 : Cond.fieldLink RX5 64 "ReceiptRolls" "RATES" "[I" ∈ goodTbl := gwt3 228 rfl rfl
set_option maxRecDepth 100000 in
theorem wd_726 : Cond.classLink RX5 73 RX1 ∈ goodTbl := gwt3 229 rfl rfl
set_option maxRecDepth 100000 in
theorem wd_727 : Cond.instantiable RX1 4 ∈ goodTbl := gwt3 230 rfl rfl
set_option maxRecDepth 100000 in
theorem wd_728 : Cond.methodLink RX5 75 yJ4_toString_0e30d ∈ goodTbl := gwt3 231 rfl rfl
set_option maxRecDepth 100000 in
theorem wd_729 : Cond.instanceMethod yJ4_toString_0e30d ∈ goodTbl := gwt3 232 rfl rfl
set_option maxRecDepth 100000 in
theorem wd_730 : Cond.selects RJ4 yJ4_toString_0e30d yJ4_toString_0e30d ∈ goodTbl := gwt3 233 rfl rfl
set_option maxRecDepth 100000 in
theorem wd_731 : Cond.code yJ4_toString_0e30d cJ4_toString_0e30d 1 (some (.object "java/lang/String")) ∈ goodTbl := gwt3 234 rfl rfl
set_option maxRecDepth 100000 in
theorem wd_732 : Cond.classLink RJ4 18 RJ0 ∈ goodTbl := gwt3 235 rfl rfl
set_option maxRecDepth 100000 in
theorem wd_733 : Cond.instantiable RJ0 4 ∈ goodTbl := gwt3 236 rfl rfl
set_option maxRecDepth 100000 in
theorem wd_734 : Cond.methodLink RJ4 137 yJ0_init_81219 ∈ goodTbl := gwt3 237 rfl rfl
set_option maxRecDepth 100000 in
theorem wd_735 : Cond.instanceMethod yJ0_init_81219 ∈ goodTbl := gwt3 238 rfl rfl
set_option maxRecDepth 100000 in
theorem wd_736 : Cond.code yJ0_init_81219 cJ0_init_81219 2 none ∈ goodTbl := gwt3 239 rfl rfl
set_option maxRecDepth 100000 in
theorem wd_737 : Cond.methodLink RJ0 489 yJ0_init_db425 ∈ goodTbl := gwt4 0 rfl rfl
set_option maxRecDepth 100000 in
theorem wd_738 : Cond.instanceMethod yJ0_init_db425 ∈ goodTbl := gwt4 1 rfl rfl
set_option maxRecDepth 100000 in
theorem wd_739 : Cond.code yJ0_init_db425 cJ0_init_db425 5 none ∈ goodTbl := gwt4 2 rfl rfl
set_option maxRecDepth 100000 in
theorem wd_740 : Cond.methodLink RJ0 1 Lib.objectInit ∈ goodTbl := gwt4 3 rfl rfl
set_option maxRecDepth 100000 in
theorem wd_741 : Cond.methodLink RJ0 552 yJ5_getValue_6d5f1 ∈ goodTbl := gwt4 4 rfl rfl
set_option maxRecDepth 100000 in
theorem wd_742 : Cond.instanceMethod yJ5_getValue_6d5f1 ∈ goodTbl := gwt4 5 rfl rfl
set_option maxRecDepth 100000 in
theorem wd_743 : Cond.sameMethod RJ5 RJ5 "getValue" "()[B" ∈ goodTbl := gwt4 6 rfl rfl
set_option maxRecDepth 100000 in
theorem wd_744 : Cond.selects RJ4 yJ5_getValue_6d5f1 yJ5_getValue_6d5f1 ∈ goodTbl := gwt4 7 rfl rfl
set_option maxRecDepth 100000 in
theorem wd_745 : Cond.code yJ5_getValue_6d5f1 cJ5_getValue_6d5f1 1 (some (.array .byte)) ∈ goodTbl := gwt4 8 rfl rfl
set_option maxRecDepth 100000 in
theorem wd_746 : Cond.methodLink RJ0 549 yJ5_length_8abf5 ∈ goodTbl := gwt4 9 rfl rfl
set_option maxRecDepth 100000 in
theorem wd_747 : Cond.methodLink RJ0 1047 yJ5_isLatin1_aae02 ∈ goodTbl := gwt4 10 rfl rfl
set_option maxRecDepth 100000 in
theorem wd_748 : Cond.methodLink RJ0 54 yJ7_copyOfRange_39247 ∈ goodTbl := gwt4 11 rfl rfl
set_option maxRecDepth 100000 in
theorem wd_749 : Cond.static yJ7_copyOfRange_39247 ∈ goodTbl := gwt4 12 rfl rfl
set_option maxRecDepth 100000 in
theorem wd_750 : Cond.code yJ7_copyOfRange_39247 cJ7_copyOfRange_39247 3 (some (.array .byte)) ∈ goodTbl := gwt4 13 rfl rfl
set_option maxRecDepth 100000 in
theorem wd_751 : Cond.methodLink RJ7 339 yJ7_copyOfRangeByte_39247 ∈ goodTbl := gwt4 14 rfl rfl
set_option maxRecDepth 100000 in
theorem wd_752 : Cond.static yJ7_copyOfRangeByte_39247 ∈ goodTbl := gwt4 15 rfl rfl
set_option maxRecDepth 100000 in
theorem wd_753 : Cond.code yJ7_copyOfRangeByte_39247 cJ7_copyOfRangeByte_39247 5 (some (.array .byte)) ∈ goodTbl := gwt4 16 rfl rfl
set_option maxRecDepth 100000 in
theorem wd_754 : Cond.methodLink RJ7 343 yJ7_checkLength_df160 ∈ goodTbl := gwt4 17 rfl rfl
set_option maxRecDepth 100000 in
theorem wd_755 : Cond.static yJ7_checkLength_df160 ∈ goodTbl := gwt4 18 rfl rfl
set_option maxRecDepth 100000 in
theorem wd_756 : Cond.code yJ7_checkLength_df160 cJ7_checkLength_df160 2 none ∈ goodTbl := gwt4 19 rfl rfl
set_option maxRecDepth 100000 in
theorem wd_767 : Cond.fieldLink RJ0 9 "java/lang/String" "value" "[B" ∈ goodTbl := gwt4 30 rfl rfl
set_option maxRecDepth 100000 in
theorem wd_768 : Cond.fieldLink RJ0 15 "java/lang/String" "coder" "B" ∈ goodTbl := gwt4 31 rfl rfl
set_option maxRecDepth 100000 in
theorem wd_778 : Cond.methodLink RX5 79 yX1_init ∈ goodTbl := gwt4 41 rfl rfl
set_option maxRecDepth 100000 in
theorem wd_779 : Cond.instanceMethod yX1_init ∈ goodTbl := gwt4 42 rfl rfl
set_option maxRecDepth 100000 in
theorem wd_780 : Cond.code yX1_init cX1_init 5 none ∈ goodTbl := gwt4 43 rfl rfl
set_option maxRecDepth 100000 in
theorem wd_781 : Cond.methodLink RX1 1 Lib.objectInit ∈ goodTbl := gwt4 44 rfl rfl
set_option maxRecDepth 100000 in
theorem wd_782 : Cond.fieldLink RX1 7 "ReceiptRolls$Item" "name" "Ljava/lang/String;" ∈ goodTbl := gwt4 45 rfl rfl
set_option maxRecDepth 100000 in
theorem wd_783 : Cond.fieldLink RX3 103 "ReceiptRolls$Item" "name" "Ljava/lang/String;" ∈ goodTbl := gwt4 46 rfl rfl
set_option maxRecDepth 100000 in
theorem wd_784 : Cond.fieldLink RX1 13 "ReceiptRolls$Item" "many" "I" ∈ goodTbl := gwt4 47 rfl rfl
set_option maxRecDepth 100000 in
theorem wd_785 : Cond.fieldLink RX3 96 "ReceiptRolls$Item" "many" "I" ∈ goodTbl := gwt4 48 rfl rfl
set_option maxRecDepth 100000 in
theorem wd_786 : Cond.fieldLink RX1 17 "ReceiptRolls$Item" "price" "I" ∈ goodTbl := gwt4 49 rfl rfl
set_option maxRecDepth 100000 in
theorem wd_787 : Cond.fieldLink RX1 20 "ReceiptRolls$Item" "tax" "I" ∈ goodTbl := gwt4 50 rfl rfl
set_option maxRecDepth 100000 in
theorem wd_788 : Cond.fieldLink RX2 79 "ReceiptRolls$Item" "tax" "I" ∈ goodTbl := gwt4 51 rfl rfl
set_option maxRecDepth 100000 in
theorem wd_798 : Cond.methodLink RX5 82 yX2_addItem ∈ goodTbl := gwt4 61 rfl rfl
set_option maxRecDepth 100000 in
theorem wd_799 : Cond.instanceMethod yX2_addItem ∈ goodTbl := gwt4 62 rfl rfl
set_option maxRecDepth 100000 in
theorem wd_800 : Cond.selects RX2 yX2_addItem yX2_addItem ∈ goodTbl := gwt4 63 rfl rfl
set_option maxRecDepth 100000 in
theorem wd_801 : Cond.code yX2_addItem cX2_addItem 2 none ∈ goodTbl := gwt4 64 rfl rfl
set_option maxRecDepth 100000 in
theorem wd_802 : Cond.methodLink RL 95 yL_holds ∈ goodTbl := gwt4 65 rfl rfl
set_option maxRecDepth 100000 in
theorem wd_803 : Cond.static yL_holds ∈ goodTbl := gwt4 66 rfl rfl
set_option maxRecDepth 100000 in
theorem wd_804 : Cond.code yL_holds cL_holds 9 (some .boolean) ∈ goodTbl := gwt4 67 rfl rfl
set_option maxRecDepth 100000 in
theorem wd_805 : Cond.methodLink RL 72 yL_isSummed ∈ goodTbl := gwt4 68 rfl rfl
set_option maxRecDepth 100000 in
theorem wd_806 : Cond.static yL_isSummed ∈ goodTbl := gwt4 69 rfl rfl
set_option maxRecDepth 100000 in
theorem wd_807 : Cond.code yL_isSummed cL_isSummed 7 (some .boolean) ∈ goodTbl := gwt4 70 rfl rfl
set_option maxRecDepth 100000 in
theorem wd_808 : Cond.methodLink RL 68 yX5_sign ∈ goodTbl := gwt4 71 rfl rfl
set_option maxRecDepth 100000 in
theorem wd_809 : Cond.instanceMethod yX5_sign ∈ goodTbl := gwt4 72 rfl rfl
set_option maxRecDepth 100000 in
theorem wd_810 : Cond.selects RX5 yX5_sign yX5_sign ∈ goodTbl := gwt4 73 rfl rfl
set_option maxRecDepth 100000 in
theorem wd_811 : Cond.code yX5_sign cX5_sign 6 (some .int) ∈ goodTbl := gwt4 74 rfl rfl
set_option maxRecDepth 100000 in
theorem wd_812 : Cond.methodLink RX5 221 yX3_signAt ∈ goodTbl := gwt4 75 rfl rfl
set_option maxRecDepth 100000 in
theorem wd_813 : Cond.instanceMethod yX3_signAt ∈ goodTbl := gwt4 76 rfl rfl
set_option maxRecDepth 100000 in
theorem wd_814 : Cond.selects RX3 yX3_signAt yX3_signAt ∈ goodTbl := gwt4 77 rfl rfl
set_option maxRecDepth 100000 in
theorem wd_815 : Cond.code yX3_signAt cX3_signAt 2 (some .int) ∈ goodTbl := gwt4 78 rfl rfl
set_option maxRecDepth 100000 in
theorem wd_816 : Cond.methodLink RL 76 yX5_linesLeft ∈ goodTbl := gwt4 79 rfl rfl
set_option maxRecDepth 100000 in
theorem wd_817 : Cond.instanceMethod yX5_linesLeft ∈ goodTbl := gwt4 80 rfl rfl
set_option maxRecDepth 100000 in
theorem wd_818 : Cond.selects RX5 yX5_linesLeft yX5_linesLeft ∈ goodTbl := gwt4 81 rfl rfl
set_option maxRecDepth 100000 in
theorem wd_819 : Cond.code yX5_linesLeft cX5_linesLeft 1 (some .int) ∈ goodTbl := gwt4 82 rfl rfl
set_option maxRecDepth 100000 in
theorem wd_820 : Cond.methodLink RX5 258 yX4_linesToPrint ∈ goodTbl := gwt4 83 rfl rfl
set_option maxRecDepth 100000 in
theorem wd_821 : Cond.instanceMethod yX4_linesToPrint ∈ goodTbl := gwt4 84 rfl rfl
set_option maxRecDepth 100000 in
theorem wd_822 : Cond.selects RX4 yX4_linesToPrint yX4_linesToPrint ∈ goodTbl := gwt4 85 rfl rfl
set_option maxRecDepth 100000 in
theorem wd_823 : Cond.code yX4_linesToPrint cX4_linesToPrint 4 (some .int) ∈ goodTbl := gwt4 86 rfl rfl
set_option maxRecDepth 100000 in
theorem wd_824 : Cond.methodLink RX4 122 yX2_linesToPrint ∈ goodTbl := gwt4 87 rfl rfl
set_option maxRecDepth 100000 in
theorem wd_825 : Cond.instanceMethod yX2_linesToPrint ∈ goodTbl := gwt4 88 rfl rfl
set_option maxRecDepth 100000 in
theorem wd_826 : Cond.selects RX2 yX2_linesToPrint yX2_linesToPrint ∈ goodTbl := gwt4 89 rfl rfl
set_option maxRecDepth 100000 in
theorem wd_827 : Cond.code yX2_linesToPrint cX2_linesToPrint 1 (some .int) ∈ goodTbl := gwt4 90 rfl rfl
set_option maxRecDepth 100000 in
theorem wd_828 : Cond.sameMethod RJ5 RJ5 "length" "()I" ∈ goodTbl := gwt4 91 rfl rfl
set_option maxRecDepth 100000 in
theorem wd_829 : Cond.sameMethod RJ5 RJ5 "setLength" "(I)V" ∈ goodTbl := gwt4 92 rfl rfl
set_option maxRecDepth 100000 in
theorem wd_830 : Cond.sameMethod RJ5 RJ5 "ensureCapacityInternal" "(I)V" ∈ goodTbl := gwt4 93 rfl rfl
set_option maxRecDepth 100000 in
theorem wd_831 : Cond.sameMethod RJ5 RJ5 "newCapacity" "(I)I" ∈ goodTbl := gwt4 94 rfl rfl
set_option maxRecDepth 100000 in
theorem wd_832 : Cond.sameMethod RJ5 RJ5 "append" "(C)Ljava/lang/AbstractStringBuilder;" ∈ goodTbl := gwt4 95 rfl rfl
set_option maxRecDepth 100000 in
theorem wd_834 : Cond.sameMethod RJ5 RJ5 "charAt" "(I)C" ∈ goodTbl := gwt4 97 rfl rfl
set_option maxRecDepth 100000 in
theorem wd_835 : Cond.selects RJ4 yJ5_length_8abf5 yJ4_length_8abf5 ∈ goodTbl := gwt4 98 rfl rfl
theorem wd_oi : Cond.instanceMethod Lib.objectInit ∈ goodTbl := gw 41 (by decide +kernel) rfl
theorem wd_oc : Cond.code Lib.objectInit ⟨#[0xb1]⟩ 1 none ∈ goodTbl := gw 42 (by decide +kernel) rfl
theorem wd_cpy : Cond.native arraycopyName ∈ goodTbl ∧ Cond.static arraycopyName ∈ goodTbl ∧ Cond.initialized "java/lang/System" ∈ goodTbl := ⟨gw 641 (by decide +kernel) rfl, gw 640 (by decide +kernel) rfl, gw 33 (by decide +kernel) rfl⟩
theorem wd_max : Cond.static Lib.Math.max.name ∈ goodTbl ∧ Cond.initialized "java/lang/Math" ∈ goodTbl ∧ Cond.code Lib.Math.max.name Lib.Math.max.code 2 (some .int) ∈ goodTbl := ⟨gw 451 (by decide +kernel) rfl, gw 30 (by decide +kernel) rfl, gw 452 (by decide +kernel) rfl⟩
theorem wd_min : Cond.static Lib.Math.min.name ∈ goodTbl ∧ Cond.initialized "java/lang/Math" ∈ goodTbl ∧ Cond.code Lib.Math.min.name Lib.Math.min.code 2 (some .int) ∈ goodTbl := ⟨gw 637 (by decide +kernel) rfl, gw 30 (by decide +kernel) rfl, gw 638 (by decide +kernel) rfl⟩
theorem wd_abs : Cond.static Lib.Math.abs.name ∈ goodTbl ∧ Cond.initialized "java/lang/Math" ∈ goodTbl ∧ Cond.code Lib.Math.abs.name Lib.Math.abs.code 1 (some .int) ∈ goodTbl := ⟨gw 459 (by decide +kernel) rfl, gw 30 (by decide +kernel) rfl, gw 460 (by decide +kernel) rfl⟩
theorem wd_cln : Cond.sameMethod "[B" "java/lang/Object" "clone" "()Ljava/lang/Object;" ∈ goodTbl ∧ Cond.native ⟨"java/lang/Object", "clone", "()Ljava/lang/Object;"⟩ ∈ goodTbl ∧ Cond.instanceMethod ⟨"java/lang/Object", "clone", "()Ljava/lang/Object;"⟩ ∈ goodTbl ∧ Cond.selects "[B" ⟨"[B", "clone", "()Ljava/lang/Object;"⟩ ⟨"java/lang/Object", "clone", "()Ljava/lang/Object;"⟩ ∈ goodTbl := ⟨gw 630 (by decide +kernel) rfl, gw 631 (by decide +kernel) rfl, gw 632 (by decide +kernel) rfl, gw 633 (by decide +kernel) rfl⟩
theorem e_z0 {X : Cx} : ∀ s, EnvX X s → va_Z "ReceiptRolls" "LEAST_SETTINGS" "[I" (tV (.inr (.inr (X.2.2.2 0)))) (AX X) s s.heap := fun _ h => h.2.2.2.2.1.1
theorem e_z1 {X : Cx} : ∀ s, EnvX X s → va_Z "ReceiptRolls" "MOST_SETTINGS" "[I" (tV (.inr (.inr (X.2.2.2 1)))) (AX X) s s.heap := fun _ h => h.2.2.2.2.1.2.1
theorem e_z2 {X : Cx} : ∀ s, EnvX X s → va_Z "ReceiptRolls" "RATES" "[I" (tV (.inr (.inr (X.2.2.2 2)))) (AX X) s s.heap := fun _ h => h.2.2.2.2.1.2.2.1
theorem e_z3 {X : Cx} : ∀ s, EnvX X s → va_Z "jdk/internal/util/Preconditions" "SIOOBE_FORMATTER" "Ljava/util/function/BiFunction;" (tV (.inr (.inr (X.2.2.2 3)))) (AX X) s s.heap := fun _ h => h.2.2.2.2.1.2.2.2.1
theorem e_z4 {X : Cx} : ∀ s, EnvX X s → va_Z "java/lang/String" "COMPACT_STRINGS" "Z" (tV (.inl (1 : Int32))) (AX X) s s.heap := fun _ h => h.2.2.2.2.1.2.2.2.2
theorem e_s4 {X : Cx} : ∀ s, EnvX X s → ∃ a, X.2.2.2 4 = some a ∧ vk_R "ReceiptRolls$Sheet" 19 "#" a s := fun _ h => h.2.2.2.2.2.1.1
theorem e_s5 {X : Cx} : ∀ s, EnvX X s → ∃ a, X.2.2.2 5 = some a ∧ vk_R "ReceiptRolls$Sheet" 50 "void " a s := fun _ h => h.2.2.2.2.2.1.2.1
theorem e_s6 {X : Cx} : ∀ s, EnvX X s → ∃ a, X.2.2.2 6 = some a ∧ vk_R "ReceiptRolls$Sheet" 62 "sum" a s := fun _ h => h.2.2.2.2.2.1.2.2.1
theorem e_s7 {X : Cx} : ∀ s, EnvX X s → ∃ a, X.2.2.2 7 = some a ∧ vk_R "ReceiptRolls$Sheet" 76 "tax " a s := fun _ h => h.2.2.2.2.2.1.2.2.2
theorem e_mX4 {X : Cx} : ∀ s, EnvX X s → va_Nw (.methodLinkNest "ReceiptRolls$State" 31 yX2_init "ReceiptRolls") s := fun _ h => h.2.2.1.1
theorem e_mX5 {X : Cx} : ∀ s, EnvX X s → va_Nw (.methodLinkNest "ReceiptRolls" 36 yX3_init "ReceiptRolls") s := fun _ h => h.2.2.1.2
theorem e_nX3 {X : Cx} : ∀ s, EnvX X s → va_Nw (.fieldLinkNest "ReceiptRolls$Sheet" 69 "ReceiptRolls" "RATES" "[I" "ReceiptRolls") s := fun _ h => h.2.2.2.1.1
theorem e_nX2 {X : Cx} : ∀ s, EnvX X s → va_Nw (.fieldLinkNest "ReceiptRolls$Receipt" 86 "ReceiptRolls" "RATES" "[I" "ReceiptRolls") s := fun _ h => h.2.2.2.1.2
theorem lvLe_0 : lvLe [] [] := fun _ _ h => h
theorem lvLe_n {a : Option AV} {L L' : List (Option AV)} (h : lvLe L L') : lvLe (a :: L) (none :: L') := by
  intro i v hv
  cases i with
  | zero => cases hv
  | succ i => exact h i v hv
theorem lvLe_s {a : Option AV} {L L' : List (Option AV)} (h : lvLe L L') : lvLe (a :: L) (a :: L') := by
  intro i v hv
  cases i with
  | zero => exact hv
  | succ i => exact h i v hv
theorem ex_ensureCapacityInternal : Cond.selects RJ4 yJ5_ensureCapacityInternal_d00df yJ5_ensureCapacityInternal_d00df ∈ goodTbl := List.mem_append_left _ List.mem_cons_self
theorem ex_newCapacity : Cond.selects RJ4 yJ5_newCapacity_0f7a4 yJ5_newCapacity_0f7a4 ∈ goodTbl := List.mem_append_left _ (List.mem_cons_of_mem _ List.mem_cons_self)
def FU : Nat := 20000
theorem q_ldcw {X : Cx} {M : MI} {h0 h : Hp} {o : Rs} {L : List (Option AV)} {st : List AV} {pc len tgt idx : Nat} {v w : Int32} (hx : tbB M.2.1 (pc, .ldc_w idx, len, v, tgt) = true) (hw : Cond.constant M.1.cls idx w ∈ goodTbl) (g : Gd X M h0 o h (pc + 3) L (.inl w :: st)) : Gd X M h0 o h pc L st := by
  have hd := tb_len hx rfl
  exact q_w g (fun hat _ _ hl k => lv_ldcw hat.1 hat.2.1 hat.2.2.2.1 (hat.2.2.2.2.2.1 _ hw) hd (k _ hl))
