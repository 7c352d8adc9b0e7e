theorem tb_1 {w : Cond} (h : w ∈ tables_1_1) : w ∈ lw_tbl := List.mem_append_right _ (List.mem_append_left _ h)
theorem tb_2 {w : Cond} (h : w ∈ tables_1_2) : w ∈ lw_tbl := List.mem_append_right _ (List.mem_append_right _ (List.mem_append_left _ h))
theorem tb_3 {w : Cond} (h : w ∈ tables_1_3) : w ∈ lw_tbl := List.mem_append_right _ (List.mem_append_right _ (List.mem_append_right _ (List.mem_append_left _ h)))
theorem tb_4 {w : Cond} (h : w ∈ tables_1_4) : w ∈ lw_tbl := List.mem_append_right _ (List.mem_append_right _ (List.mem_append_right _ (List.mem_append_right _ h)))
set_option maxRecDepth 20000 in
theorem kw_0 : Cond.methodLink RX6 50 yX6_isSort ∈ gt := gt_m (tb_1 (List.mem_of_getElem? (i := 200) (by decide +kernel))) (by decide +kernel)
set_option maxRecDepth 20000 in
theorem kw_1 : Cond.static yX6_isSort ∈ gt := gt_m (tb_1 (List.mem_of_getElem? (i := 201) (by decide +kernel))) (by decide +kernel)
set_option maxRecDepth 20000 in
theorem kw_2 : Cond.methodLink RX6 54 yX4_isFull ∈ gt := gt_m (tb_1 (List.mem_of_getElem? (i := 203) (by decide +kernel))) (by decide +kernel)
set_option maxRecDepth 20000 in
theorem kw_3 : Cond.selects RX4 yX4_isFull yX4_isFull ∈ gt := gt_m (tb_1 (List.mem_of_getElem? (i := 205) (by decide +kernel))) (by decide +kernel)
set_option maxRecDepth 20000 in
theorem kw_4 : Cond.instanceMethod yX4_isFull ∈ gt := gt_m (tb_1 (List.mem_of_getElem? (i := 204) (by decide +kernel))) (by decide +kernel)
set_option maxRecDepth 20000 in
theorem kw_5 : Cond.methodLink RX6 58 yX6_forget ∈ gt := gt_m (tb_1 (List.mem_of_getElem? (i := 207) (by decide +kernel))) (by decide +kernel)
set_option maxRecDepth 20000 in
theorem kw_6 : Cond.selects RX6 yX6_forget yX6_forget ∈ gt := gt_m (List.mem_append_left _ (List.mem_of_getElem? (i := 0) (by decide +kernel))) (by decide +kernel)
set_option maxRecDepth 20000 in
theorem kw_7 : Cond.instanceMethod yX6_forget ∈ gt := gt_m (tb_1 (List.mem_of_getElem? (i := 209) (by decide +kernel))) (by decide +kernel)
set_option maxRecDepth 20000 in
theorem kw_8 : Cond.methodLink RX6 61 yX4_add ∈ gt := gt_m (tb_1 (List.mem_of_getElem? (i := 211) (by decide +kernel))) (by decide +kernel)
set_option maxRecDepth 20000 in
theorem kw_9 : Cond.selects RX4 yX4_add yX4_add ∈ gt := gt_m (tb_1 (List.mem_of_getElem? (i := 213) (by decide +kernel))) (by decide +kernel)
set_option maxRecDepth 20000 in
theorem kw_10 : Cond.instanceMethod yX4_add ∈ gt := gt_m (tb_1 (List.mem_of_getElem? (i := 212) (by decide +kernel))) (by decide +kernel)
set_option maxRecDepth 20000 in
theorem kw_11 : Cond.methodLink RX6 65 yX4_has ∈ gt := gt_m (tb_1 (List.mem_of_getElem? (i := 219) (by decide +kernel))) (by decide +kernel)
set_option maxRecDepth 20000 in
theorem kw_12 : Cond.selects RX4 yX4_has yX4_has ∈ gt := gt_m (tb_1 (List.mem_of_getElem? (i := 221) (by decide +kernel))) (by decide +kernel)
set_option maxRecDepth 20000 in
theorem kw_13 : Cond.instanceMethod yX4_has ∈ gt := gt_m (tb_1 (List.mem_of_getElem? (i := 220) (by decide +kernel))) (by decide +kernel)
set_option maxRecDepth 20000 in
theorem kw_14 : Cond.methodLink RX4 22 yX4_has ∈ gt := gt_m (tb_1 (List.mem_of_getElem? (i := 231) (by decide +kernel))) (by decide +kernel)
set_option maxRecDepth 20000 in
theorem kw_15 : Cond.methodLink RX4 48 yX4_hasParts ∈ gt := gt_m (tb_1 (List.mem_of_getElem? (i := 232) (by decide +kernel))) (by decide +kernel)
set_option maxRecDepth 20000 in
theorem kw_16 : Cond.selects RX4 yX4_hasParts yX4_hasParts ∈ gt := gt_m (List.mem_append_left _ (List.mem_of_getElem? (i := 1) (by decide +kernel))) (by decide +kernel)
set_option maxRecDepth 20000 in
theorem kw_17 : Cond.instanceMethod yX4_hasParts ∈ gt := gt_m (tb_1 (List.mem_of_getElem? (i := 234) (by decide +kernel))) (by decide +kernel)
set_option maxRecDepth 20000 in
theorem kw_18 : Cond.methodLink RX4 44 yX3_firstDigit ∈ gt := gt_m (tb_1 (List.mem_of_getElem? (i := 236) (by decide +kernel))) (by decide +kernel)
set_option maxRecDepth 20000 in
theorem kw_19 : Cond.static yX3_firstDigit ∈ gt := gt_m (tb_1 (List.mem_of_getElem? (i := 237) (by decide +kernel))) (by decide +kernel)
set_option maxRecDepth 20000 in
theorem kw_20 : Cond.static yX6_leafBit ∈ gt := gt_m (tb_2 (List.mem_of_getElem? (i := 0) (by decide +kernel))) (by decide +kernel)
set_option maxRecDepth 20000 in
theorem kw_21 : Cond.methodLink RX4 26 yX4_leavesOf ∈ gt := gt_m (tb_1 (List.mem_of_getElem? (i := 227) (by decide +kernel))) (by decide +kernel)
set_option maxRecDepth 20000 in
theorem kw_22 : Cond.selects RX4 yX4_leavesOf yX4_leavesOf ∈ gt := gt_m (tb_1 (List.mem_of_getElem? (i := 229) (by decide +kernel))) (by decide +kernel)
set_option maxRecDepth 20000 in
theorem kw_23 : Cond.instanceMethod yX4_leavesOf ∈ gt := gt_m (tb_1 (List.mem_of_getElem? (i := 228) (by decide +kernel))) (by decide +kernel)
set_option maxRecDepth 20000 in
theorem kw_24 : Cond.constantLong RX4 34 (-1) ∈ gt := gt_m (tb_2 (List.mem_of_getElem? (i := 2) (by decide +kernel))) (by decide +kernel)
set_option maxRecDepth 20000 in
theorem kw_25 : Cond.methodLink RX6 69 yX4_begin ∈ gt := gt_m (tb_1 (List.mem_of_getElem? (i := 223) (by decide +kernel))) (by decide +kernel)
set_option maxRecDepth 20000 in
theorem kw_26 : Cond.selects RX4 yX4_begin yX4_begin ∈ gt := gt_m (tb_1 (List.mem_of_getElem? (i := 225) (by decide +kernel))) (by decide +kernel)
set_option maxRecDepth 20000 in
theorem kw_27 : Cond.instanceMethod yX4_begin ∈ gt := gt_m (tb_1 (List.mem_of_getElem? (i := 224) (by decide +kernel))) (by decide +kernel)
set_option maxRecDepth 20000 in
theorem kw_28 : Cond.static yX6_answer ∈ gt := gt_m (tb_2 (List.mem_of_getElem? (i := 23) (by decide +kernel))) (by decide +kernel)
set_option maxRecDepth 20000 in
theorem kw_29 : Cond.methodLink RX0 86 yX4_leavesOf ∈ gt := gt_m (tb_2 (List.mem_of_getElem? (i := 36) (by decide +kernel))) (by decide +kernel)
set_option maxRecDepth 20000 in
theorem kw_30 : Cond.methodLink RX4 51 yX3_behindFirst ∈ gt := gt_m (tb_2 (List.mem_of_getElem? (i := 33) (by decide +kernel))) (by decide +kernel)
set_option maxRecDepth 20000 in
theorem kw_31 : Cond.static yX3_behindFirst ∈ gt := gt_m (tb_2 (List.mem_of_getElem? (i := 34) (by decide +kernel))) (by decide +kernel)
set_option maxRecDepth 20000 in
theorem kw_32 : Cond.methodLink RX0 80 yX4_isWithin ∈ gt := gt_m (tb_2 (List.mem_of_getElem? (i := 29) (by decide +kernel))) (by decide +kernel)
set_option maxRecDepth 20000 in
theorem kw_33 : Cond.selects RX4 yX4_isWithin yX4_isWithin ∈ gt := gt_m (tb_2 (List.mem_of_getElem? (i := 31) (by decide +kernel))) (by decide +kernel)
set_option maxRecDepth 20000 in
theorem kw_34 : Cond.instanceMethod yX4_isWithin ∈ gt := gt_m (tb_2 (List.mem_of_getElem? (i := 30) (by decide +kernel))) (by decide +kernel)
set_option maxRecDepth 20000 in
theorem kw_35 : Cond.methodLink RX0 62 yX0_leavesWanted ∈ gt := gt_m (tb_2 (List.mem_of_getElem? (i := 25) (by decide +kernel))) (by decide +kernel)
set_option maxRecDepth 20000 in
theorem kw_36 : Cond.selects RX0 yX0_leavesWanted yX0_leavesWanted ∈ gt := gt_m (List.mem_append_left _ (List.mem_of_getElem? (i := 3) (by decide +kernel))) (by decide +kernel)
set_option maxRecDepth 20000 in
theorem kw_37 : Cond.instanceMethod yX0_leavesWanted ∈ gt := gt_m (tb_2 (List.mem_of_getElem? (i := 27) (by decide +kernel))) (by decide +kernel)
set_option maxRecDepth 20000 in
theorem kw_38 : Cond.methodLink RX0 66 yX0_leavesGiven ∈ gt := gt_m (tb_2 (List.mem_of_getElem? (i := 37) (by decide +kernel))) (by decide +kernel)
set_option maxRecDepth 20000 in
theorem kw_39 : Cond.selects RX0 yX0_leavesGiven yX0_leavesGiven ∈ gt := gt_m (List.mem_append_left _ (List.mem_of_getElem? (i := 4) (by decide +kernel))) (by decide +kernel)
set_option maxRecDepth 20000 in
theorem kw_40 : Cond.instanceMethod yX0_leavesGiven ∈ gt := gt_m (tb_2 (List.mem_of_getElem? (i := 39) (by decide +kernel))) (by decide +kernel)
set_option maxRecDepth 20000 in
theorem kw_41 : Cond.methodLink RX0 90 yX4_isSole ∈ gt := gt_m (tb_2 (List.mem_of_getElem? (i := 45) (by decide +kernel))) (by decide +kernel)
set_option maxRecDepth 20000 in
theorem kw_42 : Cond.selects RX4 yX4_isSole yX4_isSole ∈ gt := gt_m (tb_2 (List.mem_of_getElem? (i := 47) (by decide +kernel))) (by decide +kernel)
set_option maxRecDepth 20000 in
theorem kw_43 : Cond.instanceMethod yX4_isSole ∈ gt := gt_m (tb_2 (List.mem_of_getElem? (i := 46) (by decide +kernel))) (by decide +kernel)
set_option maxRecDepth 20000 in
theorem kw_44 : Cond.methodLink RX0 70 yX0_leavesTaken ∈ gt := gt_m (tb_2 (List.mem_of_getElem? (i := 41) (by decide +kernel))) (by decide +kernel)
set_option maxRecDepth 20000 in
theorem kw_45 : Cond.selects RX0 yX0_leavesTaken yX0_leavesTaken ∈ gt := gt_m (List.mem_append_left _ (List.mem_of_getElem? (i := 5) (by decide +kernel))) (by decide +kernel)
set_option maxRecDepth 20000 in
theorem kw_46 : Cond.instanceMethod yX0_leavesTaken ∈ gt := gt_m (tb_2 (List.mem_of_getElem? (i := 43) (by decide +kernel))) (by decide +kernel)
set_option maxRecDepth 20000 in
theorem kw_47 : Cond.methodLink RX0 94 yX0_isOnPlace ∈ gt := gt_m (tb_2 (List.mem_of_getElem? (i := 53) (by decide +kernel))) (by decide +kernel)
set_option maxRecDepth 20000 in
theorem kw_48 : Cond.static yX0_isOnPlace ∈ gt := gt_m (tb_2 (List.mem_of_getElem? (i := 54) (by decide +kernel))) (by decide +kernel)
set_option maxRecDepth 20000 in
theorem kw_49 : Cond.methodLink RX4 41 yX4_isReference ∈ gt := gt_m (tb_2 (List.mem_of_getElem? (i := 60) (by decide +kernel))) (by decide +kernel)
set_option maxRecDepth 20000 in
theorem kw_50 : Cond.selects RX4 yX4_isReference yX4_isReference ∈ gt := gt_m (tb_2 (List.mem_of_getElem? (i := 62) (by decide +kernel))) (by decide +kernel)
set_option maxRecDepth 20000 in
theorem kw_51 : Cond.instanceMethod yX4_isReference ∈ gt := gt_m (tb_2 (List.mem_of_getElem? (i := 61) (by decide +kernel))) (by decide +kernel)
set_option maxRecDepth 20000 in
theorem kw_52 : Cond.methodLink RX0 97 yX4_goesThrough ∈ gt := gt_m (tb_2 (List.mem_of_getElem? (i := 56) (by decide +kernel))) (by decide +kernel)
set_option maxRecDepth 20000 in
theorem kw_53 : Cond.selects RX4 yX4_goesThrough yX4_goesThrough ∈ gt := gt_m (tb_2 (List.mem_of_getElem? (i := 58) (by decide +kernel))) (by decide +kernel)
set_option maxRecDepth 20000 in
theorem kw_54 : Cond.instanceMethod yX4_goesThrough ∈ gt := gt_m (tb_2 (List.mem_of_getElem? (i := 57) (by decide +kernel))) (by decide +kernel)
set_option maxRecDepth 20000 in
theorem kw_55 : Cond.methodLink RX0 73 yX0_referenceUsed ∈ gt := gt_m (tb_2 (List.mem_of_getElem? (i := 49) (by decide +kernel))) (by decide +kernel)
set_option maxRecDepth 20000 in
theorem kw_56 : Cond.selects RX0 yX0_referenceUsed yX0_referenceUsed ∈ gt := gt_m (List.mem_append_left _ (List.mem_of_getElem? (i := 6) (by decide +kernel))) (by decide +kernel)
set_option maxRecDepth 20000 in
theorem kw_57 : Cond.instanceMethod yX0_referenceUsed ∈ gt := gt_m (tb_2 (List.mem_of_getElem? (i := 51) (by decide +kernel))) (by decide +kernel)
set_option maxRecDepth 20000 in
theorem kw_58 : Cond.methodLink RX0 100 yX4_isReference ∈ gt := gt_m (tb_2 (List.mem_of_getElem? (i := 68) (by decide +kernel))) (by decide +kernel)
set_option maxRecDepth 20000 in
theorem kw_59 : Cond.methodLink RX0 77 yX0_referenceRenewed ∈ gt := gt_m (tb_2 (List.mem_of_getElem? (i := 64) (by decide +kernel))) (by decide +kernel)
set_option maxRecDepth 20000 in
theorem kw_60 : Cond.selects RX0 yX0_referenceRenewed yX0_referenceRenewed ∈ gt := gt_m (List.mem_append_left _ (List.mem_of_getElem? (i := 7) (by decide +kernel))) (by decide +kernel)
set_option maxRecDepth 20000 in
theorem kw_61 : Cond.instanceMethod yX0_referenceRenewed ∈ gt := gt_m (tb_2 (List.mem_of_getElem? (i := 66) (by decide +kernel))) (by decide +kernel)
set_option maxRecDepth 20000 in
theorem kw_62 : Cond.methodLink RX0 50 yX0_lendsBeside ∈ gt := gt_m (tb_2 (List.mem_of_getElem? (i := 18) (by decide +kernel))) (by decide +kernel)
set_option maxRecDepth 20000 in
theorem kw_63 : Cond.selects RX0 yX0_lendsBeside yX0_lendsBeside ∈ gt := gt_m (tb_2 (List.mem_of_getElem? (i := 20) (by decide +kernel))) (by decide +kernel)
set_option maxRecDepth 20000 in
theorem kw_64 : Cond.instanceMethod yX0_lendsBeside ∈ gt := gt_m (tb_2 (List.mem_of_getElem? (i := 19) (by decide +kernel))) (by decide +kernel)
set_option maxRecDepth 20000 in
theorem kw_65 : Cond.methodLink RX6 172 yX0_put ∈ gt := gt_m (tb_2 (List.mem_of_getElem? (i := 14) (by decide +kernel))) (by decide +kernel)
set_option maxRecDepth 20000 in
theorem kw_66 : Cond.selects RX0 yX0_put yX0_put ∈ gt := gt_m (tb_2 (List.mem_of_getElem? (i := 16) (by decide +kernel))) (by decide +kernel)
set_option maxRecDepth 20000 in
theorem kw_67 : Cond.instanceMethod yX0_put ∈ gt := gt_m (tb_2 (List.mem_of_getElem? (i := 15) (by decide +kernel))) (by decide +kernel)
set_option maxRecDepth 20000 in
theorem kw_68 : Cond.methodLink RX6 76 yX6_put ∈ gt := gt_m (tb_2 (List.mem_of_getElem? (i := 10) (by decide +kernel))) (by decide +kernel)
set_option maxRecDepth 20000 in
theorem kw_69 : Cond.selects RX6 yX6_put yX6_put ∈ gt := gt_m (List.mem_append_left _ (List.mem_of_getElem? (i := 2) (by decide +kernel))) (by decide +kernel)
set_option maxRecDepth 20000 in
theorem kw_70 : Cond.instanceMethod yX6_put ∈ gt := gt_m (tb_2 (List.mem_of_getElem? (i := 12) (by decide +kernel))) (by decide +kernel)
set_option maxRecDepth 20000 in
theorem kw_71 : Cond.methodLink RX6 73 yX6_isPoint ∈ gt := gt_m (tb_2 (List.mem_of_getElem? (i := 7) (by decide +kernel))) (by decide +kernel)
set_option maxRecDepth 20000 in
theorem kw_72 : Cond.static yX6_isPoint ∈ gt := gt_m (tb_2 (List.mem_of_getElem? (i := 8) (by decide +kernel))) (by decide +kernel)
set_option maxRecDepth 20000 in
theorem kw_73 : Cond.methodLink RX3 9 yX3_firstDigit ∈ gt := gt_m (tb_2 (List.mem_of_getElem? (i := 80) (by decide +kernel))) (by decide +kernel)
set_option maxRecDepth 20000 in
theorem kw_74 : Cond.methodLink RX3 15 yX3_behindFirst ∈ gt := gt_m (tb_2 (List.mem_of_getElem? (i := 81) (by decide +kernel))) (by decide +kernel)
set_option maxRecDepth 20000 in
theorem kw_75 : Cond.methodLink RX4 36 yX3_isPath ∈ gt := gt_m (tb_2 (List.mem_of_getElem? (i := 77) (by decide +kernel))) (by decide +kernel)
set_option maxRecDepth 20000 in
theorem kw_76 : Cond.static yX3_isPath ∈ gt := gt_m (tb_2 (List.mem_of_getElem? (i := 78) (by decide +kernel))) (by decide +kernel)
set_option maxRecDepth 20000 in
theorem kw_77 : Cond.methodLink RX4 57 yX4_isPlace ∈ gt := gt_m (tb_2 (List.mem_of_getElem? (i := 73) (by decide +kernel))) (by decide +kernel)
set_option maxRecDepth 20000 in
theorem kw_78 : Cond.selects RX4 yX4_isPlace yX4_isPlace ∈ gt := gt_m (tb_2 (List.mem_of_getElem? (i := 75) (by decide +kernel))) (by decide +kernel)
set_option maxRecDepth 20000 in
theorem kw_79 : Cond.instanceMethod yX4_isPlace ∈ gt := gt_m (tb_2 (List.mem_of_getElem? (i := 74) (by decide +kernel))) (by decide +kernel)
set_option maxRecDepth 20000 in
theorem kw_80 : Cond.methodLink RX4 64 yX4_isSole ∈ gt := gt_m (tb_2 (List.mem_of_getElem? (i := 83) (by decide +kernel))) (by decide +kernel)
set_option maxRecDepth 20000 in
theorem kw_81 : Cond.methodLink RX4 61 yX4_isWithin ∈ gt := gt_m (tb_2 (List.mem_of_getElem? (i := 82) (by decide +kernel))) (by decide +kernel)
set_option maxRecDepth 20000 in
theorem kw_82 : Cond.methodLink RX6 80 yX4_mayAct ∈ gt := gt_m (tb_2 (List.mem_of_getElem? (i := 69) (by decide +kernel))) (by decide +kernel)
set_option maxRecDepth 20000 in
theorem kw_83 : Cond.selects RX4 yX4_mayAct yX4_mayAct ∈ gt := gt_m (tb_2 (List.mem_of_getElem? (i := 71) (by decide +kernel))) (by decide +kernel)
set_option maxRecDepth 20000 in
theorem kw_84 : Cond.instanceMethod yX4_mayAct ∈ gt := gt_m (tb_2 (List.mem_of_getElem? (i := 70) (by decide +kernel))) (by decide +kernel)
set_option maxRecDepth 20000 in
theorem kw_85 : Cond.methodLink RX4 67 yX4_isShared ∈ gt := gt_m (tb_2 (List.mem_of_getElem? (i := 92) (by decide +kernel))) (by decide +kernel)
set_option maxRecDepth 20000 in
theorem kw_86 : Cond.selects RX4 yX4_isShared yX4_isShared ∈ gt := gt_m (tb_2 (List.mem_of_getElem? (i := 94) (by decide +kernel))) (by decide +kernel)
set_option maxRecDepth 20000 in
theorem kw_87 : Cond.instanceMethod yX4_isShared ∈ gt := gt_m (tb_2 (List.mem_of_getElem? (i := 93) (by decide +kernel))) (by decide +kernel)
set_option maxRecDepth 20000 in
theorem kw_88 : Cond.methodLink RX6 84 yX4_mayLend ∈ gt := gt_m (tb_2 (List.mem_of_getElem? (i := 88) (by decide +kernel))) (by decide +kernel)
set_option maxRecDepth 20000 in
theorem kw_89 : Cond.selects RX4 yX4_mayLend yX4_mayLend ∈ gt := gt_m (tb_2 (List.mem_of_getElem? (i := 90) (by decide +kernel))) (by decide +kernel)
set_option maxRecDepth 20000 in
theorem kw_90 : Cond.instanceMethod yX4_mayLend ∈ gt := gt_m (tb_2 (List.mem_of_getElem? (i := 89) (by decide +kernel))) (by decide +kernel)
set_option maxRecDepth 20000 in
theorem kw_91 : Cond.methodLink RX6 87 yX0_lendsBeside ∈ gt := gt_m (tb_2 (List.mem_of_getElem? (i := 96) (by decide +kernel))) (by decide +kernel)
set_option maxRecDepth 20000 in
theorem kw_92 : Cond.methodLink RX6 91 yX4_mayCopy ∈ gt := gt_m (tb_2 (List.mem_of_getElem? (i := 101) (by decide +kernel))) (by decide +kernel)
set_option maxRecDepth 20000 in
theorem kw_93 : Cond.selects RX4 yX4_mayCopy yX4_mayCopy ∈ gt := gt_m (tb_2 (List.mem_of_getElem? (i := 103) (by decide +kernel))) (by decide +kernel)
set_option maxRecDepth 20000 in
theorem kw_94 : Cond.instanceMethod yX4_mayCopy ∈ gt := gt_m (tb_2 (List.mem_of_getElem? (i := 102) (by decide +kernel))) (by decide +kernel)
set_option maxRecDepth 20000 in
theorem kw_95 : Cond.methodLink RX5 31 yX5_nextOf ∈ gt := gt_m (tb_2 (List.mem_of_getElem? (i := 117) (by decide +kernel))) (by decide +kernel)
set_option maxRecDepth 20000 in
theorem kw_96 : Cond.selects RX5 yX5_nextOf yX5_nextOf ∈ gt := gt_m (tb_2 (List.mem_of_getElem? (i := 119) (by decide +kernel))) (by decide +kernel)
set_option maxRecDepth 20000 in
theorem kw_97 : Cond.instanceMethod yX5_nextOf ∈ gt := gt_m (tb_2 (List.mem_of_getElem? (i := 118) (by decide +kernel))) (by decide +kernel)
set_option maxRecDepth 20000 in
theorem kw_98 : Cond.methodLink RX5 27 yX5_indexOf ∈ gt := gt_m (tb_2 (List.mem_of_getElem? (i := 113) (by decide +kernel))) (by decide +kernel)
set_option maxRecDepth 20000 in
theorem kw_99 : Cond.selects RX5 yX5_indexOf yX5_indexOf ∈ gt := gt_m (List.mem_append_left _ (List.mem_of_getElem? (i := 8) (by decide +kernel))) (by decide +kernel)
set_option maxRecDepth 20000 in
theorem kw_100 : Cond.instanceMethod yX5_indexOf ∈ gt := gt_m (tb_2 (List.mem_of_getElem? (i := 115) (by decide +kernel))) (by decide +kernel)
set_option maxRecDepth 20000 in
theorem kw_101 : Cond.methodLink RX6 96 yX5_remove ∈ gt := gt_m (tb_2 (List.mem_of_getElem? (i := 121) (by decide +kernel))) (by decide +kernel)
set_option maxRecDepth 20000 in
theorem kw_102 : Cond.selects RX5 yX5_remove yX5_remove ∈ gt := gt_m (tb_2 (List.mem_of_getElem? (i := 123) (by decide +kernel))) (by decide +kernel)
set_option maxRecDepth 20000 in
theorem kw_103 : Cond.instanceMethod yX5_remove ∈ gt := gt_m (tb_2 (List.mem_of_getElem? (i := 122) (by decide +kernel))) (by decide +kernel)
set_option maxRecDepth 20000 in
theorem kw_104 : Cond.methodLink RX6 94 yX5_add ∈ gt := gt_m (tb_2 (List.mem_of_getElem? (i := 109) (by decide +kernel))) (by decide +kernel)
set_option maxRecDepth 20000 in
theorem kw_105 : Cond.selects RX5 yX5_add yX5_add ∈ gt := gt_m (tb_2 (List.mem_of_getElem? (i := 111) (by decide +kernel))) (by decide +kernel)
set_option maxRecDepth 20000 in
theorem kw_106 : Cond.instanceMethod yX5_add ∈ gt := gt_m (tb_2 (List.mem_of_getElem? (i := 110) (by decide +kernel))) (by decide +kernel)
set_option maxRecDepth 20000 in
theorem kw_107 : Cond.methodLink RX5 34 yJ7_fill_53178 ∈ gt := gt_m (tb_2 (List.mem_of_getElem? (i := 141) (by decide +kernel))) (by decide +kernel)
set_option maxRecDepth 20000 in
theorem kw_108 : Cond.methodLink RX6 185 yX5_walk ∈ gt := gt_m (tb_2 (List.mem_of_getElem? (i := 137) (by decide +kernel))) (by decide +kernel)
set_option maxRecDepth 20000 in
theorem kw_109 : Cond.selects RX5 yX5_walk yX5_walk ∈ gt := gt_m (tb_2 (List.mem_of_getElem? (i := 139) (by decide +kernel))) (by decide +kernel)
set_option maxRecDepth 20000 in
theorem kw_110 : Cond.instanceMethod yX5_walk ∈ gt := gt_m (tb_2 (List.mem_of_getElem? (i := 138) (by decide +kernel))) (by decide +kernel)
set_option maxRecDepth 20000 in
theorem kw_111 : Cond.methodLink RX6 119 yX6_knowWays ∈ gt := gt_m (tb_2 (List.mem_of_getElem? (i := 133) (by decide +kernel))) (by decide +kernel)
set_option maxRecDepth 20000 in
theorem kw_112 : Cond.selects RX6 yX6_knowWays yX6_knowWays ∈ gt := gt_m (List.mem_append_left _ (List.mem_of_getElem? (i := 10) (by decide +kernel))) (by decide +kernel)
set_option maxRecDepth 20000 in
theorem kw_113 : Cond.instanceMethod yX6_knowWays ∈ gt := gt_m (tb_2 (List.mem_of_getElem? (i := 135) (by decide +kernel))) (by decide +kernel)
set_option maxRecDepth 20000 in
theorem kw_114 : Cond.methodLink RX6 188 yX4_begun ∈ gt := gt_m (tb_2 (List.mem_of_getElem? (i := 142) (by decide +kernel))) (by decide +kernel)
set_option maxRecDepth 20000 in
theorem kw_115 : Cond.selects RX4 yX4_begun yX4_begun ∈ gt := gt_m (tb_2 (List.mem_of_getElem? (i := 144) (by decide +kernel))) (by decide +kernel)
set_option maxRecDepth 20000 in
theorem kw_116 : Cond.instanceMethod yX4_begun ∈ gt := gt_m (tb_2 (List.mem_of_getElem? (i := 143) (by decide +kernel))) (by decide +kernel)
set_option maxRecDepth 20000 in
theorem kw_117 : Cond.methodLink RX1 39 yX5_size ∈ gt := gt_m (tb_2 (List.mem_of_getElem? (i := 155) (by decide +kernel))) (by decide +kernel)
set_option maxRecDepth 20000 in
theorem kw_118 : Cond.selects RX5 yX5_size yX5_size ∈ gt := gt_m (tb_2 (List.mem_of_getElem? (i := 157) (by decide +kernel))) (by decide +kernel)
set_option maxRecDepth 20000 in
theorem kw_119 : Cond.instanceMethod yX5_size ∈ gt := gt_m (tb_2 (List.mem_of_getElem? (i := 156) (by decide +kernel))) (by decide +kernel)
set_option maxRecDepth 20000 in
theorem kw_120 : Cond.methodLink RX1 45 yX5_fromTheBeginning ∈ gt := gt_m (tb_2 (List.mem_of_getElem? (i := 159) (by decide +kernel))) (by decide +kernel)
set_option maxRecDepth 20000 in
theorem kw_121 : Cond.selects RX5 yX5_fromTheBeginning yX5_fromTheBeginning ∈ gt := gt_m (tb_2 (List.mem_of_getElem? (i := 161) (by decide +kernel))) (by decide +kernel)
set_option maxRecDepth 20000 in
theorem kw_122 : Cond.instanceMethod yX5_fromTheBeginning ∈ gt := gt_m (tb_2 (List.mem_of_getElem? (i := 160) (by decide +kernel))) (by decide +kernel)
set_option maxRecDepth 20000 in
theorem kw_123 : Cond.methodLink RX1 62 yX5_nextCount ∈ gt := gt_m (tb_2 (List.mem_of_getElem? (i := 175) (by decide +kernel))) (by decide +kernel)
set_option maxRecDepth 20000 in
theorem kw_124 : Cond.selects RX5 yX5_nextCount yX5_nextCount ∈ gt := gt_m (tb_2 (List.mem_of_getElem? (i := 177) (by decide +kernel))) (by decide +kernel)
set_option maxRecDepth 20000 in
theorem kw_125 : Cond.instanceMethod yX5_nextCount ∈ gt := gt_m (tb_2 (List.mem_of_getElem? (i := 176) (by decide +kernel))) (by decide +kernel)
set_option maxRecDepth 20000 in
theorem kw_126 : Cond.methodLink RX1 65 yX5_nextOf ∈ gt := gt_m (tb_2 (List.mem_of_getElem? (i := 179) (by decide +kernel))) (by decide +kernel)
set_option maxRecDepth 20000 in
theorem kw_127 : Cond.constantLong RX1 30 (-1) ∈ gt := gt_m (tb_2 (List.mem_of_getElem? (i := 150) (by decide +kernel))) (by decide +kernel)
set_option maxRecDepth 20000 in
theorem kw_128 : Cond.methodLink RX1 53 yX0_takenAt ∈ gt := gt_m (tb_2 (List.mem_of_getElem? (i := 167) (by decide +kernel))) (by decide +kernel)
set_option maxRecDepth 20000 in
theorem kw_129 : Cond.selects RX0 yX0_takenAt yX0_takenAt ∈ gt := gt_m (tb_2 (List.mem_of_getElem? (i := 169) (by decide +kernel))) (by decide +kernel)
set_option maxRecDepth 20000 in
theorem kw_130 : Cond.instanceMethod yX0_takenAt ∈ gt := gt_m (tb_2 (List.mem_of_getElem? (i := 168) (by decide +kernel))) (by decide +kernel)
set_option maxRecDepth 20000 in
theorem kw_131 : Cond.methodLink RX1 59 yX0_givenAt ∈ gt := gt_m (tb_2 (List.mem_of_getElem? (i := 171) (by decide +kernel))) (by decide +kernel)
set_option maxRecDepth 20000 in
theorem kw_132 : Cond.selects RX0 yX0_givenAt yX0_givenAt ∈ gt := gt_m (tb_2 (List.mem_of_getElem? (i := 173) (by decide +kernel))) (by decide +kernel)
set_option maxRecDepth 20000 in
theorem kw_133 : Cond.instanceMethod yX0_givenAt ∈ gt := gt_m (tb_2 (List.mem_of_getElem? (i := 172) (by decide +kernel))) (by decide +kernel)
set_option maxRecDepth 20000 in
theorem kw_134 : Cond.methodLink RX1 49 yX1_handOn ∈ gt := gt_m (tb_2 (List.mem_of_getElem? (i := 163) (by decide +kernel))) (by decide +kernel)
set_option maxRecDepth 20000 in
theorem kw_135 : Cond.selects RX1 yX1_handOn yX1_handOn ∈ gt := gt_m (List.mem_append_left _ (List.mem_of_getElem? (i := 11) (by decide +kernel))) (by decide +kernel)
set_option maxRecDepth 20000 in
theorem kw_136 : Cond.instanceMethod yX1_handOn ∈ gt := gt_m (tb_2 (List.mem_of_getElem? (i := 165) (by decide +kernel))) (by decide +kernel)
set_option maxRecDepth 20000 in
theorem kw_137 : Cond.constant RX1 38 (144001) ∈ gt := gt_m (tb_2 (List.mem_of_getElem? (i := 154) (by decide +kernel))) (by decide +kernel)
set_option maxRecDepth 20000 in
theorem kw_138 : Cond.methodLink RX1 32 yJ7_fill_d0a16 ∈ gt := gt_m (tb_2 (List.mem_of_getElem? (i := 151) (by decide +kernel))) (by decide +kernel)
set_option maxRecDepth 20000 in
theorem kw_139 : Cond.methodLink RX6 192 yX1_flow ∈ gt := gt_m (tb_2 (List.mem_of_getElem? (i := 146) (by decide +kernel))) (by decide +kernel)
set_option maxRecDepth 20000 in
theorem kw_140 : Cond.selects RX1 yX1_flow yX1_flow ∈ gt := gt_m (tb_2 (List.mem_of_getElem? (i := 148) (by decide +kernel))) (by decide +kernel)
set_option maxRecDepth 20000 in
theorem kw_141 : Cond.instanceMethod yX1_flow ∈ gt := gt_m (tb_2 (List.mem_of_getElem? (i := 147) (by decide +kernel))) (by decide +kernel)
set_option maxRecDepth 20000 in
theorem kw_142 : Cond.methodLink RX6 100 yX6_knowLeaves ∈ gt := gt_m (tb_2 (List.mem_of_getElem? (i := 129) (by decide +kernel))) (by decide +kernel)
set_option maxRecDepth 20000 in
theorem kw_143 : Cond.selects RX6 yX6_knowLeaves yX6_knowLeaves ∈ gt := gt_m (List.mem_append_left _ (List.mem_of_getElem? (i := 9) (by decide +kernel))) (by decide +kernel)
set_option maxRecDepth 20000 in
theorem kw_144 : Cond.instanceMethod yX6_knowLeaves ∈ gt := gt_m (tb_2 (List.mem_of_getElem? (i := 131) (by decide +kernel))) (by decide +kernel)
set_option maxRecDepth 20000 in
theorem kw_145 : Cond.methodLink RX1 69 yX5_comeTo ∈ gt := gt_m (tb_2 (List.mem_of_getElem? (i := 188) (by decide +kernel))) (by decide +kernel)
set_option maxRecDepth 20000 in
theorem kw_146 : Cond.selects RX5 yX5_comeTo yX5_comeTo ∈ gt := gt_m (tb_2 (List.mem_of_getElem? (i := 190) (by decide +kernel))) (by decide +kernel)
set_option maxRecDepth 20000 in
theorem kw_147 : Cond.instanceMethod yX5_comeTo ∈ gt := gt_m (tb_2 (List.mem_of_getElem? (i := 189) (by decide +kernel))) (by decide +kernel)
set_option maxRecDepth 20000 in
theorem kw_148 : Cond.methodLink RX1 72 yX0_wantedAt ∈ gt := gt_m (tb_2 (List.mem_of_getElem? (i := 192) (by decide +kernel))) (by decide +kernel)
set_option maxRecDepth 20000 in
theorem kw_149 : Cond.selects RX0 yX0_wantedAt yX0_wantedAt ∈ gt := gt_m (tb_2 (List.mem_of_getElem? (i := 194) (by decide +kernel))) (by decide +kernel)
set_option maxRecDepth 20000 in
theorem kw_150 : Cond.instanceMethod yX0_wantedAt ∈ gt := gt_m (tb_2 (List.mem_of_getElem? (i := 193) (by decide +kernel))) (by decide +kernel)
set_option maxRecDepth 20000 in
theorem kw_151 : Cond.methodLink RX6 205 yX1_missing ∈ gt := gt_m (tb_2 (List.mem_of_getElem? (i := 184) (by decide +kernel))) (by decide +kernel)
set_option maxRecDepth 20000 in
theorem kw_152 : Cond.selects RX1 yX1_missing yX1_missing ∈ gt := gt_m (tb_2 (List.mem_of_getElem? (i := 186) (by decide +kernel))) (by decide +kernel)
set_option maxRecDepth 20000 in
theorem kw_153 : Cond.instanceMethod yX1_missing ∈ gt := gt_m (tb_2 (List.mem_of_getElem? (i := 185) (by decide +kernel))) (by decide +kernel)
set_option maxRecDepth 20000 in
theorem kw_154 : Cond.methodLink RX6 103 yX6_leastUnheld ∈ gt := gt_m (tb_2 (List.mem_of_getElem? (i := 180) (by decide +kernel))) (by decide +kernel)
set_option maxRecDepth 20000 in
theorem kw_155 : Cond.selects RX6 yX6_leastUnheld yX6_leastUnheld ∈ gt := gt_m (List.mem_append_left _ (List.mem_of_getElem? (i := 12) (by decide +kernel))) (by decide +kernel)
set_option maxRecDepth 20000 in
theorem kw_156 : Cond.instanceMethod yX6_leastUnheld ∈ gt := gt_m (tb_2 (List.mem_of_getElem? (i := 182) (by decide +kernel))) (by decide +kernel)
set_option maxRecDepth 20000 in
theorem kw_157 : Cond.methodLink RX0 103 yX4_isShared ∈ gt := gt_m (tb_2 (List.mem_of_getElem? (i := 209) (by decide +kernel))) (by decide +kernel)
set_option maxRecDepth 20000 in
theorem kw_158 : Cond.methodLink RX2 57 yX0_makesLoan ∈ gt := gt_m (tb_2 (List.mem_of_getElem? (i := 205) (by decide +kernel))) (by decide +kernel)
set_option maxRecDepth 20000 in
theorem kw_159 : Cond.selects RX0 yX0_makesLoan yX0_makesLoan ∈ gt := gt_m (tb_2 (List.mem_of_getElem? (i := 207) (by decide +kernel))) (by decide +kernel)
set_option maxRecDepth 20000 in
theorem kw_160 : Cond.instanceMethod yX0_makesLoan ∈ gt := gt_m (tb_2 (List.mem_of_getElem? (i := 206) (by decide +kernel))) (by decide +kernel)
set_option maxRecDepth 20000 in
theorem kw_161 : Cond.methodLink RX2 63 yX0_variableAt ∈ gt := gt_m (tb_2 (List.mem_of_getElem? (i := 210) (by decide +kernel))) (by decide +kernel)
set_option maxRecDepth 20000 in
theorem kw_162 : Cond.selects RX0 yX0_variableAt yX0_variableAt ∈ gt := gt_m (tb_2 (List.mem_of_getElem? (i := 212) (by decide +kernel))) (by decide +kernel)
set_option maxRecDepth 20000 in
theorem kw_163 : Cond.instanceMethod yX0_variableAt ∈ gt := gt_m (tb_2 (List.mem_of_getElem? (i := 211) (by decide +kernel))) (by decide +kernel)
set_option maxRecDepth 20000 in
theorem kw_164 : Cond.methodLink RX0 106 yX0_makesLoan ∈ gt := gt_m (tb_2 (List.mem_of_getElem? (i := 218) (by decide +kernel))) (by decide +kernel)
set_option maxRecDepth 20000 in
theorem kw_165 : Cond.methodLink RX2 67 yX0_makesSoleLoan ∈ gt := gt_m (tb_2 (List.mem_of_getElem? (i := 214) (by decide +kernel))) (by decide +kernel)
set_option maxRecDepth 20000 in
theorem kw_166 : Cond.selects RX0 yX0_makesSoleLoan yX0_makesSoleLoan ∈ gt := gt_m (tb_2 (List.mem_of_getElem? (i := 216) (by decide +kernel))) (by decide +kernel)
set_option maxRecDepth 20000 in
theorem kw_167 : Cond.instanceMethod yX0_makesSoleLoan ∈ gt := gt_m (tb_2 (List.mem_of_getElem? (i := 215) (by decide +kernel))) (by decide +kernel)
set_option maxRecDepth 20000 in
theorem kw_168 : Cond.methodLink RX2 43 yJ7_fill_d0a16 ∈ gt := gt_m (tb_2 (List.mem_of_getElem? (i := 204) (by decide +kernel))) (by decide +kernel)
set_option maxRecDepth 20000 in
theorem kw_169 : Cond.methodLink RX6 196 yX2_number ∈ gt := gt_m (tb_2 (List.mem_of_getElem? (i := 200) (by decide +kernel))) (by decide +kernel)
set_option maxRecDepth 20000 in
theorem kw_170 : Cond.selects RX2 yX2_number yX2_number ∈ gt := gt_m (tb_2 (List.mem_of_getElem? (i := 202) (by decide +kernel))) (by decide +kernel)
set_option maxRecDepth 20000 in
theorem kw_171 : Cond.instanceMethod yX2_number ∈ gt := gt_m (tb_2 (List.mem_of_getElem? (i := 201) (by decide +kernel))) (by decide +kernel)
set_option maxRecDepth 20000 in
theorem kw_172 : Cond.methodLink RX2 71 yX5_size ∈ gt := gt_m (tb_2 (List.mem_of_getElem? (i := 224) (by decide +kernel))) (by decide +kernel)
set_option maxRecDepth 20000 in
theorem kw_173 : Cond.methodLink RX2 77 yX5_fromTheBeginning ∈ gt := gt_m (tb_2 (List.mem_of_getElem? (i := 225) (by decide +kernel))) (by decide +kernel)
set_option maxRecDepth 20000 in
theorem kw_174 : Cond.methodLink RX2 93 yX5_nextCount ∈ gt := gt_m (tb_3 (List.mem_of_getElem? (i := 10) (by decide +kernel))) (by decide +kernel)
set_option maxRecDepth 20000 in
theorem kw_175 : Cond.methodLink RX2 96 yX5_nextOf ∈ gt := gt_m (tb_3 (List.mem_of_getElem? (i := 11) (by decide +kernel))) (by decide +kernel)
set_option maxRecDepth 20000 in
theorem kw_176 : Cond.methodLink RX2 109 yX4_size ∈ gt := gt_m (tb_3 (List.mem_of_getElem? (i := 5) (by decide +kernel))) (by decide +kernel)
set_option maxRecDepth 20000 in
theorem kw_177 : Cond.selects RX4 yX4_size yX4_size ∈ gt := gt_m (tb_3 (List.mem_of_getElem? (i := 7) (by decide +kernel))) (by decide +kernel)
set_option maxRecDepth 20000 in
theorem kw_178 : Cond.instanceMethod yX4_size ∈ gt := gt_m (tb_3 (List.mem_of_getElem? (i := 6) (by decide +kernel))) (by decide +kernel)
set_option maxRecDepth 20000 in
theorem kw_179 : Cond.constantLong RX2 112 (-1) ∈ gt := gt_m (tb_3 (List.mem_of_getElem? (i := 9) (by decide +kernel))) (by decide +kernel)
set_option maxRecDepth 20000 in
theorem kw_180 : Cond.methodLink RX2 100 yX2_takeOver ∈ gt := gt_m (tb_3 (List.mem_of_getElem? (i := 12) (by decide +kernel))) (by decide +kernel)
set_option maxRecDepth 20000 in
theorem kw_181 : Cond.selects RX2 yX2_takeOver yX2_takeOver ∈ gt := gt_m (List.mem_append_left _ (List.mem_of_getElem? (i := 16) (by decide +kernel))) (by decide +kernel)
set_option maxRecDepth 20000 in
theorem kw_182 : Cond.instanceMethod yX2_takeOver ∈ gt := gt_m (tb_3 (List.mem_of_getElem? (i := 14) (by decide +kernel))) (by decide +kernel)
set_option maxRecDepth 20000 in
theorem kw_183 : Cond.methodLink RX2 83 arraycopyName ∈ gt := gt_m (tb_2 (List.mem_of_getElem? (i := 230) (by decide +kernel))) (by decide +kernel)
set_option maxRecDepth 20000 in
theorem kw_184 : Cond.native arraycopyName ∈ gt := gt_m (tb_2 (List.mem_of_getElem? (i := 232) (by decide +kernel))) (by decide +kernel)
set_option maxRecDepth 20000 in
theorem kw_185 : Cond.static arraycopyName ∈ gt := gt_m (tb_2 (List.mem_of_getElem? (i := 231) (by decide +kernel))) (by decide +kernel)
set_option maxRecDepth 20000 in
theorem kw_186 : Cond.initialized RJ10 ∈ gt := gt_m (tb_1 (List.mem_of_getElem? (i := 10) (by decide +kernel))) (by decide +kernel)
set_option maxRecDepth 20000 in
theorem kw_187 : Cond.methodLink RX2 103 yX0_renewedAt ∈ gt := gt_m (tb_2 (List.mem_of_getElem? (i := 237) (by decide +kernel))) (by decide +kernel)
set_option maxRecDepth 20000 in
theorem kw_188 : Cond.selects RX0 yX0_renewedAt yX0_renewedAt ∈ gt := gt_m (tb_2 (List.mem_of_getElem? (i := 239) (by decide +kernel))) (by decide +kernel)
set_option maxRecDepth 20000 in
theorem kw_189 : Cond.instanceMethod yX0_renewedAt ∈ gt := gt_m (tb_2 (List.mem_of_getElem? (i := 238) (by decide +kernel))) (by decide +kernel)
set_option maxRecDepth 20000 in
theorem kw_190 : Cond.methodLink RX2 106 yX0_usedAt ∈ gt := gt_m (tb_3 (List.mem_of_getElem? (i := 1) (by decide +kernel))) (by decide +kernel)
set_option maxRecDepth 20000 in
theorem kw_191 : Cond.selects RX0 yX0_usedAt yX0_usedAt ∈ gt := gt_m (tb_3 (List.mem_of_getElem? (i := 3) (by decide +kernel))) (by decide +kernel)
set_option maxRecDepth 20000 in
theorem kw_192 : Cond.instanceMethod yX0_usedAt ∈ gt := gt_m (tb_3 (List.mem_of_getElem? (i := 2) (by decide +kernel))) (by decide +kernel)
set_option maxRecDepth 20000 in
theorem kw_193 : Cond.methodLink RX2 89 yX2_renew ∈ gt := gt_m (tb_2 (List.mem_of_getElem? (i := 233) (by decide +kernel))) (by decide +kernel)
set_option maxRecDepth 20000 in
theorem kw_194 : Cond.selects RX2 yX2_renew yX2_renew ∈ gt := gt_m (List.mem_append_left _ (List.mem_of_getElem? (i := 15) (by decide +kernel))) (by decide +kernel)
set_option maxRecDepth 20000 in
theorem kw_195 : Cond.instanceMethod yX2_renew ∈ gt := gt_m (tb_2 (List.mem_of_getElem? (i := 235) (by decide +kernel))) (by decide +kernel)
set_option maxRecDepth 20000 in
theorem kw_196 : Cond.methodLink RX2 80 yX2_handOn ∈ gt := gt_m (tb_2 (List.mem_of_getElem? (i := 226) (by decide +kernel))) (by decide +kernel)
set_option maxRecDepth 20000 in
theorem kw_197 : Cond.selects RX2 yX2_handOn yX2_handOn ∈ gt := gt_m (List.mem_append_left _ (List.mem_of_getElem? (i := 14) (by decide +kernel))) (by decide +kernel)
set_option maxRecDepth 20000 in
theorem kw_198 : Cond.instanceMethod yX2_handOn ∈ gt := gt_m (tb_2 (List.mem_of_getElem? (i := 228) (by decide +kernel))) (by decide +kernel)
set_option maxRecDepth 20000 in
theorem kw_199 : Cond.constant RX2 70 (144001) ∈ gt := gt_m (tb_2 (List.mem_of_getElem? (i := 223) (by decide +kernel))) (by decide +kernel)
set_option maxRecDepth 20000 in
theorem kw_200 : Cond.methodLink RX6 199 yX2_flowHoldings ∈ gt := gt_m (tb_2 (List.mem_of_getElem? (i := 219) (by decide +kernel))) (by decide +kernel)
set_option maxRecDepth 20000 in
theorem kw_201 : Cond.selects RX2 yX2_flowHoldings yX2_flowHoldings ∈ gt := gt_m (tb_2 (List.mem_of_getElem? (i := 221) (by decide +kernel))) (by decide +kernel)
set_option maxRecDepth 20000 in
theorem kw_202 : Cond.instanceMethod yX2_flowHoldings ∈ gt := gt_m (tb_2 (List.mem_of_getElem? (i := 220) (by decide +kernel))) (by decide +kernel)
set_option maxRecDepth 20000 in
theorem kw_203 : Cond.methodLink RX2 117 yX5_fromTheEnd ∈ gt := gt_m (tb_3 (List.mem_of_getElem? (i := 21) (by decide +kernel))) (by decide +kernel)
set_option maxRecDepth 20000 in
theorem kw_204 : Cond.selects RX5 yX5_fromTheEnd yX5_fromTheEnd ∈ gt := gt_m (tb_3 (List.mem_of_getElem? (i := 23) (by decide +kernel))) (by decide +kernel)
set_option maxRecDepth 20000 in
theorem kw_205 : Cond.instanceMethod yX5_fromTheEnd ∈ gt := gt_m (tb_3 (List.mem_of_getElem? (i := 22) (by decide +kernel))) (by decide +kernel)
set_option maxRecDepth 20000 in
theorem kw_206 : Cond.methodLink RX2 123 yX2_variableBit ∈ gt := gt_m (tb_3 (List.mem_of_getElem? (i := 29) (by decide +kernel))) (by decide +kernel)
set_option maxRecDepth 20000 in
theorem kw_207 : Cond.static yX2_variableBit ∈ gt := gt_m (tb_3 (List.mem_of_getElem? (i := 30) (by decide +kernel))) (by decide +kernel)
set_option maxRecDepth 20000 in
theorem kw_208 : Cond.methodLink RX2 120 yX2_usesBehind ∈ gt := gt_m (tb_3 (List.mem_of_getElem? (i := 25) (by decide +kernel))) (by decide +kernel)
set_option maxRecDepth 20000 in
theorem kw_209 : Cond.selects RX2 yX2_usesBehind yX2_usesBehind ∈ gt := gt_m (List.mem_append_left _ (List.mem_of_getElem? (i := 17) (by decide +kernel))) (by decide +kernel)
set_option maxRecDepth 20000 in
theorem kw_210 : Cond.instanceMethod yX2_usesBehind ∈ gt := gt_m (tb_3 (List.mem_of_getElem? (i := 27) (by decide +kernel))) (by decide +kernel)
set_option maxRecDepth 20000 in
theorem kw_211 : Cond.methodLink RX2 114 yJ7_fill_53178 ∈ gt := gt_m (tb_3 (List.mem_of_getElem? (i := 20) (by decide +kernel))) (by decide +kernel)
set_option maxRecDepth 20000 in
theorem kw_212 : Cond.methodLink RX6 202 yX2_flowUses ∈ gt := gt_m (tb_3 (List.mem_of_getElem? (i := 16) (by decide +kernel))) (by decide +kernel)
set_option maxRecDepth 20000 in
theorem kw_213 : Cond.selects RX2 yX2_flowUses yX2_flowUses ∈ gt := gt_m (tb_3 (List.mem_of_getElem? (i := 18) (by decide +kernel))) (by decide +kernel)
set_option maxRecDepth 20000 in
theorem kw_214 : Cond.instanceMethod yX2_flowUses ∈ gt := gt_m (tb_3 (List.mem_of_getElem? (i := 17) (by decide +kernel))) (by decide +kernel)
set_option maxRecDepth 20000 in
theorem kw_215 : Cond.methodLink RX6 107 yX6_knowLoans ∈ gt := gt_m (tb_2 (List.mem_of_getElem? (i := 196) (by decide +kernel))) (by decide +kernel)
set_option maxRecDepth 20000 in
theorem kw_216 : Cond.selects RX6 yX6_knowLoans yX6_knowLoans ∈ gt := gt_m (List.mem_append_left _ (List.mem_of_getElem? (i := 13) (by decide +kernel))) (by decide +kernel)
set_option maxRecDepth 20000 in
theorem kw_217 : Cond.instanceMethod yX6_knowLoans ∈ gt := gt_m (tb_2 (List.mem_of_getElem? (i := 198) (by decide +kernel))) (by decide +kernel)
set_option maxRecDepth 20000 in
theorem kw_218 : Cond.methodLink RX2 136 yX0_pathAt ∈ gt := gt_m (tb_3 (List.mem_of_getElem? (i := 52) (by decide +kernel))) (by decide +kernel)
set_option maxRecDepth 20000 in
theorem kw_219 : Cond.selects RX0 yX0_pathAt yX0_pathAt ∈ gt := gt_m (tb_3 (List.mem_of_getElem? (i := 54) (by decide +kernel))) (by decide +kernel)
set_option maxRecDepth 20000 in
theorem kw_220 : Cond.instanceMethod yX0_pathAt ∈ gt := gt_m (tb_3 (List.mem_of_getElem? (i := 53) (by decide +kernel))) (by decide +kernel)
set_option maxRecDepth 20000 in
theorem kw_221 : Cond.methodLink RX2 139 yX3_oneBeginsTheOther ∈ gt := gt_m (tb_3 (List.mem_of_getElem? (i := 56) (by decide +kernel))) (by decide +kernel)
set_option maxRecDepth 20000 in
theorem kw_222 : Cond.static yX3_oneBeginsTheOther ∈ gt := gt_m (tb_3 (List.mem_of_getElem? (i := 57) (by decide +kernel))) (by decide +kernel)
set_option maxRecDepth 20000 in
theorem kw_223 : Cond.methodLink RX2 130 yX0_canClash ∈ gt := gt_m (tb_3 (List.mem_of_getElem? (i := 40) (by decide +kernel))) (by decide +kernel)
set_option maxRecDepth 20000 in
theorem kw_224 : Cond.selects RX0 yX0_canClash yX0_canClash ∈ gt := gt_m (tb_3 (List.mem_of_getElem? (i := 42) (by decide +kernel))) (by decide +kernel)
set_option maxRecDepth 20000 in
theorem kw_225 : Cond.instanceMethod yX0_canClash ∈ gt := gt_m (tb_3 (List.mem_of_getElem? (i := 41) (by decide +kernel))) (by decide +kernel)
set_option maxRecDepth 20000 in
theorem kw_226 : Cond.methodLink RX2 126 yX2_inForce ∈ gt := gt_m (tb_3 (List.mem_of_getElem? (i := 44) (by decide +kernel))) (by decide +kernel)
set_option maxRecDepth 20000 in
theorem kw_227 : Cond.selects RX2 yX2_inForce yX2_inForce ∈ gt := gt_m (tb_3 (List.mem_of_getElem? (i := 46) (by decide +kernel))) (by decide +kernel)
set_option maxRecDepth 20000 in
theorem kw_228 : Cond.instanceMethod yX2_inForce ∈ gt := gt_m (tb_3 (List.mem_of_getElem? (i := 45) (by decide +kernel))) (by decide +kernel)
set_option maxRecDepth 20000 in
theorem kw_229 : Cond.methodLink RX2 133 yX0_onlyLooks ∈ gt := gt_m (tb_3 (List.mem_of_getElem? (i := 48) (by decide +kernel))) (by decide +kernel)
set_option maxRecDepth 20000 in
theorem kw_230 : Cond.selects RX0 yX0_onlyLooks yX0_onlyLooks ∈ gt := gt_m (tb_3 (List.mem_of_getElem? (i := 50) (by decide +kernel))) (by decide +kernel)
set_option maxRecDepth 20000 in
theorem kw_231 : Cond.instanceMethod yX0_onlyLooks ∈ gt := gt_m (tb_3 (List.mem_of_getElem? (i := 49) (by decide +kernel))) (by decide +kernel)
set_option maxRecDepth 20000 in
theorem kw_232 : Cond.methodLink RX6 116 yX2_leastClash ∈ gt := gt_m (tb_3 (List.mem_of_getElem? (i := 36) (by decide +kernel))) (by decide +kernel)
set_option maxRecDepth 20000 in
theorem kw_233 : Cond.selects RX2 yX2_leastClash yX2_leastClash ∈ gt := gt_m (tb_3 (List.mem_of_getElem? (i := 38) (by decide +kernel))) (by decide +kernel)
set_option maxRecDepth 20000 in
theorem kw_234 : Cond.instanceMethod yX2_leastClash ∈ gt := gt_m (tb_3 (List.mem_of_getElem? (i := 37) (by decide +kernel))) (by decide +kernel)
set_option maxRecDepth 20000 in
theorem kw_235 : Cond.methodLink RX6 110 yX6_leastClashing ∈ gt := gt_m (tb_3 (List.mem_of_getElem? (i := 32) (by decide +kernel))) (by decide +kernel)
set_option maxRecDepth 20000 in
theorem kw_236 : Cond.selects RX6 yX6_leastClashing yX6_leastClashing ∈ gt := gt_m (List.mem_append_left _ (List.mem_of_getElem? (i := 18) (by decide +kernel))) (by decide +kernel)
set_option maxRecDepth 20000 in
theorem kw_237 : Cond.instanceMethod yX6_leastClashing ∈ gt := gt_m (tb_3 (List.mem_of_getElem? (i := 34) (by decide +kernel))) (by decide +kernel)
set_option maxRecDepth 20000 in
theorem kw_238 : Cond.methodLink RX1 82 yX1_leadsOn ∈ gt := gt_m (tb_3 (List.mem_of_getElem? (i := 74) (by decide +kernel))) (by decide +kernel)
set_option maxRecDepth 20000 in
theorem kw_239 : Cond.selects RX1 yX1_leadsOn yX1_leadsOn ∈ gt := gt_m (List.mem_append_left _ (List.mem_of_getElem? (i := 20) (by decide +kernel))) (by decide +kernel)
set_option maxRecDepth 20000 in
theorem kw_240 : Cond.instanceMethod yX1_leadsOn ∈ gt := gt_m (tb_3 (List.mem_of_getElem? (i := 76) (by decide +kernel))) (by decide +kernel)
set_option maxRecDepth 20000 in
theorem kw_241 : Cond.methodLink RX1 75 yX1_missing ∈ gt := gt_m (tb_3 (List.mem_of_getElem? (i := 67) (by decide +kernel))) (by decide +kernel)
set_option maxRecDepth 20000 in
theorem kw_242 : Cond.methodLink RX1 88 yX5_fromTheEnd ∈ gt := gt_m (tb_3 (List.mem_of_getElem? (i := 73) (by decide +kernel))) (by decide +kernel)
set_option maxRecDepth 20000 in
theorem kw_243 : Cond.methodLink RX1 85 yJ7_fill_53178 ∈ gt := gt_m (tb_3 (List.mem_of_getElem? (i := 72) (by decide +kernel))) (by decide +kernel)
set_option maxRecDepth 20000 in
theorem kw_244 : Cond.methodLink RX1 78 yX1_findLeading ∈ gt := gt_m (tb_3 (List.mem_of_getElem? (i := 68) (by decide +kernel))) (by decide +kernel)
set_option maxRecDepth 20000 in
theorem kw_245 : Cond.selects RX1 yX1_findLeading yX1_findLeading ∈ gt := gt_m (List.mem_append_left _ (List.mem_of_getElem? (i := 19) (by decide +kernel))) (by decide +kernel)
set_option maxRecDepth 20000 in
theorem kw_246 : Cond.instanceMethod yX1_findLeading ∈ gt := gt_m (tb_3 (List.mem_of_getElem? (i := 70) (by decide +kernel))) (by decide +kernel)
set_option maxRecDepth 20000 in
theorem kw_247 : Cond.methodLink RX6 113 yX1_leastTaker ∈ gt := gt_m (tb_3 (List.mem_of_getElem? (i := 63) (by decide +kernel))) (by decide +kernel)
set_option maxRecDepth 20000 in
theorem kw_248 : Cond.selects RX1 yX1_leastTaker yX1_leastTaker ∈ gt := gt_m (tb_3 (List.mem_of_getElem? (i := 65) (by decide +kernel))) (by decide +kernel)
set_option maxRecDepth 20000 in
theorem kw_249 : Cond.instanceMethod yX1_leastTaker ∈ gt := gt_m (tb_3 (List.mem_of_getElem? (i := 64) (by decide +kernel))) (by decide +kernel)
set_option maxRecDepth 20000 in
theorem kw_250 : Cond.methodLink RX6 122 yX5_comeTo ∈ gt := gt_m (tb_3 (List.mem_of_getElem? (i := 82) (by decide +kernel))) (by decide +kernel)
set_option maxRecDepth 20000 in
theorem kw_251 : Cond.methodLink RX6 125 yX6_answer ∈ gt := gt_m (tb_3 (List.mem_of_getElem? (i := 83) (by decide +kernel))) (by decide +kernel)
set_option maxRecDepth 20000 in
theorem kw_252 : Cond.methodLink RX6 129 yX4_hasLeaf ∈ gt := gt_m (tb_3 (List.mem_of_getElem? (i := 88) (by decide +kernel))) (by decide +kernel)
set_option maxRecDepth 20000 in
theorem kw_253 : Cond.selects RX4 yX4_hasLeaf yX4_hasLeaf ∈ gt := gt_m (tb_3 (List.mem_of_getElem? (i := 90) (by decide +kernel))) (by decide +kernel)
set_option maxRecDepth 20000 in
theorem kw_254 : Cond.instanceMethod yX4_hasLeaf ∈ gt := gt_m (tb_3 (List.mem_of_getElem? (i := 89) (by decide +kernel))) (by decide +kernel)
set_option maxRecDepth 20000 in
theorem kw_255 : Cond.methodLink RX6 132 yX6_leafBit ∈ gt := gt_m (tb_3 (List.mem_of_getElem? (i := 92) (by decide +kernel))) (by decide +kernel)
set_option maxRecDepth 20000 in
theorem kw_256 : Cond.methodLink RX6 136 yX1_state ∈ gt := gt_m (tb_3 (List.mem_of_getElem? (i := 93) (by decide +kernel))) (by decide +kernel)
set_option maxRecDepth 20000 in
theorem kw_257 : Cond.selects RX1 yX1_state yX1_state ∈ gt := gt_m (tb_3 (List.mem_of_getElem? (i := 95) (by decide +kernel))) (by decide +kernel)
set_option maxRecDepth 20000 in
theorem kw_258 : Cond.instanceMethod yX1_state ∈ gt := gt_m (tb_3 (List.mem_of_getElem? (i := 94) (by decide +kernel))) (by decide +kernel)
set_option maxRecDepth 20000 in
theorem kw_259 : Cond.methodLink RX6 140 yX4_isReference ∈ gt := gt_m (tb_3 (List.mem_of_getElem? (i := 101) (by decide +kernel))) (by decide +kernel)
set_option maxRecDepth 20000 in
theorem kw_260 : Cond.methodLink RX6 169 yX0_makesLoan ∈ gt := gt_m (tb_3 (List.mem_of_getElem? (i := 106) (by decide +kernel))) (by decide +kernel)
set_option maxRecDepth 20000 in
theorem kw_261 : Cond.methodLink RX6 143 yX6_isLoan ∈ gt := gt_m (tb_3 (List.mem_of_getElem? (i := 102) (by decide +kernel))) (by decide +kernel)
set_option maxRecDepth 20000 in
theorem kw_262 : Cond.selects RX6 yX6_isLoan yX6_isLoan ∈ gt := gt_m (List.mem_append_left _ (List.mem_of_getElem? (i := 21) (by decide +kernel))) (by decide +kernel)
set_option maxRecDepth 20000 in
theorem kw_263 : Cond.instanceMethod yX6_isLoan ∈ gt := gt_m (tb_3 (List.mem_of_getElem? (i := 104) (by decide +kernel))) (by decide +kernel)
set_option maxRecDepth 20000 in
theorem kw_264 : Cond.methodLink RX6 146 yX2_isHeldBy ∈ gt := gt_m (tb_3 (List.mem_of_getElem? (i := 107) (by decide +kernel))) (by decide +kernel)
set_option maxRecDepth 20000 in
theorem kw_265 : Cond.selects RX2 yX2_isHeldBy yX2_isHeldBy ∈ gt := gt_m (tb_3 (List.mem_of_getElem? (i := 109) (by decide +kernel))) (by decide +kernel)
set_option maxRecDepth 20000 in
theorem kw_266 : Cond.instanceMethod yX2_isHeldBy ∈ gt := gt_m (tb_3 (List.mem_of_getElem? (i := 108) (by decide +kernel))) (by decide +kernel)
set_option maxRecDepth 20000 in
theorem kw_267 : Cond.methodLink RX6 149 yX2_isUsedBehind ∈ gt := gt_m (tb_3 (List.mem_of_getElem? (i := 115) (by decide +kernel))) (by decide +kernel)
set_option maxRecDepth 20000 in
theorem kw_268 : Cond.selects RX2 yX2_isUsedBehind yX2_isUsedBehind ∈ gt := gt_m (tb_3 (List.mem_of_getElem? (i := 117) (by decide +kernel))) (by decide +kernel)
set_option maxRecDepth 20000 in
theorem kw_269 : Cond.instanceMethod yX2_isUsedBehind ∈ gt := gt_m (tb_3 (List.mem_of_getElem? (i := 116) (by decide +kernel))) (by decide +kernel)
set_option maxRecDepth 20000 in
theorem kw_270 : Cond.methodLink RX6 152 yX2_isInForce ∈ gt := gt_m (tb_3 (List.mem_of_getElem? (i := 123) (by decide +kernel))) (by decide +kernel)
set_option maxRecDepth 20000 in
theorem kw_271 : Cond.selects RX2 yX2_isInForce yX2_isInForce ∈ gt := gt_m (tb_3 (List.mem_of_getElem? (i := 125) (by decide +kernel))) (by decide +kernel)
set_option maxRecDepth 20000 in
theorem kw_272 : Cond.instanceMethod yX2_isInForce ∈ gt := gt_m (tb_3 (List.mem_of_getElem? (i := 124) (by decide +kernel))) (by decide +kernel)
set_option maxRecDepth 20000 in
theorem kw_273 : Cond.methodLink RX6 155 yX4_size ∈ gt := gt_m (tb_3 (List.mem_of_getElem? (i := 131) (by decide +kernel))) (by decide +kernel)
set_option maxRecDepth 20000 in
theorem kw_274 : Cond.methodLink RX6 158 yX2_size ∈ gt := gt_m (tb_3 (List.mem_of_getElem? (i := 132) (by decide +kernel))) (by decide +kernel)
set_option maxRecDepth 20000 in
theorem kw_275 : Cond.selects RX2 yX2_size yX2_size ∈ gt := gt_m (tb_3 (List.mem_of_getElem? (i := 134) (by decide +kernel))) (by decide +kernel)
set_option maxRecDepth 20000 in
theorem kw_276 : Cond.instanceMethod yX2_size ∈ gt := gt_m (tb_3 (List.mem_of_getElem? (i := 133) (by decide +kernel))) (by decide +kernel)
set_option maxRecDepth 20000 in
theorem kw_277 : Cond.methodLink RX6 159 yX5_size ∈ gt := gt_m (tb_3 (List.mem_of_getElem? (i := 136) (by decide +kernel))) (by decide +kernel)
set_option maxRecDepth 20000 in
theorem kw_278 : Cond.methodLink RX6 209 yX2_inForce ∈ gt := gt_m (tb_3 (List.mem_of_getElem? (i := 141) (by decide +kernel))) (by decide +kernel)
set_option maxRecDepth 20000 in
theorem kw_279 : Cond.constantLong RJ13 314 (6148914691236517205) ∈ gt := gt_m (tb_3 (List.mem_of_getElem? (i := 145) (by decide +kernel))) (by decide +kernel)
set_option maxRecDepth 20000 in
theorem kw_280 : Cond.constantLong RJ13 316 (3689348814741910323) ∈ gt := gt_m (tb_3 (List.mem_of_getElem? (i := 146) (by decide +kernel))) (by decide +kernel)
set_option maxRecDepth 20000 in
theorem kw_281 : Cond.constantLong RJ13 318 (1085102592571150095) ∈ gt := gt_m (tb_3 (List.mem_of_getElem? (i := 147) (by decide +kernel))) (by decide +kernel)
set_option maxRecDepth 20000 in
theorem kw_282 : Cond.methodLink RX6 212 yJ13_bitCount_95d88 ∈ gt := gt_m (tb_3 (List.mem_of_getElem? (i := 142) (by decide +kernel))) (by decide +kernel)
set_option maxRecDepth 20000 in
theorem kw_283 : Cond.static yJ13_bitCount_95d88 ∈ gt := gt_m (tb_3 (List.mem_of_getElem? (i := 143) (by decide +kernel))) (by decide +kernel)
set_option maxRecDepth 20000 in
theorem kw_284 : Cond.methodLink RX6 160 yX6_countInForce ∈ gt := gt_m (tb_3 (List.mem_of_getElem? (i := 137) (by decide +kernel))) (by decide +kernel)
set_option maxRecDepth 20000 in
theorem kw_285 : Cond.selects RX6 yX6_countInForce yX6_countInForce ∈ gt := gt_m (List.mem_append_left _ (List.mem_of_getElem? (i := 22) (by decide +kernel))) (by decide +kernel)
set_option maxRecDepth 20000 in
theorem kw_286 : Cond.instanceMethod yX6_countInForce ∈ gt := gt_m (tb_3 (List.mem_of_getElem? (i := 139) (by decide +kernel))) (by decide +kernel)
set_option maxRecDepth 20000 in
theorem kw_287 : Cond.methodLink RX6 163 yX6_countUnheld ∈ gt := gt_m (tb_3 (List.mem_of_getElem? (i := 148) (by decide +kernel))) (by decide +kernel)
set_option maxRecDepth 20000 in
theorem kw_288 : Cond.selects RX6 yX6_countUnheld yX6_countUnheld ∈ gt := gt_m (List.mem_append_left _ (List.mem_of_getElem? (i := 23) (by decide +kernel))) (by decide +kernel)
set_option maxRecDepth 20000 in
theorem kw_289 : Cond.instanceMethod yX6_countUnheld ∈ gt := gt_m (tb_3 (List.mem_of_getElem? (i := 150) (by decide +kernel))) (by decide +kernel)
set_option maxRecDepth 20000 in
theorem kw_290 : Cond.methodLink RX6 166 yX6_countClashing ∈ gt := gt_m (tb_3 (List.mem_of_getElem? (i := 152) (by decide +kernel))) (by decide +kernel)
set_option maxRecDepth 20000 in
theorem kw_291 : Cond.selects RX6 yX6_countClashing yX6_countClashing ∈ gt := gt_m (List.mem_append_left _ (List.mem_of_getElem? (i := 24) (by decide +kernel))) (by decide +kernel)
set_option maxRecDepth 20000 in
theorem kw_292 : Cond.instanceMethod yX6_countClashing ∈ gt := gt_m (tb_3 (List.mem_of_getElem? (i := 154) (by decide +kernel))) (by decide +kernel)
set_option maxRecDepth 20000 in
theorem kw_293 : Cond.methodLink RX7 71 yX7_in ∈ gt := gt_m (tb_4 (List.mem_of_getElem? (i := 4) (by decide +kernel))) (by decide +kernel)
set_option maxRecDepth 20000 in
theorem kw_294 : Cond.static yX7_in ∈ gt := gt_m (tb_4 (List.mem_of_getElem? (i := 5) (by decide +kernel))) (by decide +kernel)
set_option maxRecDepth 20000 in
theorem kw_295 : Cond.methodLink RX7 75 yX7_isVariable ∈ gt := gt_m (tb_4 (List.mem_of_getElem? (i := 11) (by decide +kernel))) (by decide +kernel)
set_option maxRecDepth 20000 in
theorem kw_296 : Cond.selects RX7 yX7_isVariable yX7_isVariable ∈ gt := gt_m (List.mem_append_left _ (List.mem_of_getElem? (i := 25) (by decide +kernel))) (by decide +kernel)
set_option maxRecDepth 20000 in
theorem kw_297 : Cond.instanceMethod yX7_isVariable ∈ gt := gt_m (tb_4 (List.mem_of_getElem? (i := 13) (by decide +kernel))) (by decide +kernel)
set_option maxRecDepth 20000 in
theorem kw_298 : Cond.methodLink RX7 85 yX7_become ∈ gt := gt_m (tb_4 (List.mem_of_getElem? (i := 22) (by decide +kernel))) (by decide +kernel)
set_option maxRecDepth 20000 in
theorem kw_299 : Cond.selects RX7 yX7_become yX7_become ∈ gt := gt_m (List.mem_append_left _ (List.mem_of_getElem? (i := 26) (by decide +kernel))) (by decide +kernel)
set_option maxRecDepth 20000 in
theorem kw_300 : Cond.instanceMethod yX7_become ∈ gt := gt_m (tb_4 (List.mem_of_getElem? (i := 24) (by decide +kernel))) (by decide +kernel)
set_option maxRecDepth 20000 in
theorem kw_301 : Cond.methodLink RX7 82 yX7_isPoint ∈ gt := gt_m (tb_4 (List.mem_of_getElem? (i := 19) (by decide +kernel))) (by decide +kernel)
set_option maxRecDepth 20000 in
theorem kw_302 : Cond.static yX7_isPoint ∈ gt := gt_m (tb_4 (List.mem_of_getElem? (i := 20) (by decide +kernel))) (by decide +kernel)
set_option maxRecDepth 20000 in
theorem kw_303 : Cond.methodLink RX7 79 yX7_isPath ∈ gt := gt_m (tb_4 (List.mem_of_getElem? (i := 30) (by decide +kernel))) (by decide +kernel)
set_option maxRecDepth 20000 in
theorem kw_304 : Cond.static yX7_isPath ∈ gt := gt_m (tb_4 (List.mem_of_getElem? (i := 31) (by decide +kernel))) (by decide +kernel)
set_option maxRecDepth 20000 in
theorem kw_305 : Cond.methodLink RX7 89 yX7_isPlace ∈ gt := gt_m (tb_4 (List.mem_of_getElem? (i := 26) (by decide +kernel))) (by decide +kernel)
set_option maxRecDepth 20000 in
theorem kw_306 : Cond.selects RX7 yX7_isPlace yX7_isPlace ∈ gt := gt_m (List.mem_append_left _ (List.mem_of_getElem? (i := 27) (by decide +kernel))) (by decide +kernel)
set_option maxRecDepth 20000 in
theorem kw_307 : Cond.instanceMethod yX7_isPlace ∈ gt := gt_m (tb_4 (List.mem_of_getElem? (i := 28) (by decide +kernel))) (by decide +kernel)
set_option maxRecDepth 20000 in
theorem kw_308 : Cond.methodLink RX7 93 yX7_isWithin ∈ gt := gt_m (tb_4 (List.mem_of_getElem? (i := 33) (by decide +kernel))) (by decide +kernel)
set_option maxRecDepth 20000 in
theorem kw_309 : Cond.selects RX7 yX7_isWithin yX7_isWithin ∈ gt := gt_m (List.mem_append_left _ (List.mem_of_getElem? (i := 28) (by decide +kernel))) (by decide +kernel)
set_option maxRecDepth 20000 in
theorem kw_310 : Cond.instanceMethod yX7_isWithin ∈ gt := gt_m (tb_4 (List.mem_of_getElem? (i := 35) (by decide +kernel))) (by decide +kernel)
set_option maxRecDepth 20000 in
theorem kw_311 : Cond.methodLink RX7 96 yX7_isReference ∈ gt := gt_m (tb_4 (List.mem_of_getElem? (i := 41) (by decide +kernel))) (by decide +kernel)
set_option maxRecDepth 20000 in
theorem kw_312 : Cond.selects RX7 yX7_isReference yX7_isReference ∈ gt := gt_m (List.mem_append_left _ (List.mem_of_getElem? (i := 29) (by decide +kernel))) (by decide +kernel)
set_option maxRecDepth 20000 in
theorem kw_313 : Cond.instanceMethod yX7_isReference ∈ gt := gt_m (tb_4 (List.mem_of_getElem? (i := 43) (by decide +kernel))) (by decide +kernel)
set_option maxRecDepth 20000 in
theorem kw_314 : Cond.methodLink RX7 102 yX7_isThrough ∈ gt := gt_m (tb_4 (List.mem_of_getElem? (i := 93) (by decide +kernel))) (by decide +kernel)
set_option maxRecDepth 20000 in
theorem kw_315 : Cond.selects RX7 yX7_isThrough yX7_isThrough ∈ gt := gt_m (List.mem_append_left _ (List.mem_of_getElem? (i := 39) (by decide +kernel))) (by decide +kernel)
set_option maxRecDepth 20000 in
theorem kw_316 : Cond.instanceMethod yX7_isThrough ∈ gt := gt_m (tb_4 (List.mem_of_getElem? (i := 95) (by decide +kernel))) (by decide +kernel)
set_option maxRecDepth 20000 in
theorem kw_317 : Cond.methodLink RX7 132 yX7_uses ∈ gt := gt_m (tb_4 (List.mem_of_getElem? (i := 89) (by decide +kernel))) (by decide +kernel)
set_option maxRecDepth 20000 in
theorem kw_318 : Cond.selects RX7 yX7_uses yX7_uses ∈ gt := gt_m (List.mem_append_left _ (List.mem_of_getElem? (i := 38) (by decide +kernel))) (by decide +kernel)
set_option maxRecDepth 20000 in
theorem kw_319 : Cond.instanceMethod yX7_uses ∈ gt := gt_m (tb_4 (List.mem_of_getElem? (i := 91) (by decide +kernel))) (by decide +kernel)
set_option maxRecDepth 20000 in
theorem kw_320 : Cond.methodLink RX7 135 yX7_renews ∈ gt := gt_m (tb_4 (List.mem_of_getElem? (i := 97) (by decide +kernel))) (by decide +kernel)
set_option maxRecDepth 20000 in
theorem kw_321 : Cond.selects RX7 yX7_renews yX7_renews ∈ gt := gt_m (List.mem_append_left _ (List.mem_of_getElem? (i := 40) (by decide +kernel))) (by decide +kernel)
set_option maxRecDepth 20000 in
theorem kw_322 : Cond.instanceMethod yX7_renews ∈ gt := gt_m (tb_4 (List.mem_of_getElem? (i := 99) (by decide +kernel))) (by decide +kernel)
set_option maxRecDepth 20000 in
theorem kw_323 : Cond.methodLink RX7 151 yX7_walkUses ∈ gt := gt_m (tb_4 (List.mem_of_getElem? (i := 85) (by decide +kernel))) (by decide +kernel)
set_option maxRecDepth 20000 in
theorem kw_324 : Cond.selects RX7 yX7_walkUses yX7_walkUses ∈ gt := gt_m (List.mem_append_left _ (List.mem_of_getElem? (i := 37) (by decide +kernel))) (by decide +kernel)
set_option maxRecDepth 20000 in
theorem kw_325 : Cond.instanceMethod yX7_walkUses ∈ gt := gt_m (tb_4 (List.mem_of_getElem? (i := 87) (by decide +kernel))) (by decide +kernel)
set_option maxRecDepth 20000 in
theorem kw_326 : Cond.methodLink RX7 108 yX7_come ∈ gt := gt_m (tb_4 (List.mem_of_getElem? (i := 65) (by decide +kernel))) (by decide +kernel)
set_option maxRecDepth 20000 in
theorem kw_327 : Cond.selects RX7 yX7_come yX7_come ∈ gt := gt_m (List.mem_append_left _ (List.mem_of_getElem? (i := 32) (by decide +kernel))) (by decide +kernel)
set_option maxRecDepth 20000 in
theorem kw_328 : Cond.instanceMethod yX7_come ∈ gt := gt_m (tb_4 (List.mem_of_getElem? (i := 67) (by decide +kernel))) (by decide +kernel)
set_option maxRecDepth 20000 in
theorem kw_329 : Cond.methodLink RX7 99 yX7_isLeafOf ∈ gt := gt_m (tb_4 (List.mem_of_getElem? (i := 77) (by decide +kernel))) (by decide +kernel)
set_option maxRecDepth 20000 in
theorem kw_330 : Cond.selects RX7 yX7_isLeafOf yX7_isLeafOf ∈ gt := gt_m (List.mem_append_left _ (List.mem_of_getElem? (i := 35) (by decide +kernel))) (by decide +kernel)
set_option maxRecDepth 20000 in
theorem kw_331 : Cond.instanceMethod yX7_isLeafOf ∈ gt := gt_m (tb_4 (List.mem_of_getElem? (i := 79) (by decide +kernel))) (by decide +kernel)
set_option maxRecDepth 20000 in
theorem kw_332 : Cond.methodLink RX7 111 yX7_gives ∈ gt := gt_m (tb_4 (List.mem_of_getElem? (i := 73) (by decide +kernel))) (by decide +kernel)
set_option maxRecDepth 20000 in
theorem kw_333 : Cond.selects RX7 yX7_gives yX7_gives ∈ gt := gt_m (List.mem_append_left _ (List.mem_of_getElem? (i := 34) (by decide +kernel))) (by decide +kernel)
set_option maxRecDepth 20000 in
theorem kw_334 : Cond.instanceMethod yX7_gives ∈ gt := gt_m (tb_4 (List.mem_of_getElem? (i := 75) (by decide +kernel))) (by decide +kernel)
set_option maxRecDepth 20000 in
theorem kw_335 : Cond.methodLink RX7 114 yX7_takes ∈ gt := gt_m (tb_4 (List.mem_of_getElem? (i := 81) (by decide +kernel))) (by decide +kernel)
set_option maxRecDepth 20000 in
theorem kw_336 : Cond.selects RX7 yX7_takes yX7_takes ∈ gt := gt_m (List.mem_append_left _ (List.mem_of_getElem? (i := 36) (by decide +kernel))) (by decide +kernel)
set_option maxRecDepth 20000 in
theorem kw_337 : Cond.instanceMethod yX7_takes ∈ gt := gt_m (tb_4 (List.mem_of_getElem? (i := 83) (by decide +kernel))) (by decide +kernel)
set_option maxRecDepth 20000 in
theorem kw_338 : Cond.methodLink RX7 147 yX7_walkLeaf ∈ gt := gt_m (tb_4 (List.mem_of_getElem? (i := 69) (by decide +kernel))) (by decide +kernel)
set_option maxRecDepth 20000 in
theorem kw_339 : Cond.selects RX7 yX7_walkLeaf yX7_walkLeaf ∈ gt := gt_m (List.mem_append_left _ (List.mem_of_getElem? (i := 33) (by decide +kernel))) (by decide +kernel)
set_option maxRecDepth 20000 in
theorem kw_340 : Cond.instanceMethod yX7_walkLeaf ∈ gt := gt_m (tb_4 (List.mem_of_getElem? (i := 71) (by decide +kernel))) (by decide +kernel)
set_option maxRecDepth 20000 in
theorem kw_341 : Cond.methodLink RX7 182 yX7_wants ∈ gt := gt_m (tb_4 (List.mem_of_getElem? (i := 148) (by decide +kernel))) (by decide +kernel)
set_option maxRecDepth 20000 in
theorem kw_342 : Cond.selects RX7 yX7_wants yX7_wants ∈ gt := gt_m (List.mem_append_left _ (List.mem_of_getElem? (i := 52) (by decide +kernel))) (by decide +kernel)
set_option maxRecDepth 20000 in
theorem kw_343 : Cond.instanceMethod yX7_wants ∈ gt := gt_m (tb_4 (List.mem_of_getElem? (i := 150) (by decide +kernel))) (by decide +kernel)
set_option maxRecDepth 20000 in
theorem kw_344 : Cond.methodLink RX7 191 yX7_lackedBy ∈ gt := gt_m (tb_4 (List.mem_of_getElem? (i := 144) (by decide +kernel))) (by decide +kernel)
set_option maxRecDepth 20000 in
theorem kw_345 : Cond.selects RX7 yX7_lackedBy yX7_lackedBy ∈ gt := gt_m (List.mem_append_left _ (List.mem_of_getElem? (i := 51) (by decide +kernel))) (by decide +kernel)
set_option maxRecDepth 20000 in
theorem kw_346 : Cond.instanceMethod yX7_lackedBy ∈ gt := gt_m (tb_4 (List.mem_of_getElem? (i := 146) (by decide +kernel))) (by decide +kernel)
set_option maxRecDepth 20000 in
theorem kw_347 : Cond.methodLink RX7 179 yX7_taker ∈ gt := gt_m (tb_4 (List.mem_of_getElem? (i := 152) (by decide +kernel))) (by decide +kernel)
set_option maxRecDepth 20000 in
theorem kw_348 : Cond.selects RX7 yX7_taker yX7_taker ∈ gt := gt_m (List.mem_append_left _ (List.mem_of_getElem? (i := 53) (by decide +kernel))) (by decide +kernel)
set_option maxRecDepth 20000 in
theorem kw_349 : Cond.instanceMethod yX7_taker ∈ gt := gt_m (tb_4 (List.mem_of_getElem? (i := 154) (by decide +kernel))) (by decide +kernel)
set_option maxRecDepth 20000 in
theorem kw_350 : Cond.methodLink RX7 117 yX7_cell ∈ gt := gt_m (tb_4 (List.mem_of_getElem? (i := 117) (by decide +kernel))) (by decide +kernel)
set_option maxRecDepth 20000 in
theorem kw_351 : Cond.selects RX7 yX7_cell yX7_cell ∈ gt := gt_m (List.mem_append_left _ (List.mem_of_getElem? (i := 45) (by decide +kernel))) (by decide +kernel)
set_option maxRecDepth 20000 in
theorem kw_352 : Cond.instanceMethod yX7_cell ∈ gt := gt_m (tb_4 (List.mem_of_getElem? (i := 119) (by decide +kernel))) (by decide +kernel)
set_option maxRecDepth 20000 in
theorem kw_353 : Cond.methodLink RX7 138 yX7_isUsed ∈ gt := gt_m (tb_4 (List.mem_of_getElem? (i := 133) (by decide +kernel))) (by decide +kernel)
set_option maxRecDepth 20000 in
theorem kw_354 : Cond.selects RX7 yX7_isUsed yX7_isUsed ∈ gt := gt_m (List.mem_append_left _ (List.mem_of_getElem? (i := 49) (by decide +kernel))) (by decide +kernel)
set_option maxRecDepth 20000 in
theorem kw_355 : Cond.instanceMethod yX7_isUsed ∈ gt := gt_m (tb_4 (List.mem_of_getElem? (i := 135) (by decide +kernel))) (by decide +kernel)
set_option maxRecDepth 20000 in
theorem kw_356 : Cond.methodLink RX7 185 yX7_isInForce ∈ gt := gt_m (tb_4 (List.mem_of_getElem? (i := 129) (by decide +kernel))) (by decide +kernel)
set_option maxRecDepth 20000 in
theorem kw_357 : Cond.selects RX7 yX7_isInForce yX7_isInForce ∈ gt := gt_m (List.mem_append_left _ (List.mem_of_getElem? (i := 48) (by decide +kernel))) (by decide +kernel)
set_option maxRecDepth 20000 in
theorem kw_358 : Cond.instanceMethod yX7_isInForce ∈ gt := gt_m (tb_4 (List.mem_of_getElem? (i := 131) (by decide +kernel))) (by decide +kernel)
set_option maxRecDepth 20000 in
theorem kw_359 : Cond.methodLink RX7 141 yX7_begins_ ∈ gt := gt_m (tb_4 (List.mem_of_getElem? (i := 141) (by decide +kernel))) (by decide +kernel)
set_option maxRecDepth 20000 in
theorem kw_360 : Cond.static yX7_begins_ ∈ gt := gt_m (tb_4 (List.mem_of_getElem? (i := 142) (by decide +kernel))) (by decide +kernel)
set_option maxRecDepth 20000 in
theorem kw_361 : Cond.methodLink RX7 188 yX7_clashes ∈ gt := gt_m (tb_4 (List.mem_of_getElem? (i := 137) (by decide +kernel))) (by decide +kernel)
set_option maxRecDepth 20000 in
theorem kw_362 : Cond.selects RX7 yX7_clashes yX7_clashes ∈ gt := gt_m (List.mem_append_left _ (List.mem_of_getElem? (i := 50) (by decide +kernel))) (by decide +kernel)
set_option maxRecDepth 20000 in
theorem kw_363 : Cond.instanceMethod yX7_clashes ∈ gt := gt_m (tb_4 (List.mem_of_getElem? (i := 139) (by decide +kernel))) (by decide +kernel)
set_option maxRecDepth 20000 in
theorem kw_364 : Cond.methodLink RX7 176 yX7_look ∈ gt := gt_m (tb_4 (List.mem_of_getElem? (i := 125) (by decide +kernel))) (by decide +kernel)
set_option maxRecDepth 20000 in
theorem kw_365 : Cond.selects RX7 yX7_look yX7_look ∈ gt := gt_m (List.mem_append_left _ (List.mem_of_getElem? (i := 47) (by decide +kernel))) (by decide +kernel)
set_option maxRecDepth 20000 in
theorem kw_366 : Cond.instanceMethod yX7_look ∈ gt := gt_m (tb_4 (List.mem_of_getElem? (i := 127) (by decide +kernel))) (by decide +kernel)
set_option maxRecDepth 20000 in
theorem kw_367 : Cond.methodLink RX7 155 yX7_makesLoan ∈ gt := gt_m (tb_4 (List.mem_of_getElem? (i := 101) (by decide +kernel))) (by decide +kernel)
set_option maxRecDepth 20000 in
theorem kw_368 : Cond.selects RX7 yX7_makesLoan yX7_makesLoan ∈ gt := gt_m (List.mem_append_left _ (List.mem_of_getElem? (i := 41) (by decide +kernel))) (by decide +kernel)
set_option maxRecDepth 20000 in
theorem kw_369 : Cond.instanceMethod yX7_makesLoan ∈ gt := gt_m (tb_4 (List.mem_of_getElem? (i := 103) (by decide +kernel))) (by decide +kernel)
set_option maxRecDepth 20000 in
theorem kw_370 : Cond.methodLink RX7 124 yX7_spread ∈ gt := gt_m (tb_4 (List.mem_of_getElem? (i := 113) (by decide +kernel))) (by decide +kernel)
set_option maxRecDepth 20000 in
theorem kw_371 : Cond.selects RX7 yX7_spread yX7_spread ∈ gt := gt_m (List.mem_append_left _ (List.mem_of_getElem? (i := 44) (by decide +kernel))) (by decide +kernel)
set_option maxRecDepth 20000 in
theorem kw_372 : Cond.instanceMethod yX7_spread ∈ gt := gt_m (tb_4 (List.mem_of_getElem? (i := 115) (by decide +kernel))) (by decide +kernel)
set_option maxRecDepth 20000 in
theorem kw_373 : Cond.methodLink RX7 128 yX7_renewed ∈ gt := gt_m (tb_4 (List.mem_of_getElem? (i := 121) (by decide +kernel))) (by decide +kernel)
set_option maxRecDepth 20000 in
theorem kw_374 : Cond.selects RX7 yX7_renewed yX7_renewed ∈ gt := gt_m (List.mem_append_left _ (List.mem_of_getElem? (i := 46) (by decide +kernel))) (by decide +kernel)
set_option maxRecDepth 20000 in
theorem kw_375 : Cond.instanceMethod yX7_renewed ∈ gt := gt_m (tb_4 (List.mem_of_getElem? (i := 123) (by decide +kernel))) (by decide +kernel)
set_option maxRecDepth 20000 in
theorem kw_376 : Cond.methodLink RX7 121 yX7_goesThrough ∈ gt := gt_m (tb_4 (List.mem_of_getElem? (i := 109) (by decide +kernel))) (by decide +kernel)
set_option maxRecDepth 20000 in
theorem kw_377 : Cond.selects RX7 yX7_goesThrough yX7_goesThrough ∈ gt := gt_m (List.mem_append_left _ (List.mem_of_getElem? (i := 43) (by decide +kernel))) (by decide +kernel)
set_option maxRecDepth 20000 in
theorem kw_378 : Cond.instanceMethod yX7_goesThrough ∈ gt := gt_m (tb_4 (List.mem_of_getElem? (i := 111) (by decide +kernel))) (by decide +kernel)
set_option maxRecDepth 20000 in
theorem kw_379 : Cond.methodLink RX7 158 yX7_walkLoan ∈ gt := gt_m (tb_4 (List.mem_of_getElem? (i := 105) (by decide +kernel))) (by decide +kernel)
set_option maxRecDepth 20000 in
theorem kw_380 : Cond.selects RX7 yX7_walkLoan yX7_walkLoan ∈ gt := gt_m (List.mem_append_left _ (List.mem_of_getElem? (i := 42) (by decide +kernel))) (by decide +kernel)
set_option maxRecDepth 20000 in
theorem kw_381 : Cond.instanceMethod yX7_walkLoan ∈ gt := gt_m (tb_4 (List.mem_of_getElem? (i := 107) (by decide +kernel))) (by decide +kernel)
set_option maxRecDepth 20000 in
theorem kw_382 : Cond.methodLink RX7 144 yX7_walkWays ∈ gt := gt_m (tb_4 (List.mem_of_getElem? (i := 61) (by decide +kernel))) (by decide +kernel)
set_option maxRecDepth 20000 in
theorem kw_383 : Cond.selects RX7 yX7_walkWays yX7_walkWays ∈ gt := gt_m (List.mem_append_left _ (List.mem_of_getElem? (i := 31) (by decide +kernel))) (by decide +kernel)
set_option maxRecDepth 20000 in
theorem kw_384 : Cond.instanceMethod yX7_walkWays ∈ gt := gt_m (tb_4 (List.mem_of_getElem? (i := 63) (by decide +kernel))) (by decide +kernel)
set_option maxRecDepth 20000 in
theorem kw_385 : Cond.methodLink RX7 194 yX7_workOut ∈ gt := gt_m (tb_4 (List.mem_of_getElem? (i := 57) (by decide +kernel))) (by decide +kernel)
set_option maxRecDepth 20000 in
theorem kw_386 : Cond.selects RX7 yX7_workOut yX7_workOut ∈ gt := gt_m (List.mem_append_left _ (List.mem_of_getElem? (i := 30) (by decide +kernel))) (by decide +kernel)
set_option maxRecDepth 20000 in
theorem kw_387 : Cond.instanceMethod yX7_workOut ∈ gt := gt_m (tb_4 (List.mem_of_getElem? (i := 59) (by decide +kernel))) (by decide +kernel)
set_option maxRecDepth 20000 in
theorem kw_388 : Cond.initialized RJ13 ∈ gt := gt_m (tb_1 (List.mem_of_getElem? (i := 11) (by decide +kernel))) (by decide +kernel)
set_option maxRecDepth 20000 in
theorem kw_389 : Cond.code yJ13_bitCount_95d88 cJ13_bitCount_95d88 2 (some .int) ∈ gt := gt_m (tb_3 (List.mem_of_getElem? (i := 144) rfl)) (by decide +kernel)
set_option maxRecDepth 20000 in
theorem kw_390 : Cond.initialized RJ7 ∈ gt := gt_m (tb_1 (List.mem_of_getElem? (i := 4) (by decide +kernel))) (by decide +kernel)
set_option maxRecDepth 20000 in
theorem kw_391 : Cond.code yJ7_fill_53178 cJ7_fill_53178 4 none ∈ gt := gt_m (tb_1 (List.mem_of_getElem? (i := 48) rfl)) (by decide +kernel)
set_option maxRecDepth 20000 in
theorem kw_392 : Cond.code yJ7_fill_d0a16 cJ7_fill_d0a16 5 none ∈ gt := gt_m (tb_2 (List.mem_of_getElem? (i := 153) rfl)) (by decide +kernel)
set_option maxRecDepth 20000 in
theorem kw_393 : Cond.initialized RX0 ∈ gt := gt_m (tb_1 (List.mem_of_getElem? (i := 3) (by decide +kernel))) (by decide +kernel)
set_option maxRecDepth 20000 in
theorem kw_394 : Cond.code yX0_canClash cX0_canClash 2 (some .boolean) ∈ gt := gt_m (tb_3 (List.mem_of_getElem? (i := 43) rfl)) (by decide +kernel)
set_option maxRecDepth 20000 in
theorem kw_395 : Cond.code yX0_givenAt cX0_givenAt 2 (some .long) ∈ gt := gt_m (tb_2 (List.mem_of_getElem? (i := 174) rfl)) (by decide +kernel)
set_option maxRecDepth 20000 in
theorem kw_396 : Cond.code yX0_init cX0_init 2 none ∈ gt := gt_m (tb_1 (List.mem_of_getElem? (i := 44) rfl)) (by decide +kernel)
set_option maxRecDepth 20000 in
theorem kw_397 : Cond.code yX0_isOnPlace cX0_isOnPlace 1 (some .boolean) ∈ gt := gt_m (tb_2 (List.mem_of_getElem? (i := 55) rfl)) (by decide +kernel)
set_option maxRecDepth 20000 in
theorem kw_398 : Cond.code yX0_leavesGiven cX0_leavesGiven 6 (some .long) ∈ gt := gt_m (tb_2 (List.mem_of_getElem? (i := 40) rfl)) (by decide +kernel)
set_option maxRecDepth 20000 in
theorem kw_399 : Cond.code yX0_leavesTaken cX0_leavesTaken 5 (some .long) ∈ gt := gt_m (tb_2 (List.mem_of_getElem? (i := 44) rfl)) (by decide +kernel)
set_option maxRecDepth 20000 in
theorem kw_400 : Cond.code yX0_leavesWanted cX0_leavesWanted 5 (some .long) ∈ gt := gt_m (tb_2 (List.mem_of_getElem? (i := 28) rfl)) (by decide +kernel)
set_option maxRecDepth 20000 in
theorem kw_401 : Cond.code yX0_lendsBeside cX0_lendsBeside 2 (some .int) ∈ gt := gt_m (tb_2 (List.mem_of_getElem? (i := 21) rfl)) (by decide +kernel)
set_option maxRecDepth 20000 in
theorem kw_402 : Cond.code yX0_makesLoan cX0_makesLoan 2 (some .boolean) ∈ gt := gt_m (tb_2 (List.mem_of_getElem? (i := 208) rfl)) (by decide +kernel)
set_option maxRecDepth 20000 in
theorem kw_403 : Cond.code yX0_makesSoleLoan cX0_makesSoleLoan 2 (some .boolean) ∈ gt := gt_m (tb_2 (List.mem_of_getElem? (i := 217) rfl)) (by decide +kernel)
set_option maxRecDepth 20000 in
theorem kw_404 : Cond.code yX0_onlyLooks cX0_onlyLooks 3 (some .boolean) ∈ gt := gt_m (tb_3 (List.mem_of_getElem? (i := 51) rfl)) (by decide +kernel)
set_option maxRecDepth 20000 in
theorem kw_405 : Cond.code yX0_pathAt cX0_pathAt 2 (some .int) ∈ gt := gt_m (tb_3 (List.mem_of_getElem? (i := 55) rfl)) (by decide +kernel)
set_option maxRecDepth 20000 in
theorem kw_406 : Cond.code yX0_put cX0_put 6 none ∈ gt := gt_m (tb_2 (List.mem_of_getElem? (i := 17) rfl)) (by decide +kernel)
set_option maxRecDepth 20000 in
theorem kw_407 : Cond.code yX0_referenceRenewed cX0_referenceRenewed 4 (some .int) ∈ gt := gt_m (tb_2 (List.mem_of_getElem? (i := 67) rfl)) (by decide +kernel)
set_option maxRecDepth 20000 in
theorem kw_408 : Cond.code yX0_referenceUsed cX0_referenceUsed 5 (some .int) ∈ gt := gt_m (tb_2 (List.mem_of_getElem? (i := 52) rfl)) (by decide +kernel)
set_option maxRecDepth 20000 in
theorem kw_409 : Cond.code yX0_renewedAt cX0_renewedAt 2 (some .int) ∈ gt := gt_m (tb_3 (List.mem_of_getElem? (i := 0) rfl)) (by decide +kernel)
set_option maxRecDepth 20000 in
theorem kw_410 : Cond.code yX0_takenAt cX0_takenAt 2 (some .long) ∈ gt := gt_m (tb_2 (List.mem_of_getElem? (i := 170) rfl)) (by decide +kernel)
set_option maxRecDepth 20000 in
theorem kw_411 : Cond.code yX0_usedAt cX0_usedAt 2 (some .int) ∈ gt := gt_m (tb_3 (List.mem_of_getElem? (i := 4) rfl)) (by decide +kernel)
set_option maxRecDepth 20000 in
theorem kw_412 : Cond.code yX0_variableAt cX0_variableAt 2 (some .int) ∈ gt := gt_m (tb_2 (List.mem_of_getElem? (i := 213) rfl)) (by decide +kernel)
set_option maxRecDepth 20000 in
theorem kw_413 : Cond.code yX0_wantedAt cX0_wantedAt 2 (some .long) ∈ gt := gt_m (tb_2 (List.mem_of_getElem? (i := 195) rfl)) (by decide +kernel)
set_option maxRecDepth 20000 in
theorem kw_414 : Cond.initialized RX1 ∈ gt := gt_m (tb_1 (List.mem_of_getElem? (i := 6) (by decide +kernel))) (by decide +kernel)
set_option maxRecDepth 20000 in
theorem kw_415 : Cond.code yX1_findLeading cX1_findLeading 8 none ∈ gt := gt_m (tb_3 (List.mem_of_getElem? (i := 71) rfl)) (by decide +kernel)
set_option maxRecDepth 20000 in
theorem kw_416 : Cond.code yX1_flow cX1_flow 6 none ∈ gt := gt_m (tb_2 (List.mem_of_getElem? (i := 149) rfl)) (by decide +kernel)
set_option maxRecDepth 20000 in
theorem kw_417 : Cond.code yX1_handOn cX1_handOn 9 (some .boolean) ∈ gt := gt_m (tb_2 (List.mem_of_getElem? (i := 166) rfl)) (by decide +kernel)
set_option maxRecDepth 20000 in
theorem kw_418 : Cond.code yX1_init cX1_init 3 none ∈ gt := gt_m (tb_1 (List.mem_of_getElem? (i := 113) rfl)) (by decide +kernel)
set_option maxRecDepth 20000 in
theorem kw_419 : Cond.code yX1_leadsOn cX1_leadsOn 3 (some .boolean) ∈ gt := gt_m (tb_3 (List.mem_of_getElem? (i := 77) rfl)) (by decide +kernel)
set_option maxRecDepth 20000 in
theorem kw_420 : Cond.code yX1_leastTaker cX1_leastTaker 7 (some .int) ∈ gt := gt_m (tb_3 (List.mem_of_getElem? (i := 66) rfl)) (by decide +kernel)
set_option maxRecDepth 20000 in
theorem kw_421 : Cond.code yX1_missing cX1_missing 2 (some .long) ∈ gt := gt_m (tb_2 (List.mem_of_getElem? (i := 187) rfl)) (by decide +kernel)
set_option maxRecDepth 20000 in
theorem kw_422 : Cond.code yX1_state cX1_state 4 (some .int) ∈ gt := gt_m (tb_3 (List.mem_of_getElem? (i := 96) rfl)) (by decide +kernel)
set_option maxRecDepth 20000 in
theorem kw_423 : Cond.initialized RX2 ∈ gt := gt_m (tb_1 (List.mem_of_getElem? (i := 7) (by decide +kernel))) (by decide +kernel)
set_option maxRecDepth 20000 in
theorem kw_424 : Cond.code yX2_flowHoldings cX2_flowHoldings 4 none ∈ gt := gt_m (tb_2 (List.mem_of_getElem? (i := 222) rfl)) (by decide +kernel)
set_option maxRecDepth 20000 in
theorem kw_425 : Cond.code yX2_flowUses cX2_flowUses 6 none ∈ gt := gt_m (tb_3 (List.mem_of_getElem? (i := 19) rfl)) (by decide +kernel)
set_option maxRecDepth 20000 in
theorem kw_426 : Cond.code yX2_handOn cX2_handOn 4 (some .boolean) ∈ gt := gt_m (tb_2 (List.mem_of_getElem? (i := 229) rfl)) (by decide +kernel)
set_option maxRecDepth 20000 in
theorem kw_427 : Cond.code yX2_inForce cX2_inForce 6 (some .long) ∈ gt := gt_m (tb_3 (List.mem_of_getElem? (i := 47) rfl)) (by decide +kernel)
set_option maxRecDepth 20000 in
theorem kw_428 : Cond.code yX2_init cX2_init 4 none ∈ gt := gt_m (tb_1 (List.mem_of_getElem? (i := 135) rfl)) (by decide +kernel)
set_option maxRecDepth 20000 in
theorem kw_429 : Cond.code yX2_isHeldBy cX2_isHeldBy 4 (some .boolean) ∈ gt := gt_m (tb_3 (List.mem_of_getElem? (i := 110) rfl)) (by decide +kernel)
set_option maxRecDepth 20000 in
theorem kw_430 : Cond.code yX2_isInForce cX2_isInForce 3 (some .boolean) ∈ gt := gt_m (tb_3 (List.mem_of_getElem? (i := 126) rfl)) (by decide +kernel)
set_option maxRecDepth 20000 in
theorem kw_431 : Cond.code yX2_isUsedBehind cX2_isUsedBehind 3 (some .boolean) ∈ gt := gt_m (tb_3 (List.mem_of_getElem? (i := 118) rfl)) (by decide +kernel)
set_option maxRecDepth 20000 in
theorem kw_432 : Cond.code yX2_leastClash cX2_leastClash 6 (some .int) ∈ gt := gt_m (tb_3 (List.mem_of_getElem? (i := 39) rfl)) (by decide +kernel)
set_option maxRecDepth 20000 in
theorem kw_433 : Cond.code yX2_number cX2_number 2 none ∈ gt := gt_m (tb_2 (List.mem_of_getElem? (i := 203) rfl)) (by decide +kernel)
set_option maxRecDepth 20000 in
theorem kw_434 : Cond.code yX2_renew cX2_renew 5 none ∈ gt := gt_m (tb_2 (List.mem_of_getElem? (i := 236) rfl)) (by decide +kernel)
set_option maxRecDepth 20000 in
theorem kw_435 : Cond.code yX2_size cX2_size 1 (some .int) ∈ gt := gt_m (tb_3 (List.mem_of_getElem? (i := 135) rfl)) (by decide +kernel)
set_option maxRecDepth 20000 in
theorem kw_436 : Cond.code yX2_takeOver cX2_takeOver 5 (some .boolean) ∈ gt := gt_m (tb_3 (List.mem_of_getElem? (i := 15) rfl)) (by decide +kernel)
set_option maxRecDepth 20000 in
theorem kw_437 : Cond.code yX2_usesBehind cX2_usesBehind 5 (some .int) ∈ gt := gt_m (tb_3 (List.mem_of_getElem? (i := 28) rfl)) (by decide +kernel)
set_option maxRecDepth 20000 in
theorem kw_438 : Cond.code yX2_variableBit cX2_variableBit 1 (some .int) ∈ gt := gt_m (tb_3 (List.mem_of_getElem? (i := 31) rfl)) (by decide +kernel)
set_option maxRecDepth 20000 in
theorem kw_439 : Cond.initialized RX3 ∈ gt := gt_m (tb_1 (List.mem_of_getElem? (i := 9) (by decide +kernel))) (by decide +kernel)
set_option maxRecDepth 20000 in
theorem kw_440 : Cond.code yX3_behindFirst cX3_behindFirst 1 (some .int) ∈ gt := gt_m (tb_2 (List.mem_of_getElem? (i := 35) rfl)) (by decide +kernel)
set_option maxRecDepth 20000 in
theorem kw_441 : Cond.code yX3_firstDigit cX3_firstDigit 1 (some .int) ∈ gt := gt_m (tb_1 (List.mem_of_getElem? (i := 238) rfl)) (by decide +kernel)
set_option maxRecDepth 20000 in
theorem kw_442 : Cond.code yX3_isPath cX3_isPath 4 (some .boolean) ∈ gt := gt_m (tb_2 (List.mem_of_getElem? (i := 79) rfl)) (by decide +kernel)
set_option maxRecDepth 20000 in
theorem kw_443 : Cond.code yX3_oneBeginsTheOther cX3_oneBeginsTheOther 5 (some .boolean) ∈ gt := gt_m (tb_3 (List.mem_of_getElem? (i := 58) rfl)) (by decide +kernel)
set_option maxRecDepth 20000 in
theorem kw_444 : Cond.initialized RX4 ∈ gt := gt_m (tb_1 (List.mem_of_getElem? (i := 2) (by decide +kernel))) (by decide +kernel)
set_option maxRecDepth 20000 in
theorem kw_445 : Cond.code yX4_add cX4_add 3 (some .int) ∈ gt := gt_m (tb_1 (List.mem_of_getElem? (i := 214) rfl)) (by decide +kernel)
set_option maxRecDepth 20000 in
theorem kw_446 : Cond.code yX4_begin cX4_begin 5 none ∈ gt := gt_m (tb_1 (List.mem_of_getElem? (i := 226) rfl)) (by decide +kernel)
set_option maxRecDepth 20000 in
theorem kw_447 : Cond.code yX4_begun cX4_begun 1 (some .long) ∈ gt := gt_m (tb_2 (List.mem_of_getElem? (i := 145) rfl)) (by decide +kernel)
set_option maxRecDepth 20000 in
theorem kw_448 : Cond.code yX4_goesThrough cX4_goesThrough 3 (some .boolean) ∈ gt := gt_m (tb_2 (List.mem_of_getElem? (i := 59) rfl)) (by decide +kernel)
set_option maxRecDepth 20000 in
theorem kw_449 : Cond.code yX4_has cX4_has 2 (some .boolean) ∈ gt := gt_m (tb_1 (List.mem_of_getElem? (i := 222) rfl)) (by decide +kernel)
set_option maxRecDepth 20000 in
theorem kw_450 : Cond.code yX4_hasLeaf cX4_hasLeaf 3 (some .boolean) ∈ gt := gt_m (tb_3 (List.mem_of_getElem? (i := 91) rfl)) (by decide +kernel)
set_option maxRecDepth 20000 in
theorem kw_451 : Cond.code yX4_hasParts cX4_hasParts 2 (some .boolean) ∈ gt := gt_m (tb_1 (List.mem_of_getElem? (i := 235) rfl)) (by decide +kernel)
set_option maxRecDepth 20000 in
theorem kw_452 : Cond.code yX4_init cX4_init 1 none ∈ gt := gt_m (tb_1 (List.mem_of_getElem? (i := 24) rfl)) (by decide +kernel)
set_option maxRecDepth 20000 in
theorem kw_453 : Cond.code yX4_isFull cX4_isFull 1 (some .boolean) ∈ gt := gt_m (tb_1 (List.mem_of_getElem? (i := 206) rfl)) (by decide +kernel)
set_option maxRecDepth 20000 in
theorem kw_454 : Cond.code yX4_isPlace cX4_isPlace 3 (some .boolean) ∈ gt := gt_m (tb_2 (List.mem_of_getElem? (i := 76) rfl)) (by decide +kernel)
set_option maxRecDepth 20000 in
theorem kw_455 : Cond.code yX4_isReference cX4_isReference 2 (some .boolean) ∈ gt := gt_m (tb_2 (List.mem_of_getElem? (i := 63) rfl)) (by decide +kernel)
set_option maxRecDepth 20000 in
theorem kw_456 : Cond.code yX4_isShared cX4_isShared 2 (some .boolean) ∈ gt := gt_m (tb_2 (List.mem_of_getElem? (i := 95) rfl)) (by decide +kernel)
set_option maxRecDepth 20000 in
theorem kw_457 : Cond.code yX4_isSole cX4_isSole 2 (some .boolean) ∈ gt := gt_m (tb_2 (List.mem_of_getElem? (i := 48) rfl)) (by decide +kernel)
set_option maxRecDepth 20000 in
theorem kw_458 : Cond.code yX4_isWithin cX4_isWithin 3 (some .boolean) ∈ gt := gt_m (tb_2 (List.mem_of_getElem? (i := 32) rfl)) (by decide +kernel)
set_option maxRecDepth 20000 in
theorem kw_459 : Cond.code yX4_leavesOf cX4_leavesOf 5 (some .long) ∈ gt := gt_m (tb_1 (List.mem_of_getElem? (i := 230) rfl)) (by decide +kernel)
set_option maxRecDepth 20000 in
theorem kw_460 : Cond.code yX4_mayAct cX4_mayAct 4 (some .boolean) ∈ gt := gt_m (tb_2 (List.mem_of_getElem? (i := 72) rfl)) (by decide +kernel)
set_option maxRecDepth 20000 in
theorem kw_461 : Cond.code yX4_mayCopy cX4_mayCopy 3 (some .boolean) ∈ gt := gt_m (tb_2 (List.mem_of_getElem? (i := 104) rfl)) (by decide +kernel)
set_option maxRecDepth 20000 in
theorem kw_462 : Cond.code yX4_mayLend cX4_mayLend 4 (some .boolean) ∈ gt := gt_m (tb_2 (List.mem_of_getElem? (i := 91) rfl)) (by decide +kernel)
set_option maxRecDepth 20000 in
theorem kw_463 : Cond.code yX4_size cX4_size 1 (some .int) ∈ gt := gt_m (tb_3 (List.mem_of_getElem? (i := 8) rfl)) (by decide +kernel)
set_option maxRecDepth 20000 in
theorem kw_464 : Cond.initialized RX5 ∈ gt := gt_m (tb_1 (List.mem_of_getElem? (i := 5) (by decide +kernel))) (by decide +kernel)
set_option maxRecDepth 20000 in
theorem kw_465 : Cond.code yX5_add cX5_add 3 (some .boolean) ∈ gt := gt_m (tb_2 (List.mem_of_getElem? (i := 112) rfl)) (by decide +kernel)
set_option maxRecDepth 20000 in
theorem kw_466 : Cond.code yX5_comeTo cX5_comeTo 2 (some .boolean) ∈ gt := gt_m (tb_2 (List.mem_of_getElem? (i := 191) rfl)) (by decide +kernel)
set_option maxRecDepth 20000 in
theorem kw_467 : Cond.code yX5_fromTheBeginning cX5_fromTheBeginning 2 (some .int) ∈ gt := gt_m (tb_2 (List.mem_of_getElem? (i := 162) rfl)) (by decide +kernel)
set_option maxRecDepth 20000 in
theorem kw_468 : Cond.code yX5_fromTheEnd cX5_fromTheEnd 2 (some .int) ∈ gt := gt_m (tb_3 (List.mem_of_getElem? (i := 24) rfl)) (by decide +kernel)
set_option maxRecDepth 20000 in
theorem kw_469 : Cond.code yX5_indexOf cX5_indexOf 4 (some .int) ∈ gt := gt_m (tb_2 (List.mem_of_getElem? (i := 116) rfl)) (by decide +kernel)
set_option maxRecDepth 20000 in
theorem kw_470 : Cond.code yX5_init cX5_init 1 none ∈ gt := gt_m (tb_1 (List.mem_of_getElem? (i := 88) rfl)) (by decide +kernel)
set_option maxRecDepth 20000 in
theorem kw_471 : Cond.code yX5_nextCount cX5_nextCount 2 (some .int) ∈ gt := gt_m (tb_2 (List.mem_of_getElem? (i := 178) rfl)) (by decide +kernel)
set_option maxRecDepth 20000 in
theorem kw_472 : Cond.code yX5_nextOf cX5_nextOf 3 (some .int) ∈ gt := gt_m (tb_2 (List.mem_of_getElem? (i := 120) rfl)) (by decide +kernel)
set_option maxRecDepth 20000 in
theorem kw_473 : Cond.code yX5_remove cX5_remove 4 none ∈ gt := gt_m (tb_2 (List.mem_of_getElem? (i := 124) rfl)) (by decide +kernel)
set_option maxRecDepth 20000 in
theorem kw_474 : Cond.code yX5_size cX5_size 1 (some .int) ∈ gt := gt_m (tb_2 (List.mem_of_getElem? (i := 158) rfl)) (by decide +kernel)
set_option maxRecDepth 20000 in
theorem kw_475 : Cond.code yX5_walk cX5_walk 5 none ∈ gt := gt_m (tb_2 (List.mem_of_getElem? (i := 140) rfl)) (by decide +kernel)
set_option maxRecDepth 20000 in
theorem kw_476 : Cond.initialized RX6 ∈ gt := gt_m (tb_1 (List.mem_of_getElem? (i := 1) (by decide +kernel))) (by decide +kernel)
set_option maxRecDepth 20000 in
theorem kw_477 : Cond.code yX6_act cX6_act 5 (some .int) ∈ gt := gt_m (tb_2 (List.mem_of_getElem? (i := 6) rfl)) (by decide +kernel)
set_option maxRecDepth 20000 in
theorem kw_478 : Cond.code yX6_answer cX6_answer 1 (some .int) ∈ gt := gt_m (tb_2 (List.mem_of_getElem? (i := 24) rfl)) (by decide +kernel)
set_option maxRecDepth 20000 in
theorem kw_479 : Cond.code yX6_begins cX6_begins 3 (some .int) ∈ gt := gt_m (tb_1 (List.mem_of_getElem? (i := 218) rfl)) (by decide +kernel)
set_option maxRecDepth 20000 in
theorem kw_480 : Cond.code yX6_comes cX6_comes 2 (some .int) ∈ gt := gt_m (tb_3 (List.mem_of_getElem? (i := 81) rfl)) (by decide +kernel)
set_option maxRecDepth 20000 in
theorem kw_481 : Cond.code yX6_copy cX6_copy 4 (some .int) ∈ gt := gt_m (tb_2 (List.mem_of_getElem? (i := 100) rfl)) (by decide +kernel)
set_option maxRecDepth 20000 in
theorem kw_482 : Cond.code yX6_count cX6_count 2 (some .int) ∈ gt := gt_m (tb_3 (List.mem_of_getElem? (i := 130) rfl)) (by decide +kernel)
set_option maxRecDepth 20000 in
theorem kw_483 : Cond.code yX6_countClashing cX6_countClashing 3 (some .int) ∈ gt := gt_m (tb_3 (List.mem_of_getElem? (i := 155) rfl)) (by decide +kernel)
set_option maxRecDepth 20000 in
theorem kw_484 : Cond.code yX6_countInForce cX6_countInForce 3 (some .int) ∈ gt := gt_m (tb_3 (List.mem_of_getElem? (i := 140) rfl)) (by decide +kernel)
set_option maxRecDepth 20000 in
theorem kw_485 : Cond.code yX6_countUnheld cX6_countUnheld 3 (some .int) ∈ gt := gt_m (tb_3 (List.mem_of_getElem? (i := 151) rfl)) (by decide +kernel)
set_option maxRecDepth 20000 in
theorem kw_486 : Cond.code yX6_fault cX6_fault 4 (some .int) ∈ gt := gt_m (tb_3 (List.mem_of_getElem? (i := 62) rfl)) (by decide +kernel)
set_option maxRecDepth 20000 in
theorem kw_487 : Cond.code yX6_force cX6_force 3 (some .int) ∈ gt := gt_m (tb_3 (List.mem_of_getElem? (i := 122) rfl)) (by decide +kernel)
set_option maxRecDepth 20000 in
theorem kw_488 : Cond.code yX6_forget cX6_forget 1 none ∈ gt := gt_m (tb_1 (List.mem_of_getElem? (i := 210) rfl)) (by decide +kernel)
set_option maxRecDepth 20000 in
theorem kw_489 : Cond.code yX6_held cX6_held 4 (some .int) ∈ gt := gt_m (tb_3 (List.mem_of_getElem? (i := 87) rfl)) (by decide +kernel)
set_option maxRecDepth 20000 in
theorem kw_490 : Cond.code yX6_holds cX6_holds 4 (some .int) ∈ gt := gt_m (tb_3 (List.mem_of_getElem? (i := 100) rfl)) (by decide +kernel)
set_option maxRecDepth 20000 in
theorem kw_491 : Cond.code yX6_init cX6_init 1 none ∈ gt := gt_m (tb_1 (List.mem_of_getElem? (i := 16) rfl)) (by decide +kernel)
set_option maxRecDepth 20000 in
theorem kw_492 : Cond.code yX6_isLoan cX6_isLoan 2 (some .boolean) ∈ gt := gt_m (tb_3 (List.mem_of_getElem? (i := 105) rfl)) (by decide +kernel)
set_option maxRecDepth 20000 in
theorem kw_493 : Cond.code yX6_isPoint cX6_isPoint 1 (some .boolean) ∈ gt := gt_m (tb_2 (List.mem_of_getElem? (i := 9) rfl)) (by decide +kernel)
set_option maxRecDepth 20000 in
theorem kw_494 : Cond.code yX6_isSort cX6_isSort 2 (some .boolean) ∈ gt := gt_m (tb_1 (List.mem_of_getElem? (i := 202) rfl)) (by decide +kernel)
set_option maxRecDepth 20000 in
theorem kw_495 : Cond.code yX6_judge cX6_judge 1 (some .int) ∈ gt := gt_m (tb_2 (List.mem_of_getElem? (i := 128) rfl)) (by decide +kernel)
set_option maxRecDepth 20000 in
theorem kw_496 : Cond.code yX6_knowLeaves cX6_knowLeaves 1 none ∈ gt := gt_m (tb_2 (List.mem_of_getElem? (i := 132) rfl)) (by decide +kernel)
set_option maxRecDepth 20000 in
theorem kw_497 : Cond.code yX6_knowLoans cX6_knowLoans 1 none ∈ gt := gt_m (tb_2 (List.mem_of_getElem? (i := 199) rfl)) (by decide +kernel)
set_option maxRecDepth 20000 in
theorem kw_498 : Cond.code yX6_knowWays cX6_knowWays 1 none ∈ gt := gt_m (tb_2 (List.mem_of_getElem? (i := 136) rfl)) (by decide +kernel)
set_option maxRecDepth 20000 in
theorem kw_499 : Cond.code yX6_leafBit cX6_leafBit 2 (some .long) ∈ gt := gt_m (tb_2 (List.mem_of_getElem? (i := 1) rfl)) (by decide +kernel)
set_option maxRecDepth 20000 in
theorem kw_500 : Cond.code yX6_leastClashing cX6_leastClashing 2 (some .int) ∈ gt := gt_m (tb_3 (List.mem_of_getElem? (i := 35) rfl)) (by decide +kernel)
set_option maxRecDepth 20000 in
theorem kw_501 : Cond.code yX6_leastUnheld cX6_leastUnheld 2 (some .int) ∈ gt := gt_m (tb_2 (List.mem_of_getElem? (i := 183) rfl)) (by decide +kernel)
set_option maxRecDepth 20000 in
theorem kw_502 : Cond.code yX6_lend cX6_lend 5 (some .int) ∈ gt := gt_m (tb_2 (List.mem_of_getElem? (i := 87) rfl)) (by decide +kernel)
set_option maxRecDepth 20000 in
theorem kw_503 : Cond.code yX6_next cX6_next 4 (some .int) ∈ gt := gt_m (tb_2 (List.mem_of_getElem? (i := 108) rfl)) (by decide +kernel)
set_option maxRecDepth 20000 in
theorem kw_504 : Cond.code yX6_put cX6_put 6 (some .int) ∈ gt := gt_m (tb_2 (List.mem_of_getElem? (i := 13) rfl)) (by decide +kernel)
set_option maxRecDepth 20000 in
theorem kw_505 : Cond.code yX6_used cX6_used 3 (some .int) ∈ gt := gt_m (tb_3 (List.mem_of_getElem? (i := 114) rfl)) (by decide +kernel)
set_option maxRecDepth 20000 in
theorem kw_506 : Cond.code yX6_variable cX6_variable 3 (some .int) ∈ gt := gt_m (tb_1 (List.mem_of_getElem? (i := 199) rfl)) (by decide +kernel)
set_option maxRecDepth 20000 in
theorem kw_507 : Cond.initialized RX7 ∈ gt := gt_m (tb_1 (List.mem_of_getElem? (i := 8) (by decide +kernel))) (by decide +kernel)
set_option maxRecDepth 20000 in
theorem kw_508 : Cond.code yX7_act cX7_act 5 (some .int) ∈ gt := gt_m (tb_4 (List.mem_of_getElem? (i := 18) rfl)) (by decide +kernel)
set_option maxRecDepth 20000 in
theorem kw_509 : Cond.code yX7_become cX7_become 6 none ∈ gt := gt_m (tb_4 (List.mem_of_getElem? (i := 25) rfl)) (by decide +kernel)
set_option maxRecDepth 20000 in
theorem kw_510 : Cond.code yX7_begins cX7_begins 3 (some .int) ∈ gt := gt_m (tb_4 (List.mem_of_getElem? (i := 10) rfl)) (by decide +kernel)
set_option maxRecDepth 20000 in
theorem kw_511 : Cond.code yX7_begins_ cX7_begins_ 4 (some .boolean) ∈ gt := gt_m (tb_4 (List.mem_of_getElem? (i := 143) rfl)) (by decide +kernel)
set_option maxRecDepth 20000 in
theorem kw_512 : Cond.code yX7_cell cX7_cell 4 (some .int) ∈ gt := gt_m (tb_4 (List.mem_of_getElem? (i := 120) rfl)) (by decide +kernel)
set_option maxRecDepth 20000 in
theorem kw_513 : Cond.code yX7_clashes cX7_clashes 6 (some .boolean) ∈ gt := gt_m (tb_4 (List.mem_of_getElem? (i := 140) rfl)) (by decide +kernel)
set_option maxRecDepth 20000 in
theorem kw_514 : Cond.code yX7_come cX7_come 4 none ∈ gt := gt_m (tb_4 (List.mem_of_getElem? (i := 68) rfl)) (by decide +kernel)
set_option maxRecDepth 20000 in
theorem kw_515 : Cond.code yX7_comes cX7_comes 2 (some .int) ∈ gt := gt_m (tb_4 (List.mem_of_getElem? (i := 163) rfl)) (by decide +kernel)
set_option maxRecDepth 20000 in
theorem kw_516 : Cond.code yX7_copy cX7_copy 4 (some .int) ∈ gt := gt_m (tb_4 (List.mem_of_getElem? (i := 48) rfl)) (by decide +kernel)
set_option maxRecDepth 20000 in
theorem kw_517 : Cond.code yX7_count cX7_count 7 (some .int) ∈ gt := gt_m (tb_4 (List.mem_of_getElem? (i := 183) rfl)) (by decide +kernel)
set_option maxRecDepth 20000 in
theorem kw_518 : Cond.code yX7_fault cX7_fault 2 (some .int) ∈ gt := gt_m (tb_4 (List.mem_of_getElem? (i := 159) rfl)) (by decide +kernel)
set_option maxRecDepth 20000 in
theorem kw_519 : Cond.code yX7_force cX7_force 3 (some .int) ∈ gt := gt_m (tb_4 (List.mem_of_getElem? (i := 179) rfl)) (by decide +kernel)
set_option maxRecDepth 20000 in
theorem kw_520 : Cond.code yX7_gives cX7_gives 4 (some .boolean) ∈ gt := gt_m (tb_4 (List.mem_of_getElem? (i := 76) rfl)) (by decide +kernel)
set_option maxRecDepth 20000 in
theorem kw_521 : Cond.code yX7_goesThrough cX7_goesThrough 3 (some .boolean) ∈ gt := gt_m (tb_4 (List.mem_of_getElem? (i := 112) rfl)) (by decide +kernel)
set_option maxRecDepth 20000 in
theorem kw_522 : Cond.code yX7_held cX7_held 5 (some .int) ∈ gt := gt_m (tb_4 (List.mem_of_getElem? (i := 167) rfl)) (by decide +kernel)
set_option maxRecDepth 20000 in
theorem kw_523 : Cond.code yX7_holds cX7_holds 4 (some .int) ∈ gt := gt_m (tb_4 (List.mem_of_getElem? (i := 171) rfl)) (by decide +kernel)
set_option maxRecDepth 20000 in
theorem kw_524 : Cond.code yX7_in cX7_in 3 (some .boolean) ∈ gt := gt_m (tb_4 (List.mem_of_getElem? (i := 6) rfl)) (by decide +kernel)
set_option maxRecDepth 20000 in
theorem kw_525 : Cond.code yX7_init cX7_init 2 none ∈ gt := gt_m (tb_3 (List.mem_of_getElem? (i := 160) rfl)) (by decide +kernel)
set_option maxRecDepth 20000 in
theorem kw_526 : Cond.code yX7_isInForce cX7_isInForce 5 (some .boolean) ∈ gt := gt_m (tb_4 (List.mem_of_getElem? (i := 132) rfl)) (by decide +kernel)
set_option maxRecDepth 20000 in
theorem kw_527 : Cond.code yX7_isLeafOf cX7_isLeafOf 3 (some .boolean) ∈ gt := gt_m (tb_4 (List.mem_of_getElem? (i := 80) rfl)) (by decide +kernel)
set_option maxRecDepth 20000 in
theorem kw_528 : Cond.code yX7_isPath cX7_isPath 3 (some .boolean) ∈ gt := gt_m (tb_4 (List.mem_of_getElem? (i := 32) rfl)) (by decide +kernel)
set_option maxRecDepth 20000 in
theorem kw_529 : Cond.code yX7_isPlace cX7_isPlace 3 (some .boolean) ∈ gt := gt_m (tb_4 (List.mem_of_getElem? (i := 29) rfl)) (by decide +kernel)
set_option maxRecDepth 20000 in
theorem kw_530 : Cond.code yX7_isPoint cX7_isPoint 1 (some .boolean) ∈ gt := gt_m (tb_4 (List.mem_of_getElem? (i := 21) rfl)) (by decide +kernel)
set_option maxRecDepth 20000 in
theorem kw_531 : Cond.code yX7_isReference cX7_isReference 2 (some .boolean) ∈ gt := gt_m (tb_4 (List.mem_of_getElem? (i := 44) rfl)) (by decide +kernel)
set_option maxRecDepth 20000 in
theorem kw_532 : Cond.code yX7_isThrough cX7_isThrough 3 (some .boolean) ∈ gt := gt_m (tb_4 (List.mem_of_getElem? (i := 96) rfl)) (by decide +kernel)
set_option maxRecDepth 20000 in
theorem kw_533 : Cond.code yX7_isUsed cX7_isUsed 3 (some .boolean) ∈ gt := gt_m (tb_4 (List.mem_of_getElem? (i := 136) rfl)) (by decide +kernel)
set_option maxRecDepth 20000 in
theorem kw_534 : Cond.code yX7_isVariable cX7_isVariable 2 (some .boolean) ∈ gt := gt_m (tb_4 (List.mem_of_getElem? (i := 14) rfl)) (by decide +kernel)
set_option maxRecDepth 20000 in
theorem kw_535 : Cond.code yX7_isWithin cX7_isWithin 3 (some .boolean) ∈ gt := gt_m (tb_4 (List.mem_of_getElem? (i := 36) rfl)) (by decide +kernel)
set_option maxRecDepth 20000 in
theorem kw_536 : Cond.code yX7_judge cX7_judge 1 (some .int) ∈ gt := gt_m (tb_4 (List.mem_of_getElem? (i := 56) rfl)) (by decide +kernel)
set_option maxRecDepth 20000 in
theorem kw_537 : Cond.code yX7_lackedBy cX7_lackedBy 3 (some .int) ∈ gt := gt_m (tb_4 (List.mem_of_getElem? (i := 147) rfl)) (by decide +kernel)
set_option maxRecDepth 20000 in
theorem kw_538 : Cond.code yX7_lend cX7_lend 7 (some .int) ∈ gt := gt_m (tb_4 (List.mem_of_getElem? (i := 40) rfl)) (by decide +kernel)
set_option maxRecDepth 20000 in
theorem kw_539 : Cond.code yX7_look cX7_look 4 none ∈ gt := gt_m (tb_4 (List.mem_of_getElem? (i := 128) rfl)) (by decide +kernel)
set_option maxRecDepth 20000 in
theorem kw_540 : Cond.code yX7_makesLoan cX7_makesLoan 2 (some .boolean) ∈ gt := gt_m (tb_4 (List.mem_of_getElem? (i := 104) rfl)) (by decide +kernel)
set_option maxRecDepth 20000 in
theorem kw_541 : Cond.code yX7_next cX7_next 7 (some .int) ∈ gt := gt_m (tb_4 (List.mem_of_getElem? (i := 52) rfl)) (by decide +kernel)
set_option maxRecDepth 20000 in
theorem kw_542 : Cond.code yX7_renewed cX7_renewed 2 (some .int) ∈ gt := gt_m (tb_4 (List.mem_of_getElem? (i := 124) rfl)) (by decide +kernel)
set_option maxRecDepth 20000 in
theorem kw_543 : Cond.code yX7_renews cX7_renews 3 (some .boolean) ∈ gt := gt_m (tb_4 (List.mem_of_getElem? (i := 100) rfl)) (by decide +kernel)
set_option maxRecDepth 20000 in
theorem kw_544 : Cond.code yX7_spread cX7_spread 7 none ∈ gt := gt_m (tb_4 (List.mem_of_getElem? (i := 116) rfl)) (by decide +kernel)
set_option maxRecDepth 20000 in
theorem kw_545 : Cond.code yX7_taker cX7_taker 7 (some .int) ∈ gt := gt_m (tb_4 (List.mem_of_getElem? (i := 155) rfl)) (by decide +kernel)
set_option maxRecDepth 20000 in
theorem kw_546 : Cond.code yX7_takes cX7_takes 4 (some .boolean) ∈ gt := gt_m (tb_4 (List.mem_of_getElem? (i := 84) rfl)) (by decide +kernel)
set_option maxRecDepth 20000 in
theorem kw_547 : Cond.code yX7_used cX7_used 3 (some .int) ∈ gt := gt_m (tb_4 (List.mem_of_getElem? (i := 175) rfl)) (by decide +kernel)
set_option maxRecDepth 20000 in
theorem kw_548 : Cond.code yX7_uses cX7_uses 3 (some .boolean) ∈ gt := gt_m (tb_4 (List.mem_of_getElem? (i := 92) rfl)) (by decide +kernel)
set_option maxRecDepth 20000 in
theorem kw_549 : Cond.code yX7_variable cX7_variable 3 (some .int) ∈ gt := gt_m (tb_4 (List.mem_of_getElem? (i := 3) rfl)) (by decide +kernel)
set_option maxRecDepth 20000 in
theorem kw_550 : Cond.code yX7_walkLeaf cX7_walkLeaf 8 none ∈ gt := gt_m (tb_4 (List.mem_of_getElem? (i := 72) rfl)) (by decide +kernel)
set_option maxRecDepth 20000 in
theorem kw_551 : Cond.code yX7_walkLoan cX7_walkLoan 8 none ∈ gt := gt_m (tb_4 (List.mem_of_getElem? (i := 108) rfl)) (by decide +kernel)
set_option maxRecDepth 20000 in
theorem kw_552 : Cond.code yX7_walkUses cX7_walkUses 6 none ∈ gt := gt_m (tb_4 (List.mem_of_getElem? (i := 88) rfl)) (by decide +kernel)
set_option maxRecDepth 20000 in
theorem kw_553 : Cond.code yX7_walkWays cX7_walkWays 3 none ∈ gt := gt_m (tb_4 (List.mem_of_getElem? (i := 64) rfl)) (by decide +kernel)
set_option maxRecDepth 20000 in
theorem kw_554 : Cond.code yX7_wants cX7_wants 4 (some .boolean) ∈ gt := gt_m (tb_4 (List.mem_of_getElem? (i := 151) rfl)) (by decide +kernel)
set_option maxRecDepth 20000 in
theorem kw_555 : Cond.code yX7_workOut cX7_workOut 3 none ∈ gt := gt_m (tb_4 (List.mem_of_getElem? (i := 60) rfl)) (by decide +kernel)
set_option maxRecDepth 20000 in
theorem kw_556 : Cond.methodLink RX4 3 objectInit ∈ gt := gt_m (tb_1 (List.mem_of_getElem? (i := 25) (by decide +kernel))) (by decide +kernel)
set_option maxRecDepth 20000 in
theorem kw_557 : Cond.instanceMethod objectInit ∈ gt := gt_m (tb_1 (List.mem_of_getElem? (i := 18) (by decide +kernel))) (by decide +kernel)
set_option maxRecDepth 20000 in
theorem kw_558 : Cond.code objectInit ⟨#[0xb1]⟩ 1 none ∈ gt := gt_m (tb_1 (List.mem_of_getElem? (i := 19) rfl)) (by decide +kernel)
set_option maxRecDepth 20000 in
theorem kw_559 : Cond.fieldLink RX4 9 "LoanWays$Variables" "sorts" "[I" ∈ gt := gt_m (tb_1 (List.mem_of_getElem? (i := 26) (by decide +kernel))) (by decide +kernel)
set_option maxRecDepth 20000 in
theorem kw_560 : Cond.fieldLink RX4 15 "LoanWays$Variables" "leafCounts" "[I" ∈ gt := gt_m (tb_1 (List.mem_of_getElem? (i := 27) (by decide +kernel))) (by decide +kernel)
set_option maxRecDepth 20000 in
theorem kw_561 : Cond.methodLink RX0 3 objectInit ∈ gt := gt_m (tb_1 (List.mem_of_getElem? (i := 45) (by decide +kernel))) (by decide +kernel)
set_option maxRecDepth 20000 in
theorem kw_562 : Cond.fieldLink RX0 9 "LoanWays$Acts" "kinds" "[I" ∈ gt := gt_m (tb_1 (List.mem_of_getElem? (i := 50) (by decide +kernel))) (by decide +kernel)
set_option maxRecDepth 20000 in
theorem kw_563 : Cond.fieldLink RX0 15 "LoanWays$Acts" "places" "[I" ∈ gt := gt_m (tb_1 (List.mem_of_getElem? (i := 51) (by decide +kernel))) (by decide +kernel)
set_option maxRecDepth 20000 in
theorem kw_564 : Cond.fieldLink RX0 18 "LoanWays$Acts" "paths" "[I" ∈ gt := gt_m (tb_1 (List.mem_of_getElem? (i := 52) (by decide +kernel))) (by decide +kernel)
set_option maxRecDepth 20000 in
theorem kw_565 : Cond.fieldLink RX0 21 "LoanWays$Acts" "receivers" "[I" ∈ gt := gt_m (tb_1 (List.mem_of_getElem? (i := 53) (by decide +kernel))) (by decide +kernel)
set_option maxRecDepth 20000 in
theorem kw_566 : Cond.fieldLink RX0 24 "LoanWays$Acts" "wanted" "[J" ∈ gt := gt_m (tb_1 (List.mem_of_getElem? (i := 54) (by decide +kernel))) (by decide +kernel)
set_option maxRecDepth 20000 in
theorem kw_567 : Cond.fieldLink RX0 28 "LoanWays$Acts" "given" "[J" ∈ gt := gt_m (tb_1 (List.mem_of_getElem? (i := 55) (by decide +kernel))) (by decide +kernel)
set_option maxRecDepth 20000 in
theorem kw_568 : Cond.fieldLink RX0 31 "LoanWays$Acts" "taken" "[J" ∈ gt := gt_m (tb_1 (List.mem_of_getElem? (i := 56) (by decide +kernel))) (by decide +kernel)
set_option maxRecDepth 20000 in
theorem kw_569 : Cond.fieldLink RX0 34 "LoanWays$Acts" "usedReferences" "[I" ∈ gt := gt_m (tb_1 (List.mem_of_getElem? (i := 57) (by decide +kernel))) (by decide +kernel)
set_option maxRecDepth 20000 in
theorem kw_570 : Cond.fieldLink RX0 37 "LoanWays$Acts" "renewedReferences" "[I" ∈ gt := gt_m (tb_1 (List.mem_of_getElem? (i := 58) (by decide +kernel))) (by decide +kernel)
set_option maxRecDepth 20000 in
theorem kw_571 : Cond.fieldLink RX0 40 "LoanWays$Acts" "variables" "LLoanWays$Variables;" ∈ gt := gt_m (tb_1 (List.mem_of_getElem? (i := 49) (by decide +kernel))) (by decide +kernel)
set_option maxRecDepth 20000 in
theorem kw_572 : Cond.methodLink RX0 44 yJ7_fill_53178 ∈ gt := gt_m (tb_1 (List.mem_of_getElem? (i := 46) (by decide +kernel))) (by decide +kernel)
set_option maxRecDepth 20000 in
theorem kw_573 : Cond.methodLink RX5 3 objectInit ∈ gt := gt_m (tb_1 (List.mem_of_getElem? (i := 89) (by decide +kernel))) (by decide +kernel)
set_option maxRecDepth 20000 in
theorem kw_574 : Cond.fieldLink RX5 9 "LoanWays$Ways" "nexts" "[I" ∈ gt := gt_m (tb_1 (List.mem_of_getElem? (i := 90) (by decide +kernel))) (by decide +kernel)
set_option maxRecDepth 20000 in
theorem kw_575 : Cond.fieldLink RX5 15 "LoanWays$Ways" "nextCounts" "[I" ∈ gt := gt_m (tb_1 (List.mem_of_getElem? (i := 91) (by decide +kernel))) (by decide +kernel)
set_option maxRecDepth 20000 in
theorem kw_576 : Cond.fieldLink RX5 18 "LoanWays$Ways" "tried" "[I" ∈ gt := gt_m (tb_1 (List.mem_of_getElem? (i := 92) (by decide +kernel))) (by decide +kernel)
set_option maxRecDepth 20000 in
theorem kw_577 : Cond.fieldLink RX5 21 "LoanWays$Ways" "open" "[I" ∈ gt := gt_m (tb_1 (List.mem_of_getElem? (i := 93) (by decide +kernel))) (by decide +kernel)
set_option maxRecDepth 20000 in
theorem kw_578 : Cond.fieldLink RX5 24 "LoanWays$Ways" "order" "[I" ∈ gt := gt_m (tb_1 (List.mem_of_getElem? (i := 94) (by decide +kernel))) (by decide +kernel)
set_option maxRecDepth 20000 in
theorem kw_579 : Cond.methodLink RX1 3 objectInit ∈ gt := gt_m (tb_1 (List.mem_of_getElem? (i := 114) (by decide +kernel))) (by decide +kernel)
set_option maxRecDepth 20000 in
theorem kw_580 : Cond.fieldLink RX1 9 "LoanWays$Leaves" "onAll" "[J" ∈ gt := gt_m (tb_1 (List.mem_of_getElem? (i := 117) (by decide +kernel))) (by decide +kernel)
set_option maxRecDepth 20000 in
theorem kw_581 : Cond.fieldLink RX1 15 "LoanWays$Leaves" "onSome" "[J" ∈ gt := gt_m (tb_1 (List.mem_of_getElem? (i := 118) (by decide +kernel))) (by decide +kernel)
set_option maxRecDepth 20000 in
theorem kw_582 : Cond.fieldLink RX1 18 "LoanWays$Leaves" "leading" "[I" ∈ gt := gt_m (tb_1 (List.mem_of_getElem? (i := 119) (by decide +kernel))) (by decide +kernel)
set_option maxRecDepth 20000 in
theorem kw_583 : Cond.fieldLink RX1 22 "LoanWays$Leaves" "acts" "LLoanWays$Acts;" ∈ gt := gt_m (tb_1 (List.mem_of_getElem? (i := 115) (by decide +kernel))) (by decide +kernel)
set_option maxRecDepth 20000 in
theorem kw_584 : Cond.fieldLink RX1 26 "LoanWays$Leaves" "ways" "LLoanWays$Ways;" ∈ gt := gt_m (tb_1 (List.mem_of_getElem? (i := 116) (by decide +kernel))) (by decide +kernel)
set_option maxRecDepth 20000 in
theorem kw_585 : Cond.methodLink RX2 3 objectInit ∈ gt := gt_m (tb_1 (List.mem_of_getElem? (i := 136) (by decide +kernel))) (by decide +kernel)
set_option maxRecDepth 20000 in
theorem kw_586 : Cond.fieldLink RX2 9 "LoanWays$Loans" "makers" "[I" ∈ gt := gt_m (tb_1 (List.mem_of_getElem? (i := 140) (by decide +kernel))) (by decide +kernel)
set_option maxRecDepth 20000 in
theorem kw_587 : Cond.fieldLink RX2 15 "LoanWays$Loans" "bits" "[J" ∈ gt := gt_m (tb_1 (List.mem_of_getElem? (i := 141) (by decide +kernel))) (by decide +kernel)
set_option maxRecDepth 20000 in
theorem kw_588 : Cond.fieldLink RX2 19 "LoanWays$Loans" "loansOf" "[J" ∈ gt := gt_m (tb_1 (List.mem_of_getElem? (i := 142) (by decide +kernel))) (by decide +kernel)
set_option maxRecDepth 20000 in
theorem kw_589 : Cond.fieldLink RX2 22 "LoanWays$Loans" "holdings" "[J" ∈ gt := gt_m (tb_1 (List.mem_of_getElem? (i := 143) (by decide +kernel))) (by decide +kernel)
set_option maxRecDepth 20000 in
theorem kw_590 : Cond.fieldLink RX2 25 "LoanWays$Loans" "handed" "[J" ∈ gt := gt_m (tb_1 (List.mem_of_getElem? (i := 144) (by decide +kernel))) (by decide +kernel)
set_option maxRecDepth 20000 in
theorem kw_591 : Cond.fieldLink RX2 28 "LoanWays$Loans" "usedLater" "[I" ∈ gt := gt_m (tb_1 (List.mem_of_getElem? (i := 145) (by decide +kernel))) (by decide +kernel)
set_option maxRecDepth 20000 in
theorem kw_592 : Cond.fieldLink RX2 31 "LoanWays$Loans" "variables" "LLoanWays$Variables;" ∈ gt := gt_m (tb_1 (List.mem_of_getElem? (i := 137) (by decide +kernel))) (by decide +kernel)
set_option maxRecDepth 20000 in
theorem kw_593 : Cond.fieldLink RX2 35 "LoanWays$Loans" "acts" "LLoanWays$Acts;" ∈ gt := gt_m (tb_1 (List.mem_of_getElem? (i := 138) (by decide +kernel))) (by decide +kernel)
set_option maxRecDepth 20000 in
theorem kw_594 : Cond.fieldLink RX2 39 "LoanWays$Loans" "ways" "LLoanWays$Ways;" ∈ gt := gt_m (tb_1 (List.mem_of_getElem? (i := 139) (by decide +kernel))) (by decide +kernel)
set_option maxRecDepth 20000 in
theorem kw_595 : Cond.methodLink RX6 3 objectInit ∈ gt := gt_m (tb_1 (List.mem_of_getElem? (i := 17) (by decide +kernel))) (by decide +kernel)
set_option maxRecDepth 20000 in
theorem kw_596 : Cond.classLink RX6 9 RX4 ∈ gt := gt_m (tb_1 (List.mem_of_getElem? (i := 20) (by decide +kernel))) (by decide +kernel)
set_option maxRecDepth 20000 in
theorem kw_597 : Cond.instantiable RX4 4 ∈ gt := gt_m (tb_1 (List.mem_of_getElem? (i := 21) (by decide +kernel))) (by decide +kernel)
set_option maxRecDepth 20000 in
theorem kw_598 : Cond.instanceMethod yX4_init ∈ gt := gt_m (tb_1 (List.mem_of_getElem? (i := 23) (by decide +kernel))) (by decide +kernel)
set_option maxRecDepth 20000 in
theorem kw_599 : Cond.fieldLink RX6 12 "LoanWays" "variables" "LLoanWays$Variables;" ∈ gt := gt_m (tb_1 (List.mem_of_getElem? (i := 171) (by decide +kernel))) (by decide +kernel)
set_option maxRecDepth 20000 in
theorem kw_600 : Cond.classLink RX6 16 RX0 ∈ gt := gt_m (tb_1 (List.mem_of_getElem? (i := 40) (by decide +kernel))) (by decide +kernel)
set_option maxRecDepth 20000 in
theorem kw_601 : Cond.instantiable RX0 11 ∈ gt := gt_m (tb_1 (List.mem_of_getElem? (i := 41) (by decide +kernel))) (by decide +kernel)
set_option maxRecDepth 20000 in
theorem kw_602 : Cond.methodLink RX6 18 yX0_init ∈ gt := gt_m (tb_1 (List.mem_of_getElem? (i := 42) (by decide +kernel))) (by decide +kernel)
set_option maxRecDepth 20000 in
theorem kw_603 : Cond.instanceMethod yX0_init ∈ gt := gt_m (tb_1 (List.mem_of_getElem? (i := 43) (by decide +kernel))) (by decide +kernel)
set_option maxRecDepth 20000 in
theorem kw_604 : Cond.fieldLink RX6 21 "LoanWays" "acts" "LLoanWays$Acts;" ∈ gt := gt_m (tb_1 (List.mem_of_getElem? (i := 172) (by decide +kernel))) (by decide +kernel)
set_option maxRecDepth 20000 in
theorem kw_605 : Cond.classLink RX6 25 RX5 ∈ gt := gt_m (tb_1 (List.mem_of_getElem? (i := 84) (by decide +kernel))) (by decide +kernel)
set_option maxRecDepth 20000 in
theorem kw_606 : Cond.instantiable RX5 6 ∈ gt := gt_m (tb_1 (List.mem_of_getElem? (i := 85) (by decide +kernel))) (by decide +kernel)
set_option maxRecDepth 20000 in
theorem kw_607 : Cond.instanceMethod yX5_init ∈ gt := gt_m (tb_1 (List.mem_of_getElem? (i := 87) (by decide +kernel))) (by decide +kernel)
set_option maxRecDepth 20000 in
theorem kw_608 : Cond.fieldLink RX6 28 "LoanWays" "ways" "LLoanWays$Ways;" ∈ gt := gt_m (tb_1 (List.mem_of_getElem? (i := 173) (by decide +kernel))) (by decide +kernel)
set_option maxRecDepth 20000 in
theorem kw_609 : Cond.classLink RX6 32 RX1 ∈ gt := gt_m (tb_1 (List.mem_of_getElem? (i := 109) (by decide +kernel))) (by decide +kernel)
set_option maxRecDepth 20000 in
theorem kw_610 : Cond.instantiable RX1 5 ∈ gt := gt_m (tb_1 (List.mem_of_getElem? (i := 110) (by decide +kernel))) (by decide +kernel)
set_option maxRecDepth 20000 in
theorem kw_611 : Cond.methodLink RX6 34 yX1_init ∈ gt := gt_m (tb_1 (List.mem_of_getElem? (i := 111) (by decide +kernel))) (by decide +kernel)
set_option maxRecDepth 20000 in
theorem kw_612 : Cond.instanceMethod yX1_init ∈ gt := gt_m (tb_1 (List.mem_of_getElem? (i := 112) (by decide +kernel))) (by decide +kernel)
set_option maxRecDepth 20000 in
theorem kw_613 : Cond.fieldLink RX6 37 "LoanWays" "leaves" "LLoanWays$Leaves;" ∈ gt := gt_m (tb_1 (List.mem_of_getElem? (i := 174) (by decide +kernel))) (by decide +kernel)
set_option maxRecDepth 20000 in
theorem kw_614 : Cond.classLink RX6 41 RX2 ∈ gt := gt_m (tb_1 (List.mem_of_getElem? (i := 131) (by decide +kernel))) (by decide +kernel)
set_option maxRecDepth 20000 in
theorem kw_615 : Cond.instantiable RX2 11 ∈ gt := gt_m (tb_1 (List.mem_of_getElem? (i := 132) (by decide +kernel))) (by decide +kernel)
set_option maxRecDepth 20000 in
theorem kw_616 : Cond.methodLink RX6 43 yX2_init ∈ gt := gt_m (tb_1 (List.mem_of_getElem? (i := 133) (by decide +kernel))) (by decide +kernel)
set_option maxRecDepth 20000 in
theorem kw_617 : Cond.instanceMethod yX2_init ∈ gt := gt_m (tb_1 (List.mem_of_getElem? (i := 134) (by decide +kernel))) (by decide +kernel)
set_option maxRecDepth 20000 in
theorem kw_618 : Cond.fieldLink RX6 46 "LoanWays" "loans" "LLoanWays$Loans;" ∈ gt := gt_m (tb_1 (List.mem_of_getElem? (i := 175) (by decide +kernel))) (by decide +kernel)
set_option maxRecDepth 20000 in
theorem kw_619 : Cond.methodLink RX7 1 objectInit ∈ gt := gt_m (tb_3 (List.mem_of_getElem? (i := 161) (by decide +kernel))) (by decide +kernel)
set_option maxRecDepth 20000 in
theorem kw_620 : Cond.fieldLink RX7 7 "LoanWaysModel" "sort" "[I" ∈ gt := gt_m (tb_3 (List.mem_of_getElem? (i := 164) (by decide +kernel))) (by decide +kernel)
set_option maxRecDepth 20000 in
theorem kw_621 : Cond.fieldLink RX7 13 "LoanWaysModel" "leaves" "[I" ∈ gt := gt_m (tb_3 (List.mem_of_getElem? (i := 165) (by decide +kernel))) (by decide +kernel)
set_option maxRecDepth 20000 in
theorem kw_622 : Cond.fieldLink RX7 16 "LoanWaysModel" "atFirst" "[Z" ∈ gt := gt_m (tb_3 (List.mem_of_getElem? (i := 166) (by decide +kernel))) (by decide +kernel)
set_option maxRecDepth 20000 in
theorem kw_623 : Cond.fieldLink RX7 20 "LoanWaysModel" "acts" "[I" ∈ gt := gt_m (tb_3 (List.mem_of_getElem? (i := 167) (by decide +kernel))) (by decide +kernel)
set_option maxRecDepth 20000 in
theorem kw_624 : Cond.fieldLink RX7 23 "LoanWaysModel" "of" "[I" ∈ gt := gt_m (tb_3 (List.mem_of_getElem? (i := 168) (by decide +kernel))) (by decide +kernel)
set_option maxRecDepth 20000 in
theorem kw_625 : Cond.fieldLink RX7 26 "LoanWaysModel" "path" "[I" ∈ gt := gt_m (tb_3 (List.mem_of_getElem? (i := 169) (by decide +kernel))) (by decide +kernel)
set_option maxRecDepth 20000 in
theorem kw_626 : Cond.fieldLink RX7 29 "LoanWaysModel" "to" "[I" ∈ gt := gt_m (tb_3 (List.mem_of_getElem? (i := 170) (by decide +kernel))) (by decide +kernel)
set_option maxRecDepth 20000 in
theorem kw_627 : Cond.fieldLink RX7 32 "LoanWaysModel" "nexts" "[I" ∈ gt := gt_m (tb_3 (List.mem_of_getElem? (i := 171) (by decide +kernel))) (by decide +kernel)
set_option maxRecDepth 20000 in
theorem kw_628 : Cond.fieldLink RX7 35 "LoanWaysModel" "isOld" "Z" ∈ gt := gt_m (tb_3 (List.mem_of_getElem? (i := 172) (by decide +kernel))) (by decide +kernel)
set_option maxRecDepth 20000 in
theorem kw_629 : Cond.fieldLink RX7 39 "LoanWaysModel" "come" "[Z" ∈ gt := gt_m (tb_3 (List.mem_of_getElem? (i := 173) (by decide +kernel))) (by decide +kernel)
set_option maxRecDepth 20000 in
theorem kw_630 : Cond.fieldLink RX7 42 "LoanWaysModel" "lost" "[Z" ∈ gt := gt_m (tb_3 (List.mem_of_getElem? (i := 174) (by decide +kernel))) (by decide +kernel)
set_option maxRecDepth 20000 in
theorem kw_631 : Cond.fieldLink RX7 45 "LoanWaysModel" "had" "[Z" ∈ gt := gt_m (tb_3 (List.mem_of_getElem? (i := 175) (by decide +kernel))) (by decide +kernel)
set_option maxRecDepth 20000 in
theorem kw_632 : Cond.constant RX7 48 (360000) ∈ gt := gt_m (tb_3 (List.mem_of_getElem? (i := 162) (by decide +kernel))) (by decide +kernel)
set_option maxRecDepth 20000 in
theorem kw_633 : Cond.fieldLink RX7 49 "LoanWaysModel" "holds" "[Z" ∈ gt := gt_m (tb_3 (List.mem_of_getElem? (i := 176) (by decide +kernel))) (by decide +kernel)
set_option maxRecDepth 20000 in
theorem kw_634 : Cond.fieldLink RX7 52 "LoanWaysModel" "used" "[Z" ∈ gt := gt_m (tb_3 (List.mem_of_getElem? (i := 177) (by decide +kernel))) (by decide +kernel)
set_option maxRecDepth 20000 in
theorem kw_635 : Cond.fieldLink RX7 55 "LoanWaysModel" "force" "[Z" ∈ gt := gt_m (tb_3 (List.mem_of_getElem? (i := 178) (by decide +kernel))) (by decide +kernel)
set_option maxRecDepth 20000 in
theorem kw_636 : Cond.fieldLink RX7 58 "LoanWaysModel" "pile" "[I" ∈ gt := gt_m (tb_3 (List.mem_of_getElem? (i := 179) (by decide +kernel))) (by decide +kernel)
set_option maxRecDepth 20000 in
theorem kw_637 : Cond.fieldLink RX7 61 "LoanWaysModel" "rowOf" "[I" ∈ gt := gt_m (tb_3 (List.mem_of_getElem? (i := 186) (by decide +kernel))) (by decide +kernel)
set_option maxRecDepth 20000 in
theorem kw_638 : Cond.fieldLink RX7 64 "LoanWaysModel" "seen" "[Z" ∈ gt := gt_m (tb_3 (List.mem_of_getElem? (i := 187) (by decide +kernel))) (by decide +kernel)
set_option maxRecDepth 20000 in
theorem kw_639 : Cond.instanceMethod yX6_variable ∈ gt := gt_m (tb_1 (List.mem_of_getElem? (i := 197) (by decide +kernel))) (by decide +kernel)
set_option maxRecDepth 20000 in
theorem kw_640 : Cond.selects RX6 yX6_variable yX6_variable ∈ gt := gt_m (tb_1 (List.mem_of_getElem? (i := 198) (by decide +kernel))) (by decide +kernel)
set_option maxRecDepth 20000 in
theorem kw_641 : Cond.methodLink RL 13 yX6_variable ∈ gt := gt_m (tb_1 (List.mem_of_getElem? (i := 196) (by decide +kernel))) (by decide +kernel)
set_option maxRecDepth 20000 in
theorem kw_642 : Cond.instanceMethod yX7_variable ∈ gt := gt_m (tb_4 (List.mem_of_getElem? (i := 1) (by decide +kernel))) (by decide +kernel)
set_option maxRecDepth 20000 in
theorem kw_643 : Cond.selects RX7 yX7_variable yX7_variable ∈ gt := gt_m (tb_4 (List.mem_of_getElem? (i := 2) (by decide +kernel))) (by decide +kernel)
set_option maxRecDepth 20000 in
theorem kw_644 : Cond.methodLink RL 17 yX7_variable ∈ gt := gt_m (tb_4 (List.mem_of_getElem? (i := 0) (by decide +kernel))) (by decide +kernel)
set_option maxRecDepth 20000 in
theorem kw_645 : Cond.instanceMethod yX6_begins ∈ gt := gt_m (tb_1 (List.mem_of_getElem? (i := 216) (by decide +kernel))) (by decide +kernel)
set_option maxRecDepth 20000 in
theorem kw_646 : Cond.selects RX6 yX6_begins yX6_begins ∈ gt := gt_m (tb_1 (List.mem_of_getElem? (i := 217) (by decide +kernel))) (by decide +kernel)
set_option maxRecDepth 20000 in
theorem kw_647 : Cond.methodLink RL 18 yX6_begins ∈ gt := gt_m (tb_1 (List.mem_of_getElem? (i := 215) (by decide +kernel))) (by decide +kernel)
set_option maxRecDepth 20000 in
theorem kw_648 : Cond.instanceMethod yX7_begins ∈ gt := gt_m (tb_4 (List.mem_of_getElem? (i := 8) (by decide +kernel))) (by decide +kernel)
set_option maxRecDepth 20000 in
theorem kw_649 : Cond.selects RX7 yX7_begins yX7_begins ∈ gt := gt_m (tb_4 (List.mem_of_getElem? (i := 9) (by decide +kernel))) (by decide +kernel)
set_option maxRecDepth 20000 in
theorem kw_650 : Cond.methodLink RL 22 yX7_begins ∈ gt := gt_m (tb_4 (List.mem_of_getElem? (i := 7) (by decide +kernel))) (by decide +kernel)
set_option maxRecDepth 20000 in
theorem kw_651 : Cond.instanceMethod yX6_act ∈ gt := gt_m (tb_2 (List.mem_of_getElem? (i := 4) (by decide +kernel))) (by decide +kernel)
set_option maxRecDepth 20000 in
theorem kw_652 : Cond.selects RX6 yX6_act yX6_act ∈ gt := gt_m (tb_2 (List.mem_of_getElem? (i := 5) (by decide +kernel))) (by decide +kernel)
set_option maxRecDepth 20000 in
theorem kw_653 : Cond.methodLink RL 23 yX6_act ∈ gt := gt_m (tb_2 (List.mem_of_getElem? (i := 3) (by decide +kernel))) (by decide +kernel)
set_option maxRecDepth 20000 in
theorem kw_654 : Cond.instanceMethod yX7_act ∈ gt := gt_m (tb_4 (List.mem_of_getElem? (i := 16) (by decide +kernel))) (by decide +kernel)
set_option maxRecDepth 20000 in
theorem kw_655 : Cond.selects RX7 yX7_act yX7_act ∈ gt := gt_m (tb_4 (List.mem_of_getElem? (i := 17) (by decide +kernel))) (by decide +kernel)
set_option maxRecDepth 20000 in
theorem kw_656 : Cond.methodLink RL 27 yX7_act ∈ gt := gt_m (tb_4 (List.mem_of_getElem? (i := 15) (by decide +kernel))) (by decide +kernel)
set_option maxRecDepth 20000 in
theorem kw_657 : Cond.instanceMethod yX6_lend ∈ gt := gt_m (tb_2 (List.mem_of_getElem? (i := 85) (by decide +kernel))) (by decide +kernel)
set_option maxRecDepth 20000 in
theorem kw_658 : Cond.selects RX6 yX6_lend yX6_lend ∈ gt := gt_m (tb_2 (List.mem_of_getElem? (i := 86) (by decide +kernel))) (by decide +kernel)
set_option maxRecDepth 20000 in
theorem kw_659 : Cond.methodLink RL 28 yX6_lend ∈ gt := gt_m (tb_2 (List.mem_of_getElem? (i := 84) (by decide +kernel))) (by decide +kernel)
set_option maxRecDepth 20000 in
theorem kw_660 : Cond.instanceMethod yX7_lend ∈ gt := gt_m (tb_4 (List.mem_of_getElem? (i := 38) (by decide +kernel))) (by decide +kernel)
set_option maxRecDepth 20000 in
theorem kw_661 : Cond.selects RX7 yX7_lend yX7_lend ∈ gt := gt_m (tb_4 (List.mem_of_getElem? (i := 39) (by decide +kernel))) (by decide +kernel)
set_option maxRecDepth 20000 in
theorem kw_662 : Cond.methodLink RL 31 yX7_lend ∈ gt := gt_m (tb_4 (List.mem_of_getElem? (i := 37) (by decide +kernel))) (by decide +kernel)
set_option maxRecDepth 20000 in
theorem kw_663 : Cond.instanceMethod yX6_copy ∈ gt := gt_m (tb_2 (List.mem_of_getElem? (i := 98) (by decide +kernel))) (by decide +kernel)
set_option maxRecDepth 20000 in
theorem kw_664 : Cond.selects RX6 yX6_copy yX6_copy ∈ gt := gt_m (tb_2 (List.mem_of_getElem? (i := 99) (by decide +kernel))) (by decide +kernel)
set_option maxRecDepth 20000 in
theorem kw_665 : Cond.methodLink RL 32 yX6_copy ∈ gt := gt_m (tb_2 (List.mem_of_getElem? (i := 97) (by decide +kernel))) (by decide +kernel)
set_option maxRecDepth 20000 in
theorem kw_666 : Cond.instanceMethod yX7_copy ∈ gt := gt_m (tb_4 (List.mem_of_getElem? (i := 46) (by decide +kernel))) (by decide +kernel)
set_option maxRecDepth 20000 in
theorem kw_667 : Cond.selects RX7 yX7_copy yX7_copy ∈ gt := gt_m (tb_4 (List.mem_of_getElem? (i := 47) (by decide +kernel))) (by decide +kernel)
set_option maxRecDepth 20000 in
theorem kw_668 : Cond.methodLink RL 36 yX7_copy ∈ gt := gt_m (tb_4 (List.mem_of_getElem? (i := 45) (by decide +kernel))) (by decide +kernel)
set_option maxRecDepth 20000 in
theorem kw_669 : Cond.instanceMethod yX6_next ∈ gt := gt_m (tb_2 (List.mem_of_getElem? (i := 106) (by decide +kernel))) (by decide +kernel)
set_option maxRecDepth 20000 in
theorem kw_670 : Cond.selects RX6 yX6_next yX6_next ∈ gt := gt_m (tb_2 (List.mem_of_getElem? (i := 107) (by decide +kernel))) (by decide +kernel)
set_option maxRecDepth 20000 in
theorem kw_671 : Cond.methodLink RL 37 yX6_next ∈ gt := gt_m (tb_2 (List.mem_of_getElem? (i := 105) (by decide +kernel))) (by decide +kernel)
set_option maxRecDepth 20000 in
theorem kw_672 : Cond.instanceMethod yX7_next ∈ gt := gt_m (tb_4 (List.mem_of_getElem? (i := 50) (by decide +kernel))) (by decide +kernel)
set_option maxRecDepth 20000 in
theorem kw_673 : Cond.selects RX7 yX7_next yX7_next ∈ gt := gt_m (tb_4 (List.mem_of_getElem? (i := 51) (by decide +kernel))) (by decide +kernel)
set_option maxRecDepth 20000 in
theorem kw_674 : Cond.methodLink RL 41 yX7_next ∈ gt := gt_m (tb_4 (List.mem_of_getElem? (i := 49) (by decide +kernel))) (by decide +kernel)
set_option maxRecDepth 20000 in
theorem kw_675 : Cond.instanceMethod yX6_judge ∈ gt := gt_m (tb_2 (List.mem_of_getElem? (i := 126) (by decide +kernel))) (by decide +kernel)
set_option maxRecDepth 20000 in
theorem kw_676 : Cond.selects RX6 yX6_judge yX6_judge ∈ gt := gt_m (tb_2 (List.mem_of_getElem? (i := 127) (by decide +kernel))) (by decide +kernel)
set_option maxRecDepth 20000 in
theorem kw_677 : Cond.methodLink RL 42 yX6_judge ∈ gt := gt_m (tb_2 (List.mem_of_getElem? (i := 125) (by decide +kernel))) (by decide +kernel)
set_option maxRecDepth 20000 in
theorem kw_678 : Cond.instanceMethod yX7_judge ∈ gt := gt_m (tb_4 (List.mem_of_getElem? (i := 54) (by decide +kernel))) (by decide +kernel)
set_option maxRecDepth 20000 in
theorem kw_679 : Cond.selects RX7 yX7_judge yX7_judge ∈ gt := gt_m (tb_4 (List.mem_of_getElem? (i := 55) (by decide +kernel))) (by decide +kernel)
set_option maxRecDepth 20000 in
theorem kw_680 : Cond.methodLink RL 46 yX7_judge ∈ gt := gt_m (tb_4 (List.mem_of_getElem? (i := 53) (by decide +kernel))) (by decide +kernel)
set_option maxRecDepth 20000 in
theorem kw_681 : Cond.instanceMethod yX6_fault ∈ gt := gt_m (tb_3 (List.mem_of_getElem? (i := 60) (by decide +kernel))) (by decide +kernel)
set_option maxRecDepth 20000 in
theorem kw_682 : Cond.selects RX6 yX6_fault yX6_fault ∈ gt := gt_m (tb_3 (List.mem_of_getElem? (i := 61) (by decide +kernel))) (by decide +kernel)
set_option maxRecDepth 20000 in
theorem kw_683 : Cond.methodLink RL 47 yX6_fault ∈ gt := gt_m (tb_3 (List.mem_of_getElem? (i := 59) (by decide +kernel))) (by decide +kernel)
set_option maxRecDepth 20000 in
theorem kw_684 : Cond.instanceMethod yX7_fault ∈ gt := gt_m (tb_4 (List.mem_of_getElem? (i := 157) (by decide +kernel))) (by decide +kernel)
set_option maxRecDepth 20000 in
theorem kw_685 : Cond.selects RX7 yX7_fault yX7_fault ∈ gt := gt_m (tb_4 (List.mem_of_getElem? (i := 158) (by decide +kernel))) (by decide +kernel)
set_option maxRecDepth 20000 in
theorem kw_686 : Cond.methodLink RL 51 yX7_fault ∈ gt := gt_m (tb_4 (List.mem_of_getElem? (i := 156) (by decide +kernel))) (by decide +kernel)
set_option maxRecDepth 20000 in
theorem kw_687 : Cond.instanceMethod yX6_comes ∈ gt := gt_m (tb_3 (List.mem_of_getElem? (i := 79) (by decide +kernel))) (by decide +kernel)
set_option maxRecDepth 20000 in
theorem kw_688 : Cond.selects RX6 yX6_comes yX6_comes ∈ gt := gt_m (tb_3 (List.mem_of_getElem? (i := 80) (by decide +kernel))) (by decide +kernel)
set_option maxRecDepth 20000 in
theorem kw_689 : Cond.methodLink RL 52 yX6_comes ∈ gt := gt_m (tb_3 (List.mem_of_getElem? (i := 78) (by decide +kernel))) (by decide +kernel)
set_option maxRecDepth 20000 in
theorem kw_690 : Cond.instanceMethod yX7_comes ∈ gt := gt_m (tb_4 (List.mem_of_getElem? (i := 161) (by decide +kernel))) (by decide +kernel)
set_option maxRecDepth 20000 in
theorem kw_691 : Cond.selects RX7 yX7_comes yX7_comes ∈ gt := gt_m (tb_4 (List.mem_of_getElem? (i := 162) (by decide +kernel))) (by decide +kernel)
set_option maxRecDepth 20000 in
theorem kw_692 : Cond.methodLink RL 55 yX7_comes ∈ gt := gt_m (tb_4 (List.mem_of_getElem? (i := 160) (by decide +kernel))) (by decide +kernel)
set_option maxRecDepth 20000 in
theorem kw_693 : Cond.instanceMethod yX6_held ∈ gt := gt_m (tb_3 (List.mem_of_getElem? (i := 85) (by decide +kernel))) (by decide +kernel)
set_option maxRecDepth 20000 in
theorem kw_694 : Cond.selects RX6 yX6_held yX6_held ∈ gt := gt_m (tb_3 (List.mem_of_getElem? (i := 86) (by decide +kernel))) (by decide +kernel)
set_option maxRecDepth 20000 in
theorem kw_695 : Cond.methodLink RL 56 yX6_held ∈ gt := gt_m (tb_3 (List.mem_of_getElem? (i := 84) (by decide +kernel))) (by decide +kernel)
set_option maxRecDepth 20000 in
theorem kw_696 : Cond.instanceMethod yX7_held ∈ gt := gt_m (tb_4 (List.mem_of_getElem? (i := 165) (by decide +kernel))) (by decide +kernel)
set_option maxRecDepth 20000 in
theorem kw_697 : Cond.selects RX7 yX7_held yX7_held ∈ gt := gt_m (tb_4 (List.mem_of_getElem? (i := 166) (by decide +kernel))) (by decide +kernel)
set_option maxRecDepth 20000 in
theorem kw_698 : Cond.methodLink RL 59 yX7_held ∈ gt := gt_m (tb_4 (List.mem_of_getElem? (i := 164) (by decide +kernel))) (by decide +kernel)
set_option maxRecDepth 20000 in
theorem kw_699 : Cond.instanceMethod yX6_holds ∈ gt := gt_m (tb_3 (List.mem_of_getElem? (i := 98) (by decide +kernel))) (by decide +kernel)
set_option maxRecDepth 20000 in
theorem kw_700 : Cond.selects RX6 yX6_holds yX6_holds ∈ gt := gt_m (tb_3 (List.mem_of_getElem? (i := 99) (by decide +kernel))) (by decide +kernel)
set_option maxRecDepth 20000 in
theorem kw_701 : Cond.methodLink RL 60 yX6_holds ∈ gt := gt_m (tb_3 (List.mem_of_getElem? (i := 97) (by decide +kernel))) (by decide +kernel)
set_option maxRecDepth 20000 in
theorem kw_702 : Cond.instanceMethod yX7_holds ∈ gt := gt_m (tb_4 (List.mem_of_getElem? (i := 169) (by decide +kernel))) (by decide +kernel)
set_option maxRecDepth 20000 in
theorem kw_703 : Cond.selects RX7 yX7_holds yX7_holds ∈ gt := gt_m (tb_4 (List.mem_of_getElem? (i := 170) (by decide +kernel))) (by decide +kernel)
set_option maxRecDepth 20000 in
theorem kw_704 : Cond.methodLink RL 63 yX7_holds ∈ gt := gt_m (tb_4 (List.mem_of_getElem? (i := 168) (by decide +kernel))) (by decide +kernel)
set_option maxRecDepth 20000 in
theorem kw_705 : Cond.instanceMethod yX6_used ∈ gt := gt_m (tb_3 (List.mem_of_getElem? (i := 112) (by decide +kernel))) (by decide +kernel)
set_option maxRecDepth 20000 in
theorem kw_706 : Cond.selects RX6 yX6_used yX6_used ∈ gt := gt_m (tb_3 (List.mem_of_getElem? (i := 113) (by decide +kernel))) (by decide +kernel)
set_option maxRecDepth 20000 in
theorem kw_707 : Cond.methodLink RL 64 yX6_used ∈ gt := gt_m (tb_3 (List.mem_of_getElem? (i := 111) (by decide +kernel))) (by decide +kernel)
set_option maxRecDepth 20000 in
theorem kw_708 : Cond.instanceMethod yX7_used ∈ gt := gt_m (tb_4 (List.mem_of_getElem? (i := 173) (by decide +kernel))) (by decide +kernel)
set_option maxRecDepth 20000 in
theorem kw_709 : Cond.selects RX7 yX7_used yX7_used ∈ gt := gt_m (tb_4 (List.mem_of_getElem? (i := 174) (by decide +kernel))) (by decide +kernel)
set_option maxRecDepth 20000 in
theorem kw_710 : Cond.methodLink RL 67 yX7_used ∈ gt := gt_m (tb_4 (List.mem_of_getElem? (i := 172) (by decide +kernel))) (by decide +kernel)
set_option maxRecDepth 20000 in
theorem kw_711 : Cond.instanceMethod yX6_force ∈ gt := gt_m (tb_3 (List.mem_of_getElem? (i := 120) (by decide +kernel))) (by decide +kernel)
set_option maxRecDepth 20000 in
theorem kw_712 : Cond.selects RX6 yX6_force yX6_force ∈ gt := gt_m (tb_3 (List.mem_of_getElem? (i := 121) (by decide +kernel))) (by decide +kernel)
set_option maxRecDepth 20000 in
theorem kw_713 : Cond.methodLink RL 68 yX6_force ∈ gt := gt_m (tb_3 (List.mem_of_getElem? (i := 119) (by decide +kernel))) (by decide +kernel)
set_option maxRecDepth 20000 in
theorem kw_714 : Cond.instanceMethod yX7_force ∈ gt := gt_m (tb_4 (List.mem_of_getElem? (i := 177) (by decide +kernel))) (by decide +kernel)
set_option maxRecDepth 20000 in
theorem kw_715 : Cond.selects RX7 yX7_force yX7_force ∈ gt := gt_m (tb_4 (List.mem_of_getElem? (i := 178) (by decide +kernel))) (by decide +kernel)
set_option maxRecDepth 20000 in
theorem kw_716 : Cond.methodLink RL 71 yX7_force ∈ gt := gt_m (tb_4 (List.mem_of_getElem? (i := 176) (by decide +kernel))) (by decide +kernel)
set_option maxRecDepth 20000 in
theorem kw_717 : Cond.instanceMethod yX6_count ∈ gt := gt_m (tb_3 (List.mem_of_getElem? (i := 128) (by decide +kernel))) (by decide +kernel)
set_option maxRecDepth 20000 in
theorem kw_718 : Cond.selects RX6 yX6_count yX6_count ∈ gt := gt_m (tb_3 (List.mem_of_getElem? (i := 129) (by decide +kernel))) (by decide +kernel)
set_option maxRecDepth 20000 in
theorem kw_719 : Cond.methodLink RL 72 yX6_count ∈ gt := gt_m (tb_3 (List.mem_of_getElem? (i := 127) (by decide +kernel))) (by decide +kernel)
set_option maxRecDepth 20000 in
theorem kw_720 : Cond.instanceMethod yX7_count ∈ gt := gt_m (tb_4 (List.mem_of_getElem? (i := 181) (by decide +kernel))) (by decide +kernel)
set_option maxRecDepth 20000 in
theorem kw_721 : Cond.selects RX7 yX7_count yX7_count ∈ gt := gt_m (tb_4 (List.mem_of_getElem? (i := 182) (by decide +kernel))) (by decide +kernel)
set_option maxRecDepth 20000 in
theorem kw_722 : Cond.methodLink RL 75 yX7_count ∈ gt := gt_m (tb_4 (List.mem_of_getElem? (i := 180) (by decide +kernel))) (by decide +kernel)
set_option maxRecDepth 20000 in
theorem kw_723 : Cond.instantiable RX6 8 ∈ gt := gt_m (tb_1 (List.mem_of_getElem? (i := 13) (by decide +kernel))) (by decide +kernel)
set_option maxRecDepth 20000 in
theorem kw_724 : Cond.instantiable RX7 25 ∈ gt := gt_m (tb_3 (List.mem_of_getElem? (i := 157) (by decide +kernel))) (by decide +kernel)
set_option maxRecDepth 20000 in
theorem kw_725 : Cond.arrayClass .int ∈ gt := gt_m (tb_1 (List.mem_of_getElem? (i := 39) (by decide +kernel))) (by decide +kernel)
set_option maxRecDepth 20000 in
theorem kw_726 : Cond.arrayClass .long ∈ gt := gt_m (tb_1 (List.mem_of_getElem? (i := 83) (by decide +kernel))) (by decide +kernel)
set_option maxRecDepth 20000 in
theorem kw_727 : Cond.arrayClass .boolean ∈ gt := gt_m (tb_3 (List.mem_of_getElem? (i := 239) (by decide +kernel))) (by decide +kernel)
set_option maxRecDepth 20000 in
theorem kw_728 : Cond.classLink RL 7 RX6 ∈ gt := gt_m (tb_1 (List.mem_of_getElem? (i := 12) (by decide +kernel))) (by decide +kernel)
set_option maxRecDepth 20000 in
theorem kw_729 : Cond.methodLink RL 9 yX6_init ∈ gt := gt_m (tb_1 (List.mem_of_getElem? (i := 14) (by decide +kernel))) (by decide +kernel)
set_option maxRecDepth 20000 in
theorem kw_730 : Cond.instanceMethod yX6_init ∈ gt := gt_m (tb_1 (List.mem_of_getElem? (i := 15) (by decide +kernel))) (by decide +kernel)
set_option maxRecDepth 20000 in
theorem kw_731 : Cond.classLink RL 10 RX7 ∈ gt := gt_m (tb_3 (List.mem_of_getElem? (i := 156) (by decide +kernel))) (by decide +kernel)
set_option maxRecDepth 20000 in
theorem kw_732 : Cond.methodLink RL 12 yX7_init ∈ gt := gt_m (tb_3 (List.mem_of_getElem? (i := 158) (by decide +kernel))) (by decide +kernel)
set_option maxRecDepth 20000 in
theorem kw_733 : Cond.instanceMethod yX7_init ∈ gt := gt_m (tb_3 (List.mem_of_getElem? (i := 159) (by decide +kernel))) (by decide +kernel)
set_option maxRecDepth 20000 in
theorem kw_734 : Cond.fieldLink RX6 175 "LoanWays" "waysKnown" "Z" ∈ gt := gt_m (tb_1 (List.mem_of_getElem? (i := 176) (by decide +kernel))) (by decide +kernel)
set_option maxRecDepth 20000 in
theorem kw_735 : Cond.fieldLink RX6 179 "LoanWays" "leavesKnown" "Z" ∈ gt := gt_m (tb_1 (List.mem_of_getElem? (i := 177) (by decide +kernel))) (by decide +kernel)
set_option maxRecDepth 20000 in
theorem kw_736 : Cond.fieldLink RX6 182 "LoanWays" "loansKnown" "Z" ∈ gt := gt_m (tb_1 (List.mem_of_getElem? (i := 178) (by decide +kernel))) (by decide +kernel)
set_option maxRecDepth 20000 in
theorem kw_737 : Cond.fieldLink RX4 18 "LoanWays$Variables" "made" "I" ∈ gt := gt_m (tb_1 (List.mem_of_getElem? (i := 28) (by decide +kernel))) (by decide +kernel)
set_option maxRecDepth 20000 in
theorem kw_738 : Cond.fieldLink RX4 30 "LoanWays$Variables" "begun" "J" ∈ gt := gt_m (tb_1 (List.mem_of_getElem? (i := 29) (by decide +kernel))) (by decide +kernel)
set_option maxRecDepth 20000 in
theorem kw_739 : Cond.fieldLink RX0 58 "LoanWays$Acts" "lends" "I" ∈ gt := gt_m (tb_1 (List.mem_of_getElem? (i := 59) (by decide +kernel))) (by decide +kernel)
set_option maxRecDepth 20000 in
theorem kw_740 : Cond.fieldLink RX5 40 "LoanWays$Ways" "reached" "I" ∈ gt := gt_m (tb_1 (List.mem_of_getElem? (i := 95) (by decide +kernel))) (by decide +kernel)
set_option maxRecDepth 20000 in
theorem kw_741 : Cond.fieldLink RX2 49 "LoanWays$Loans" "soleLoans" "J" ∈ gt := gt_m (tb_1 (List.mem_of_getElem? (i := 146) (by decide +kernel))) (by decide +kernel)
set_option maxRecDepth 20000 in
theorem kw_742 : Cond.fieldLink RX2 53 "LoanWays$Loans" "made" "I" ∈ gt := gt_m (tb_1 (List.mem_of_getElem? (i := 147) (by decide +kernel))) (by decide +kernel)
set_option maxRecDepth 20000 in
theorem kw_743 : Cond.fieldLink RX7 67 "LoanWaysModel" "variables" "I" ∈ gt := gt_m (tb_3 (List.mem_of_getElem? (i := 163) (by decide +kernel))) (by decide +kernel)
set_option maxRecDepth 20000 in
theorem kw_744 : Cond.fieldLink RX7 161 "LoanWaysModel" "fault" "I" ∈ gt := gt_m (tb_3 (List.mem_of_getElem? (i := 180) (by decide +kernel))) (by decide +kernel)
set_option maxRecDepth 20000 in
theorem kw_745 : Cond.fieldLink RX7 164 "LoanWaysModel" "faultPoint" "I" ∈ gt := gt_m (tb_3 (List.mem_of_getElem? (i := 181) (by decide +kernel))) (by decide +kernel)
set_option maxRecDepth 20000 in
theorem kw_746 : Cond.fieldLink RX7 167 "LoanWaysModel" "otherPoint" "I" ∈ gt := gt_m (tb_3 (List.mem_of_getElem? (i := 182) (by decide +kernel))) (by decide +kernel)
set_option maxRecDepth 20000 in
theorem kw_747 : Cond.fieldLink RX7 170 "LoanWaysModel" "lacking" "I" ∈ gt := gt_m (tb_3 (List.mem_of_getElem? (i := 183) (by decide +kernel))) (by decide +kernel)
set_option maxRecDepth 20000 in
theorem kw_748 : Cond.fieldLink RX7 173 "LoanWaysModel" "clashing" "I" ∈ gt := gt_m (tb_3 (List.mem_of_getElem? (i := 184) (by decide +kernel))) (by decide +kernel)
set_option maxRecDepth 20000 in
theorem kw_749 : Cond.fieldLink RX7 105 "LoanWaysModel" "piled" "I" ∈ gt := gt_m (tb_3 (List.mem_of_getElem? (i := 185) (by decide +kernel))) (by decide +kernel)
set_option maxRecDepth 20000 in
theorem kw_750 : Cond.static yJ7_fill_53178 ∈ gt := gt_m (tb_1 (List.mem_of_getElem? (i := 47) (by decide +kernel))) (by decide +kernel)
set_option maxRecDepth 20000 in
theorem kw_751 : Cond.static yJ7_fill_d0a16 ∈ gt := gt_m (tb_2 (List.mem_of_getElem? (i := 152) (by decide +kernel))) (by decide +kernel)
theorem cal_J13_bitCount_95d88 : Cal yJ13_bitCount_95d88 cJ13_bitCount_95d88 2 (some .int) 1 := ⟨kw_388, kw_389, by decide +kernel⟩
theorem cal_J7_fill_53178 : Cal yJ7_fill_53178 cJ7_fill_53178 4 none 2 := ⟨kw_390, kw_391, by decide +kernel⟩
theorem cal_J7_fill_d0a16 : Cal yJ7_fill_d0a16 cJ7_fill_d0a16 5 none 2 := ⟨kw_390, kw_392, by decide +kernel⟩
theorem cal_X0_canClash : Cal yX0_canClash cX0_canClash 2 (some .boolean) 1 := ⟨kw_393, kw_394, by decide +kernel⟩
theorem cal_X0_givenAt : Cal yX0_givenAt cX0_givenAt 2 (some .long) 1 := ⟨kw_393, kw_395, by decide +kernel⟩
theorem cal_X0_init : Cal yX0_init cX0_init 2 none 1 := ⟨kw_393, kw_396, by decide +kernel⟩
theorem cal_X0_isOnPlace : Cal yX0_isOnPlace cX0_isOnPlace 1 (some .boolean) 1 := ⟨kw_393, kw_397, by decide +kernel⟩
theorem cal_X0_leavesGiven : Cal yX0_leavesGiven cX0_leavesGiven 6 (some .long) 4 := ⟨kw_393, kw_398, by decide +kernel⟩
theorem cal_X0_leavesTaken : Cal yX0_leavesTaken cX0_leavesTaken 5 (some .long) 3 := ⟨kw_393, kw_399, by decide +kernel⟩
theorem cal_X0_leavesWanted : Cal yX0_leavesWanted cX0_leavesWanted 5 (some .long) 3 := ⟨kw_393, kw_400, by decide +kernel⟩
theorem cal_X0_lendsBeside : Cal yX0_lendsBeside cX0_lendsBeside 2 (some .int) 1 := ⟨kw_393, kw_401, by decide +kernel⟩
theorem cal_X0_makesLoan : Cal yX0_makesLoan cX0_makesLoan 2 (some .boolean) 1 := ⟨kw_393, kw_402, by decide +kernel⟩
theorem cal_X0_makesSoleLoan : Cal yX0_makesSoleLoan cX0_makesSoleLoan 2 (some .boolean) 1 := ⟨kw_393, kw_403, by decide +kernel⟩
theorem cal_X0_onlyLooks : Cal yX0_onlyLooks cX0_onlyLooks 3 (some .boolean) 1 := ⟨kw_393, kw_404, by decide +kernel⟩
theorem cal_X0_pathAt : Cal yX0_pathAt cX0_pathAt 2 (some .int) 1 := ⟨kw_393, kw_405, by decide +kernel⟩
theorem cal_X0_put : Cal yX0_put cX0_put 6 none 5 := ⟨kw_393, kw_406, by decide +kernel⟩
theorem cal_X0_referenceRenewed : Cal yX0_referenceRenewed cX0_referenceRenewed 4 (some .int) 3 := ⟨kw_393, kw_407, by decide +kernel⟩
theorem cal_X0_referenceUsed : Cal yX0_referenceUsed cX0_referenceUsed 5 (some .int) 3 := ⟨kw_393, kw_408, by decide +kernel⟩
theorem cal_X0_renewedAt : Cal yX0_renewedAt cX0_renewedAt 2 (some .int) 1 := ⟨kw_393, kw_409, by decide +kernel⟩
theorem cal_X0_takenAt : Cal yX0_takenAt cX0_takenAt 2 (some .long) 1 := ⟨kw_393, kw_410, by decide +kernel⟩
theorem cal_X0_usedAt : Cal yX0_usedAt cX0_usedAt 2 (some .int) 1 := ⟨kw_393, kw_411, by decide +kernel⟩
theorem cal_X0_variableAt : Cal yX0_variableAt cX0_variableAt 2 (some .int) 1 := ⟨kw_393, kw_412, by decide +kernel⟩
theorem cal_X0_wantedAt : Cal yX0_wantedAt cX0_wantedAt 2 (some .long) 1 := ⟨kw_393, kw_413, by decide +kernel⟩
theorem cal_X1_findLeading : Cal yX1_findLeading cX1_findLeading 8 none 2 := ⟨kw_414, kw_415, by decide +kernel⟩
theorem cal_X1_flow : Cal yX1_flow cX1_flow 6 none 1 := ⟨kw_414, kw_416, by decide +kernel⟩
theorem cal_X1_handOn : Cal yX1_handOn cX1_handOn 9 (some .boolean) 1 := ⟨kw_414, kw_417, by decide +kernel⟩
theorem cal_X1_init : Cal yX1_init cX1_init 3 none 2 := ⟨kw_414, kw_418, by decide +kernel⟩
theorem cal_X1_leadsOn : Cal yX1_leadsOn cX1_leadsOn 3 (some .boolean) 1 := ⟨kw_414, kw_419, by decide +kernel⟩
theorem cal_X1_leastTaker : Cal yX1_leastTaker cX1_leastTaker 7 (some .int) 1 := ⟨kw_414, kw_420, by decide +kernel⟩
theorem cal_X1_missing : Cal yX1_missing cX1_missing 2 (some .long) 1 := ⟨kw_414, kw_421, by decide +kernel⟩
theorem cal_X1_state : Cal yX1_state cX1_state 4 (some .int) 2 := ⟨kw_414, kw_422, by decide +kernel⟩
theorem cal_X2_flowHoldings : Cal yX2_flowHoldings cX2_flowHoldings 4 none 0 := ⟨kw_423, kw_424, by decide +kernel⟩
theorem cal_X2_flowUses : Cal yX2_flowUses cX2_flowUses 6 none 0 := ⟨kw_423, kw_425, by decide +kernel⟩
theorem cal_X2_handOn : Cal yX2_handOn cX2_handOn 4 (some .boolean) 1 := ⟨kw_423, kw_426, by decide +kernel⟩
theorem cal_X2_inForce : Cal yX2_inForce cX2_inForce 6 (some .long) 1 := ⟨kw_423, kw_427, by decide +kernel⟩
theorem cal_X2_init : Cal yX2_init cX2_init 4 none 3 := ⟨kw_423, kw_428, by decide +kernel⟩
theorem cal_X2_isHeldBy : Cal yX2_isHeldBy cX2_isHeldBy 4 (some .boolean) 3 := ⟨kw_423, kw_429, by decide +kernel⟩
theorem cal_X2_isInForce : Cal yX2_isInForce cX2_isInForce 3 (some .boolean) 2 := ⟨kw_423, kw_430, by decide +kernel⟩
theorem cal_X2_isUsedBehind : Cal yX2_isUsedBehind cX2_isUsedBehind 3 (some .boolean) 2 := ⟨kw_423, kw_431, by decide +kernel⟩
theorem cal_X2_leastClash : Cal yX2_leastClash cX2_leastClash 6 (some .int) 1 := ⟨kw_423, kw_432, by decide +kernel⟩
theorem cal_X2_number : Cal yX2_number cX2_number 2 none 0 := ⟨kw_423, kw_433, by decide +kernel⟩
theorem cal_X2_renew : Cal yX2_renew cX2_renew 5 none 1 := ⟨kw_423, kw_434, by decide +kernel⟩
theorem cal_X2_size : Cal yX2_size cX2_size 1 (some .int) 0 := ⟨kw_423, kw_435, by decide +kernel⟩
theorem cal_X2_takeOver : Cal yX2_takeOver cX2_takeOver 5 (some .boolean) 1 := ⟨kw_423, kw_436, by decide +kernel⟩
theorem cal_X2_usesBehind : Cal yX2_usesBehind cX2_usesBehind 5 (some .int) 1 := ⟨kw_423, kw_437, by decide +kernel⟩
theorem cal_X2_variableBit : Cal yX2_variableBit cX2_variableBit 1 (some .int) 1 := ⟨kw_423, kw_438, by decide +kernel⟩
theorem cal_X3_behindFirst : Cal yX3_behindFirst cX3_behindFirst 1 (some .int) 1 := ⟨kw_439, kw_440, by decide +kernel⟩
theorem cal_X3_firstDigit : Cal yX3_firstDigit cX3_firstDigit 1 (some .int) 1 := ⟨kw_439, kw_441, by decide +kernel⟩
theorem cal_X3_isPath : Cal yX3_isPath cX3_isPath 4 (some .boolean) 1 := ⟨kw_439, kw_442, by decide +kernel⟩
theorem cal_X3_oneBeginsTheOther : Cal yX3_oneBeginsTheOther cX3_oneBeginsTheOther 5 (some .boolean) 2 := ⟨kw_439, kw_443, by decide +kernel⟩
theorem cal_X4_add : Cal yX4_add cX4_add 3 (some .int) 2 := ⟨kw_444, kw_445, by decide +kernel⟩
theorem cal_X4_begin : Cal yX4_begin cX4_begin 5 none 2 := ⟨kw_444, kw_446, by decide +kernel⟩
theorem cal_X4_begun : Cal yX4_begun cX4_begun 1 (some .long) 0 := ⟨kw_444, kw_447, by decide +kernel⟩
theorem cal_X4_goesThrough : Cal yX4_goesThrough cX4_goesThrough 3 (some .boolean) 2 := ⟨kw_444, kw_448, by decide +kernel⟩
theorem cal_X4_has : Cal yX4_has cX4_has 2 (some .boolean) 1 := ⟨kw_444, kw_449, by decide +kernel⟩
theorem cal_X4_hasLeaf : Cal yX4_hasLeaf cX4_hasLeaf 3 (some .boolean) 2 := ⟨kw_444, kw_450, by decide +kernel⟩
theorem cal_X4_hasParts : Cal yX4_hasParts cX4_hasParts 2 (some .boolean) 1 := ⟨kw_444, kw_451, by decide +kernel⟩
theorem cal_X4_init : Cal yX4_init cX4_init 1 none 0 := ⟨kw_444, kw_452, by decide +kernel⟩
theorem cal_X4_isFull : Cal yX4_isFull cX4_isFull 1 (some .boolean) 0 := ⟨kw_444, kw_453, by decide +kernel⟩
theorem cal_X4_isPlace : Cal yX4_isPlace cX4_isPlace 3 (some .boolean) 2 := ⟨kw_444, kw_454, by decide +kernel⟩
theorem cal_X4_isReference : Cal yX4_isReference cX4_isReference 2 (some .boolean) 1 := ⟨kw_444, kw_455, by decide +kernel⟩
theorem cal_X4_isShared : Cal yX4_isShared cX4_isShared 2 (some .boolean) 1 := ⟨kw_444, kw_456, by decide +kernel⟩
theorem cal_X4_isSole : Cal yX4_isSole cX4_isSole 2 (some .boolean) 1 := ⟨kw_444, kw_457, by decide +kernel⟩
theorem cal_X4_isWithin : Cal yX4_isWithin cX4_isWithin 3 (some .boolean) 2 := ⟨kw_444, kw_458, by decide +kernel⟩
theorem cal_X4_leavesOf : Cal yX4_leavesOf cX4_leavesOf 5 (some .long) 2 := ⟨kw_444, kw_459, by decide +kernel⟩
theorem cal_X4_mayAct : Cal yX4_mayAct cX4_mayAct 4 (some .boolean) 3 := ⟨kw_444, kw_460, by decide +kernel⟩
theorem cal_X4_mayCopy : Cal yX4_mayCopy cX4_mayCopy 3 (some .boolean) 2 := ⟨kw_444, kw_461, by decide +kernel⟩
theorem cal_X4_mayLend : Cal yX4_mayLend cX4_mayLend 4 (some .boolean) 3 := ⟨kw_444, kw_462, by decide +kernel⟩
theorem cal_X4_size : Cal yX4_size cX4_size 1 (some .int) 0 := ⟨kw_444, kw_463, by decide +kernel⟩
theorem cal_X5_add : Cal yX5_add cX5_add 3 (some .boolean) 2 := ⟨kw_464, kw_465, by decide +kernel⟩
theorem cal_X5_comeTo : Cal yX5_comeTo cX5_comeTo 2 (some .boolean) 1 := ⟨kw_464, kw_466, by decide +kernel⟩
theorem cal_X5_fromTheBeginning : Cal yX5_fromTheBeginning cX5_fromTheBeginning 2 (some .int) 1 := ⟨kw_464, kw_467, by decide +kernel⟩
theorem cal_X5_fromTheEnd : Cal yX5_fromTheEnd cX5_fromTheEnd 2 (some .int) 1 := ⟨kw_464, kw_468, by decide +kernel⟩
theorem cal_X5_indexOf : Cal yX5_indexOf cX5_indexOf 4 (some .int) 2 := ⟨kw_464, kw_469, by decide +kernel⟩
theorem cal_X5_init : Cal yX5_init cX5_init 1 none 0 := ⟨kw_464, kw_470, by decide +kernel⟩
theorem cal_X5_nextCount : Cal yX5_nextCount cX5_nextCount 2 (some .int) 1 := ⟨kw_464, kw_471, by decide +kernel⟩
theorem cal_X5_nextOf : Cal yX5_nextOf cX5_nextOf 3 (some .int) 2 := ⟨kw_464, kw_472, by decide +kernel⟩
theorem cal_X5_remove : Cal yX5_remove cX5_remove 4 none 2 := ⟨kw_464, kw_473, by decide +kernel⟩
theorem cal_X5_size : Cal yX5_size cX5_size 1 (some .int) 0 := ⟨kw_464, kw_474, by decide +kernel⟩
theorem cal_X5_walk : Cal yX5_walk cX5_walk 5 none 0 := ⟨kw_464, kw_475, by decide +kernel⟩
theorem cal_X6_act : Cal yX6_act cX6_act 5 (some .int) 4 := ⟨kw_476, kw_477, by decide +kernel⟩
theorem cal_X6_answer : Cal yX6_answer cX6_answer 1 (some .int) 1 := ⟨kw_476, kw_478, by decide +kernel⟩
theorem cal_X6_begins : Cal yX6_begins cX6_begins 3 (some .int) 2 := ⟨kw_476, kw_479, by decide +kernel⟩
theorem cal_X6_comes : Cal yX6_comes cX6_comes 2 (some .int) 1 := ⟨kw_476, kw_480, by decide +kernel⟩
theorem cal_X6_copy : Cal yX6_copy cX6_copy 4 (some .int) 3 := ⟨kw_476, kw_481, by decide +kernel⟩
theorem cal_X6_count : Cal yX6_count cX6_count 2 (some .int) 1 := ⟨kw_476, kw_482, by decide +kernel⟩
theorem cal_X6_countClashing : Cal yX6_countClashing cX6_countClashing 3 (some .int) 0 := ⟨kw_476, kw_483, by decide +kernel⟩
theorem cal_X6_countInForce : Cal yX6_countInForce cX6_countInForce 3 (some .int) 0 := ⟨kw_476, kw_484, by decide +kernel⟩
theorem cal_X6_countUnheld : Cal yX6_countUnheld cX6_countUnheld 3 (some .int) 0 := ⟨kw_476, kw_485, by decide +kernel⟩
theorem cal_X6_fault : Cal yX6_fault cX6_fault 4 (some .int) 1 := ⟨kw_476, kw_486, by decide +kernel⟩
theorem cal_X6_force : Cal yX6_force cX6_force 3 (some .int) 2 := ⟨kw_476, kw_487, by decide +kernel⟩
theorem cal_X6_forget : Cal yX6_forget cX6_forget 1 none 0 := ⟨kw_476, kw_488, by decide +kernel⟩
theorem cal_X6_held : Cal yX6_held cX6_held 4 (some .int) 3 := ⟨kw_476, kw_489, by decide +kernel⟩
theorem cal_X6_holds : Cal yX6_holds cX6_holds 4 (some .int) 3 := ⟨kw_476, kw_490, by decide +kernel⟩
theorem cal_X6_init : Cal yX6_init cX6_init 1 none 0 := ⟨kw_476, kw_491, by decide +kernel⟩
theorem cal_X6_isLoan : Cal yX6_isLoan cX6_isLoan 2 (some .boolean) 1 := ⟨kw_476, kw_492, by decide +kernel⟩
theorem cal_X6_isPoint : Cal yX6_isPoint cX6_isPoint 1 (some .boolean) 1 := ⟨kw_476, kw_493, by decide +kernel⟩
theorem cal_X6_isSort : Cal yX6_isSort cX6_isSort 2 (some .boolean) 2 := ⟨kw_476, kw_494, by decide +kernel⟩
theorem cal_X6_judge : Cal yX6_judge cX6_judge 1 (some .int) 0 := ⟨kw_476, kw_495, by decide +kernel⟩
theorem cal_X6_knowLeaves : Cal yX6_knowLeaves cX6_knowLeaves 1 none 0 := ⟨kw_476, kw_496, by decide +kernel⟩
theorem cal_X6_knowLoans : Cal yX6_knowLoans cX6_knowLoans 1 none 0 := ⟨kw_476, kw_497, by decide +kernel⟩
theorem cal_X6_knowWays : Cal yX6_knowWays cX6_knowWays 1 none 0 := ⟨kw_476, kw_498, by decide +kernel⟩
theorem cal_X6_leafBit : Cal yX6_leafBit cX6_leafBit 2 (some .long) 2 := ⟨kw_476, kw_499, by decide +kernel⟩
theorem cal_X6_leastClashing : Cal yX6_leastClashing cX6_leastClashing 2 (some .int) 0 := ⟨kw_476, kw_500, by decide +kernel⟩
theorem cal_X6_leastUnheld : Cal yX6_leastUnheld cX6_leastUnheld 2 (some .int) 0 := ⟨kw_476, kw_501, by decide +kernel⟩
theorem cal_X6_lend : Cal yX6_lend cX6_lend 5 (some .int) 4 := ⟨kw_476, kw_502, by decide +kernel⟩
theorem cal_X6_next : Cal yX6_next cX6_next 4 (some .int) 3 := ⟨kw_476, kw_503, by decide +kernel⟩
theorem cal_X6_put : Cal yX6_put cX6_put 6 (some .int) 5 := ⟨kw_476, kw_504, by decide +kernel⟩
theorem cal_X6_used : Cal yX6_used cX6_used 3 (some .int) 2 := ⟨kw_476, kw_505, by decide +kernel⟩
theorem cal_X6_variable : Cal yX6_variable cX6_variable 3 (some .int) 2 := ⟨kw_476, kw_506, by decide +kernel⟩
theorem cal_X7_act : Cal yX7_act cX7_act 5 (some .int) 4 := ⟨kw_507, kw_508, by decide +kernel⟩
theorem cal_X7_become : Cal yX7_become cX7_become 6 none 5 := ⟨kw_507, kw_509, by decide +kernel⟩
theorem cal_X7_begins : Cal yX7_begins cX7_begins 3 (some .int) 2 := ⟨kw_507, kw_510, by decide +kernel⟩
theorem cal_X7_begins_ : Cal yX7_begins_ cX7_begins_ 4 (some .boolean) 2 := ⟨kw_507, kw_511, by decide +kernel⟩
theorem cal_X7_cell : Cal yX7_cell cX7_cell 4 (some .int) 3 := ⟨kw_507, kw_512, by decide +kernel⟩
theorem cal_X7_clashes : Cal yX7_clashes cX7_clashes 6 (some .boolean) 2 := ⟨kw_507, kw_513, by decide +kernel⟩
theorem cal_X7_come : Cal yX7_come cX7_come 4 none 3 := ⟨kw_507, kw_514, by decide +kernel⟩
theorem cal_X7_comes : Cal yX7_comes cX7_comes 2 (some .int) 1 := ⟨kw_507, kw_515, by decide +kernel⟩
theorem cal_X7_copy : Cal yX7_copy cX7_copy 4 (some .int) 3 := ⟨kw_507, kw_516, by decide +kernel⟩
theorem cal_X7_count : Cal yX7_count cX7_count 7 (some .int) 1 := ⟨kw_507, kw_517, by decide +kernel⟩
theorem cal_X7_fault : Cal yX7_fault cX7_fault 2 (some .int) 1 := ⟨kw_507, kw_518, by decide +kernel⟩
theorem cal_X7_force : Cal yX7_force cX7_force 3 (some .int) 2 := ⟨kw_507, kw_519, by decide +kernel⟩
theorem cal_X7_gives : Cal yX7_gives cX7_gives 4 (some .boolean) 3 := ⟨kw_507, kw_520, by decide +kernel⟩
theorem cal_X7_goesThrough : Cal yX7_goesThrough cX7_goesThrough 3 (some .boolean) 2 := ⟨kw_507, kw_521, by decide +kernel⟩
theorem cal_X7_held : Cal yX7_held cX7_held 5 (some .int) 3 := ⟨kw_507, kw_522, by decide +kernel⟩
theorem cal_X7_holds : Cal yX7_holds cX7_holds 4 (some .int) 3 := ⟨kw_507, kw_523, by decide +kernel⟩
theorem cal_X7_in : Cal yX7_in cX7_in 3 (some .boolean) 3 := ⟨kw_507, kw_524, by decide +kernel⟩
theorem cal_X7_init : Cal yX7_init cX7_init 2 none 0 := ⟨kw_507, kw_525, by decide +kernel⟩
theorem cal_X7_isInForce : Cal yX7_isInForce cX7_isInForce 5 (some .boolean) 2 := ⟨kw_507, kw_526, by decide +kernel⟩
theorem cal_X7_isLeafOf : Cal yX7_isLeafOf cX7_isLeafOf 3 (some .boolean) 2 := ⟨kw_507, kw_527, by decide +kernel⟩
theorem cal_X7_isPath : Cal yX7_isPath cX7_isPath 3 (some .boolean) 1 := ⟨kw_507, kw_528, by decide +kernel⟩
theorem cal_X7_isPlace : Cal yX7_isPlace cX7_isPlace 3 (some .boolean) 2 := ⟨kw_507, kw_529, by decide +kernel⟩
theorem cal_X7_isPoint : Cal yX7_isPoint cX7_isPoint 1 (some .boolean) 1 := ⟨kw_507, kw_530, by decide +kernel⟩
theorem cal_X7_isReference : Cal yX7_isReference cX7_isReference 2 (some .boolean) 1 := ⟨kw_507, kw_531, by decide +kernel⟩
theorem cal_X7_isThrough : Cal yX7_isThrough cX7_isThrough 3 (some .boolean) 2 := ⟨kw_507, kw_532, by decide +kernel⟩
theorem cal_X7_isUsed : Cal yX7_isUsed cX7_isUsed 3 (some .boolean) 2 := ⟨kw_507, kw_533, by decide +kernel⟩
theorem cal_X7_isVariable : Cal yX7_isVariable cX7_isVariable 2 (some .boolean) 1 := ⟨kw_507, kw_534, by decide +kernel⟩
theorem cal_X7_isWithin : Cal yX7_isWithin cX7_isWithin 3 (some .boolean) 2 := ⟨kw_507, kw_535, by decide +kernel⟩
theorem cal_X7_judge : Cal yX7_judge cX7_judge 1 (some .int) 0 := ⟨kw_507, kw_536, by decide +kernel⟩
theorem cal_X7_lackedBy : Cal yX7_lackedBy cX7_lackedBy 3 (some .int) 1 := ⟨kw_507, kw_537, by decide +kernel⟩
theorem cal_X7_lend : Cal yX7_lend cX7_lend 7 (some .int) 4 := ⟨kw_507, kw_538, by decide +kernel⟩
theorem cal_X7_look : Cal yX7_look cX7_look 4 none 1 := ⟨kw_507, kw_539, by decide +kernel⟩
theorem cal_X7_makesLoan : Cal yX7_makesLoan cX7_makesLoan 2 (some .boolean) 1 := ⟨kw_507, kw_540, by decide +kernel⟩
theorem cal_X7_next : Cal yX7_next cX7_next 7 (some .int) 3 := ⟨kw_507, kw_541, by decide +kernel⟩
theorem cal_X7_renewed : Cal yX7_renewed cX7_renewed 2 (some .int) 1 := ⟨kw_507, kw_542, by decide +kernel⟩
theorem cal_X7_renews : Cal yX7_renews cX7_renews 3 (some .boolean) 2 := ⟨kw_507, kw_543, by decide +kernel⟩
theorem cal_X7_spread : Cal yX7_spread cX7_spread 7 none 3 := ⟨kw_507, kw_544, by decide +kernel⟩
theorem cal_X7_taker : Cal yX7_taker cX7_taker 7 (some .int) 1 := ⟨kw_507, kw_545, by decide +kernel⟩
theorem cal_X7_takes : Cal yX7_takes cX7_takes 4 (some .boolean) 3 := ⟨kw_507, kw_546, by decide +kernel⟩
theorem cal_X7_used : Cal yX7_used cX7_used 3 (some .int) 2 := ⟨kw_507, kw_547, by decide +kernel⟩
theorem cal_X7_uses : Cal yX7_uses cX7_uses 3 (some .boolean) 2 := ⟨kw_507, kw_548, by decide +kernel⟩
theorem cal_X7_variable : Cal yX7_variable cX7_variable 3 (some .int) 2 := ⟨kw_507, kw_549, by decide +kernel⟩
theorem cal_X7_walkLeaf : Cal yX7_walkLeaf cX7_walkLeaf 8 none 4 := ⟨kw_507, kw_550, by decide +kernel⟩
theorem cal_X7_walkLoan : Cal yX7_walkLoan cX7_walkLoan 8 none 1 := ⟨kw_507, kw_551, by decide +kernel⟩
theorem cal_X7_walkUses : Cal yX7_walkUses cX7_walkUses 6 none 1 := ⟨kw_507, kw_552, by decide +kernel⟩
theorem cal_X7_walkWays : Cal yX7_walkWays cX7_walkWays 3 none 0 := ⟨kw_507, kw_553, by decide +kernel⟩
theorem cal_X7_wants : Cal yX7_wants cX7_wants 4 (some .boolean) 2 := ⟨kw_507, kw_554, by decide +kernel⟩
theorem cal_X7_workOut : Cal yX7_workOut cX7_workOut 3 none 0 := ⟨kw_507, kw_555, by decide +kernel⟩
theorem in_X0 : ∀ w ∈ u_ws RX0 TX0 11, w ∈ gt := fun w hw => gt_m ((by decide +kernel : ∀ w ∈ u_ws RX0 TX0 11, w ∈ lw_tbl) w hw) ((by decide +kernel : ∀ w ∈ u_ws RX0 TX0 11, goodWord w = true) w hw)
theorem in_X1 : ∀ w ∈ u_ws RX1 TX1 5, w ∈ gt := fun w hw => gt_m ((by decide +kernel : ∀ w ∈ u_ws RX1 TX1 5, w ∈ lw_tbl) w hw) ((by decide +kernel : ∀ w ∈ u_ws RX1 TX1 5, goodWord w = true) w hw)
theorem in_X2 : ∀ w ∈ u_ws RX2 TX2 11, w ∈ gt := fun w hw => gt_m ((by decide +kernel : ∀ w ∈ u_ws RX2 TX2 11, w ∈ lw_tbl) w hw) ((by decide +kernel : ∀ w ∈ u_ws RX2 TX2 11, goodWord w = true) w hw)
theorem in_X4 : ∀ w ∈ u_ws RX4 TX4 4, w ∈ gt := fun w hw => gt_m ((by decide +kernel : ∀ w ∈ u_ws RX4 TX4 4, w ∈ lw_tbl) w hw) ((by decide +kernel : ∀ w ∈ u_ws RX4 TX4 4, goodWord w = true) w hw)
theorem in_X5 : ∀ w ∈ u_ws RX5 TX5 6, w ∈ gt := fun w hw => gt_m ((by decide +kernel : ∀ w ∈ u_ws RX5 TX5 6, w ∈ lw_tbl) w hw) ((by decide +kernel : ∀ w ∈ u_ws RX5 TX5 6, goodWord w = true) w hw)
theorem in_X6 : ∀ w ∈ u_ws RX6 TX6 8, w ∈ gt := fun w hw => gt_m ((by decide +kernel : ∀ w ∈ u_ws RX6 TX6 8, w ∈ lw_tbl) w hw) ((by decide +kernel : ∀ w ∈ u_ws RX6 TX6 8, goodWord w = true) w hw)
theorem in_X7 : ∀ w ∈ u_ws RX7 TX7 25, w ∈ gt := fun w hw => gt_m ((by decide +kernel : ∀ w ∈ u_ws RX7 TX7 25, w ∈ lw_tbl) w hw) ((by decide +kernel : ∀ w ∈ u_ws RX7 TX7 25, goodWord w = true) w hw)
theorem sw_6 {x : Int32} (h : ¬ (x.toInt < 0 ∨ 5 < x.toInt)) : x = 0 ∨ x = 1 ∨ x = 2 ∨ x = 3 ∨ x = 4 ∨ x = 5 := by
  have h1 : ∀ k : Int32, x.toInt = k.toInt → x = k := fun k hk => Int32.toInt_inj.mp hk
  have h2 : x.toInt = 0 ∨ x.toInt = 1 ∨ x.toInt = 2 ∨ x.toInt = 3 ∨ x.toInt = 4 ∨ x.toInt = 5 := by omega
  rcases h2 with h2 | h2 | h2 | h2 | h2 | h2
  · exact Or.inl (h1 0 (h2.trans (by decide)))
  · exact Or.inr (Or.inl (h1 1 (h2.trans (by decide))))
  · exact Or.inr (Or.inr (Or.inl (h1 2 (h2.trans (by decide)))))
  · exact Or.inr (Or.inr (Or.inr (Or.inl (h1 3 (h2.trans (by decide))))))
  · exact Or.inr (Or.inr (Or.inr (Or.inr (Or.inl (h1 4 (h2.trans (by decide)))))))
  · exact Or.inr (Or.inr (Or.inr (Or.inr (Or.inr ((h1 5 (h2.trans (by decide))))))))
theorem sw_14 {x : Int32} (h : ¬ (x.toInt < 0 ∨ 13 < x.toInt)) : x = 0 ∨ x = 1 ∨ x = 2 ∨ x = 3 ∨ x = 4 ∨ x = 5 ∨ x = 6 ∨ x = 7 ∨ x = 8 ∨ x = 9 ∨ x = 10 ∨ x = 11 ∨ x = 12 ∨ x = 13 := by
  have h1 : ∀ k : Int32, x.toInt = k.toInt → x = k := fun k hk => Int32.toInt_inj.mp hk
  have h2 : x.toInt = 0 ∨ x.toInt = 1 ∨ x.toInt = 2 ∨ x.toInt = 3 ∨ x.toInt = 4 ∨ x.toInt = 5 ∨ x.toInt = 6 ∨ x.toInt = 7 ∨ x.toInt = 8 ∨ x.toInt = 9 ∨ x.toInt = 10 ∨ x.toInt = 11 ∨ x.toInt = 12 ∨ x.toInt = 13 := by omega
  rcases h2 with h2 | h2 | h2 | h2 | h2 | h2 | h2 | h2 | h2 | h2 | h2 | h2 | h2 | h2
  · exact Or.inl (h1 0 (h2.trans (by decide)))
  · exact Or.inr (Or.inl (h1 1 (h2.trans (by decide))))
  · exact Or.inr (Or.inr (Or.inl (h1 2 (h2.trans (by decide)))))
  · exact Or.inr (Or.inr (Or.inr (Or.inl (h1 3 (h2.trans (by decide))))))
  · exact Or.inr (Or.inr (Or.inr (Or.inr (Or.inl (h1 4 (h2.trans (by decide)))))))
  · exact Or.inr (Or.inr (Or.inr (Or.inr (Or.inr (Or.inl (h1 5 (h2.trans (by decide))))))))
  · exact Or.inr (Or.inr (Or.inr (Or.inr (Or.inr (Or.inr (Or.inl (h1 6 (h2.trans (by decide)))))))))
  · exact Or.inr (Or.inr (Or.inr (Or.inr (Or.inr (Or.inr (Or.inr (Or.inl (h1 7 (h2.trans (by decide))))))))))
  · exact Or.inr (Or.inr (Or.inr (Or.inr (Or.inr (Or.inr (Or.inr (Or.inr (Or.inl (h1 8 (h2.trans (by decide)))))))))))
  · exact Or.inr (Or.inr (Or.inr (Or.inr (Or.inr (Or.inr (Or.inr (Or.inr (Or.inr (Or.inl (h1 9 (h2.trans (by decide))))))))))))
  · exact Or.inr (Or.inr (Or.inr (Or.inr (Or.inr (Or.inr (Or.inr (Or.inr (Or.inr (Or.inr (Or.inl (h1 10 (h2.trans (by decide)))))))))))))
  · exact Or.inr (Or.inr (Or.inr (Or.inr (Or.inr (Or.inr (Or.inr (Or.inr (Or.inr (Or.inr (Or.inr (Or.inl (h1 11 (h2.trans (by decide))))))))))))))
  · exact Or.inr (Or.inr (Or.inr (Or.inr (Or.inr (Or.inr (Or.inr (Or.inr (Or.inr (Or.inr (Or.inr (Or.inr (Or.inl (h1 12 (h2.trans (by decide)))))))))))))))
  · exact Or.inr (Or.inr (Or.inr (Or.inr (Or.inr (Or.inr (Or.inr (Or.inr (Or.inr (Or.inr (Or.inr (Or.inr (Or.inr ((h1 13 (h2.trans (by decide))))))))))))))))
