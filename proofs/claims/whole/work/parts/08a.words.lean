theorem tbv {w : Cond} (h : w ∈ lw_tbl) (g : goodWord w = true) : w ∈ TB := List.mem_filter.mpr ⟨h, g⟩
theorem tt1 {w : Cond} (h : w ∈ tables_1_1) : w ∈ lw_tbl := List.mem_append_right _ (List.mem_append_left _ h)
theorem tt2 {w : Cond} (h : w ∈ tables_1_2) : w ∈ lw_tbl := List.mem_append_right _ (List.mem_append_right _ (List.mem_append_left _ h))
theorem tt3 {w : Cond} (h : w ∈ tables_1_3) : w ∈ lw_tbl := List.mem_append_right _ (List.mem_append_right _ (List.mem_append_right _ (List.mem_append_left _ h)))
theorem tt4 {w : Cond} (h : w ∈ tables_1_4) : w ∈ lw_tbl := List.mem_append_right _ (List.mem_append_right _ (List.mem_append_right _ (List.mem_append_right _ (List.mem_append_left _ h))))
theorem tt5 {w : Cond} (h : w ∈ tables_1_5) : w ∈ lw_tbl := List.mem_append_right _ (List.mem_append_right _ (List.mem_append_right _ (List.mem_append_right _ (List.mem_append_right _ (List.mem_append_left _ h)))))
theorem tt6 {w : Cond} (h : w ∈ tables_1_6) : w ∈ lw_tbl := List.mem_append_right _ (List.mem_append_right _ (List.mem_append_right _ (List.mem_append_right _ (List.mem_append_right _ (List.mem_append_right _ (List.mem_append_left _ h))))))
theorem tt7 {w : Cond} (h : w ∈ tables_1_7) : w ∈ lw_tbl := List.mem_append_right _ (List.mem_append_right _ (List.mem_append_right _ (List.mem_append_right _ (List.mem_append_right _ (List.mem_append_right _ (List.mem_append_right _ (h)))))))
theorem q_0 : Cond.selects RX9 yX9_putBytes yX9_putBytes ∈ TB := tbw _ 0 (by decide +kernel) rfl
theorem q_1 : Cond.selects RX9 yX9_refused yX9_refused ∈ TB := tbw _ 1 (by decide +kernel) rfl
theorem q_2 : Cond.selects RX7 yX7_scanToken yX7_scanToken ∈ TB := tbw _ 2 (by decide +kernel) rfl
theorem q_3 : Cond.selects RX7 yX7_isLetter yX7_isLetter ∈ TB := tbw _ 3 (by decide +kernel) rfl
theorem q_4 : Cond.selects RX7 yX7_scanWord yX7_scanWord ∈ TB := tbw _ 4 (by decide +kernel) rfl
theorem q_5 : Cond.selects RX7 yX7_isSpelled yX7_isSpelled ∈ TB := tbw _ 5 (by decide +kernel) rfl
theorem q_6 : Cond.selects RX7 yX7_isDigit yX7_isDigit ∈ TB := tbw _ 6 (by decide +kernel) rfl
theorem q_7 : Cond.selects RX7 yX7_scanWhole yX7_scanWhole ∈ TB := tbw _ 7 (by decide +kernel) rfl
theorem q_8 : Cond.selects RX6 yX6_readLine yX6_readLine ∈ TB := tbw _ 8 (by decide +kernel) rfl
theorem q_9 : Cond.selects RX6 yX6_isSort yX6_isSort ∈ TB := tbw _ 9 (by decide +kernel) rfl
theorem q_10 : Cond.selects RX6 yX6_blame yX6_blame ∈ TB := tbw _ 10 (by decide +kernel) rfl
theorem q_11 : Cond.selects RX6 yX6_readWare yX6_readWare ∈ TB := tbw _ 11 (by decide +kernel) rfl
theorem q_12 : Cond.selects RX6 yX6_step yX6_step ∈ TB := tbw _ 12 (by decide +kernel) rfl
theorem q_13 : Cond.selects RX6 yX6_readNewName yX6_readNewName ∈ TB := tbw _ 13 (by decide +kernel) rfl
theorem q_14 : Cond.selects RX6 yX6_isWord yX6_isWord ∈ TB := tbw _ 14 (by decide +kernel) rfl
theorem q_15 : Cond.selects RX6 yX6_placeOfName yX6_placeOfName ∈ TB := tbw _ 15 (by decide +kernel) rfl
theorem q_16 : Cond.selects RX6 yX6_isNameIn yX6_isNameIn ∈ TB := tbw _ 16 (by decide +kernel) rfl
theorem q_17 : Cond.selects RX6 yX6_readBench yX6_readBench ∈ TB := tbw _ 17 (by decide +kernel) rfl
theorem q_18 : Cond.selects RX6 yX6_readTimes yX6_readTimes ∈ TB := tbw _ 18 (by decide +kernel) rfl
theorem q_19 : Cond.selects RX6 yX6_readWhole yX6_readWhole ∈ TB := tbw _ 19 (by decide +kernel) rfl
theorem q_20 : Cond.selects RX6 yX6_readSetup yX6_readSetup ∈ TB := tbw _ 20 (by decide +kernel) rfl
theorem q_21 : Cond.selects RX6 yX6_readRest yX6_readRest ∈ TB := tbw _ 21 (by decide +kernel) rfl
theorem q_22 : Cond.selects RX6 yX6_readWord yX6_readWord ∈ TB := tbw _ 22 (by decide +kernel) rfl
theorem q_23 : Cond.selects RX6 yX6_readCards yX6_readCards ∈ TB := tbw _ 23 (by decide +kernel) rfl
theorem q_24 : Cond.selects RX6 yX6_readOldName yX6_readOldName ∈ TB := tbw _ 24 (by decide +kernel) rfl
theorem q_25 : Cond.selects RX6 yX6_readOrder yX6_readOrder ∈ TB := tbw _ 25 (by decide +kernel) rfl
theorem q_26 : Cond.selects RX6 yX6_readRule yX6_readRule ∈ TB := tbw _ 26 (by decide +kernel) rfl
theorem q_27 : Cond.selects RX3 yX3_raisePeaks yX3_raisePeaks ∈ TB := tbw _ 27 (by decide +kernel) rfl
theorem q_28 : Cond.selects RX3 yX3_waresIn yX3_waresIn ∈ TB := tbw _ 28 (by decide +kernel) rfl
theorem q_29 : Cond.selects RX9 yX9_forget yX9_forget ∈ TB := tbw _ 29 (by decide +kernel) rfl
theorem q_30 : Cond.selects RX9 yX9_granted yX9_granted ∈ TB := tbw _ 30 (by decide +kernel) rfl
theorem q_31 : Cond.selects RX9 yX9_isBench yX9_isBench ∈ TB := tbw _ 31 (by decide +kernel) rfl
theorem q_32 : Cond.selects RX9 yX9_isKind yX9_isKind ∈ TB := tbw _ 32 (by decide +kernel) rfl
theorem q_33 : Cond.selects RX3 yX3_ageOrders yX3_ageOrders ∈ TB := tbw _ 33 (by decide +kernel) rfl
theorem q_34 : Cond.selects RX3 yX3_endAt yX3_endAt ∈ TB := tbw _ 34 (by decide +kernel) rfl
theorem q_35 : Cond.selects RX3 yX3_takeOrder yX3_takeOrder ∈ TB := tbw _ 35 (by decide +kernel) rfl
theorem q_36 : Cond.selects RX3 yX3_deliver yX3_deliver ∈ TB := tbw _ 36 (by decide +kernel) rfl
theorem q_37 : Cond.selects RX3 yX3_chosen yX3_chosen ∈ TB := tbw _ 37 (by decide +kernel) rfl
theorem q_38 : Cond.selects RX3 yX3_freeIfCan yX3_freeIfCan ∈ TB := tbw _ 38 (by decide +kernel) rfl
theorem q_39 : Cond.selects RX3 yX3_beginAt yX3_beginAt ∈ TB := tbw _ 39 (by decide +kernel) rfl
theorem q_40 : Cond.selects RX3 yX3_tallyMinute yX3_tallyMinute ∈ TB := tbw _ 40 (by decide +kernel) rfl
theorem q_41 : Cond.selects RX3 yX3_sortOf yX3_sortOf ∈ TB := tbw _ 41 (by decide +kernel) rfl
theorem q_42 : Cond.selects RX9 yX9_refusesPaper yX9_refusesPaper ∈ TB := tbw _ 42 (by decide +kernel) rfl
theorem q_43 : Cond.selects RX4 yX4_tried yX4_tried ∈ TB := tbw _ 43 (by decide +kernel) rfl
theorem q_44 : Cond.selects RX3 yX3_nextChange yX3_nextChange ∈ TB := tbw _ 44 (by decide +kernel) rfl
theorem q_45 : Cond.selects RX3 yX3_nextOrder yX3_nextOrder ∈ TB := tbw _ 45 (by decide +kernel) rfl
theorem q_46 : Cond.selects RX3 yX3_signOfBench yX3_signOfBench ∈ TB := tbw _ 46 (by decide +kernel) rfl
theorem q_47 : Cond.selects RX8 yX8_bucketOf yX8_bucketOf ∈ TB := tbw _ 47 (by decide +kernel) rfl
theorem q_48 : Cond.selects RX8 yX8_isAlike yX8_isAlike ∈ TB := tbw _ 48 (by decide +kernel) rfl
theorem q_50 : Cond.selects RX10 yX10_refused yX10_refused ∈ TB := tbw _ 50 (by decide +kernel) rfl
theorem q_51 : Cond.selects RX10 yX10_goOn yX10_goOn ∈ TB := tbw _ 51 (by decide +kernel) rfl
theorem q_52 : Cond.selects RX10 yX10_isLetterAt yX10_isLetterAt ∈ TB := tbw _ 52 (by decide +kernel) rfl
theorem q_53 : Cond.selects RX10 yX10_isDigitAt yX10_isDigitAt ∈ TB := tbw _ 53 (by decide +kernel) rfl
theorem q_54 : Cond.selects RX10 yX10_readLine yX10_readLine ∈ TB := tbw _ 54 (by decide +kernel) rfl
theorem q_55 : Cond.selects RX10 yX10_isWord yX10_isWord ∈ TB := tbw _ 55 (by decide +kernel) rfl
theorem q_56 : Cond.selects RX10 yX10_readWare yX10_readWare ∈ TB := tbw _ 56 (by decide +kernel) rfl
theorem q_57 : Cond.selects RX10 yX10_flaw yX10_flaw ∈ TB := tbw _ 57 (by decide +kernel) rfl
theorem q_58 : Cond.selects RX10 yX10_readNew yX10_readNew ∈ TB := tbw _ 58 (by decide +kernel) rfl
theorem q_59 : Cond.selects RX10 yX10_isOwn yX10_isOwn ∈ TB := tbw _ 59 (by decide +kernel) rfl
theorem q_60 : Cond.selects RX10 yX10_kindOf yX10_kindOf ∈ TB := tbw _ 60 (by decide +kernel) rfl
theorem q_61 : Cond.selects RX10 yX10_benchOf yX10_benchOf ∈ TB := tbw _ 61 (by decide +kernel) rfl
theorem q_62 : Cond.selects RX10 yX10_readBench yX10_readBench ∈ TB := tbw _ 62 (by decide +kernel) rfl
theorem q_63 : Cond.selects RX10 yX10_isSign yX10_isSign ∈ TB := tbw _ 63 (by decide +kernel) rfl
theorem q_64 : Cond.selects RX10 yX10_readWhole yX10_readWhole ∈ TB := tbw _ 64 (by decide +kernel) rfl
theorem q_65 : Cond.selects RX10 yX10_passes yX10_passes ∈ TB := tbw _ 65 (by decide +kernel) rfl
theorem q_66 : Cond.selects RX10 yX10_needs yX10_needs ∈ TB := tbw _ 66 (by decide +kernel) rfl
theorem q_67 : Cond.selects RX10 yX10_readCards yX10_readCards ∈ TB := tbw _ 67 (by decide +kernel) rfl
theorem q_68 : Cond.selects RX10 yX10_readTold yX10_readTold ∈ TB := tbw _ 68 (by decide +kernel) rfl
theorem q_69 : Cond.selects RX10 yX10_readOrder yX10_readOrder ∈ TB := tbw _ 69 (by decide +kernel) rfl
theorem q_70 : Cond.selects RX10 yX10_readRule yX10_readRule ∈ TB := tbw _ 70 (by decide +kernel) rfl
theorem q_71 : Cond.selects RX10 yX10_becomes yX10_becomes ∈ TB := tbw _ 71 (by decide +kernel) rfl
theorem q_72 : Cond.selects RX10 yX10_begins yX10_begins ∈ TB := tbw _ 72 (by decide +kernel) rfl
theorem q_73 : Cond.selects RX10 yX10_good yX10_good ∈ TB := tbw _ 73 (by decide +kernel) rfl
theorem q_74 : Cond.selects RX10 yX10_toldCards yX10_toldCards ∈ TB := tbw _ 74 (by decide +kernel) rfl
theorem q_75 : Cond.selects RX10 yX10_heldCards yX10_heldCards ∈ TB := tbw _ 75 (by decide +kernel) rfl
theorem q_76 : Cond.selects RX10 yX10_atWork yX10_atWork ∈ TB := tbw _ 76 (by decide +kernel) rfl
theorem q_77 : Cond.selects RX10 yX10_isBench yX10_isBench ∈ TB := tbw _ 77 (by decide +kernel) rfl
theorem q_78 : Cond.selects RX10 yX10_isKind yX10_isKind ∈ TB := tbw _ 78 (by decide +kernel) rfl
theorem q_79 : Cond.selects RX10 yX10_free yX10_free ∈ TB := tbw _ 79 (by decide +kernel) rfl
theorem q_80 : Cond.selects RX10 yX10_granted yX10_granted ∈ TB := tbw _ 80 (by decide +kernel) rfl
theorem q_81 : Cond.selects RX10 yX10_peaks yX10_peaks ∈ TB := tbw _ 81 (by decide +kernel) rfl
theorem q_82 : Cond.selects RX10 yX10_delivered yX10_delivered ∈ TB := tbw _ 82 (by decide +kernel) rfl
theorem q_83 : Cond.selects RX10 yX10_minute yX10_minute ∈ TB := tbw _ 83 (by decide +kernel) rfl
theorem q_84 : Cond.selects RX10 yX10_ends yX10_ends ∈ TB := tbw _ 84 (by decide +kernel) rfl
theorem q_85 : Cond.selects RX10 yX10_serves yX10_serves ∈ TB := tbw _ 85 (by decide +kernel) rfl
theorem q_86 : Cond.selects RX10 yX10_comeIn yX10_comeIn ∈ TB := tbw _ 86 (by decide +kernel) rfl
theorem q_87 : Cond.selects RX10 yX10_starts yX10_starts ∈ TB := tbw _ 87 (by decide +kernel) rfl
theorem q_88 : Cond.selects RX10 yX10_chosen yX10_chosen ∈ TB := tbw _ 88 (by decide +kernel) rfl
theorem q_89 : Cond.selects RX10 yX10_can yX10_can ∈ TB := tbw _ 89 (by decide +kernel) rfl
theorem q_90 : Cond.selects RX10 yX10_tallies yX10_tallies ∈ TB := tbw _ 90 (by decide +kernel) rfl
theorem q_91 : Cond.selects RX10 yX10_waits yX10_waits ∈ TB := tbw _ 91 (by decide +kernel) rfl
theorem q_92 : Cond.selects RX10 yX10_waited yX10_waited ∈ TB := tbw _ 92 (by decide +kernel) rfl
theorem q_93 : Cond.selects RX10 yX10_yieldNow yX10_yieldNow ∈ TB := tbw _ 93 (by decide +kernel) rfl
theorem q_94 : Cond.selects RX10 yX10_papers yX10_papers ∈ TB := tbw _ 94 (by decide +kernel) rfl
theorem q_95 : Cond.selects RX10 yX10_yieldOf yX10_yieldOf ∈ TB := tbw _ 95 (by decide +kernel) rfl
theorem q_96 : Cond.selects RX10 yX10_takesOut yX10_takesOut ∈ TB := tbw _ 96 (by decide +kernel) rfl
theorem q_97 : Cond.selects RX10 yX10_laysStand yX10_laysStand ∈ TB := tbw _ 97 (by decide +kernel) rfl
theorem q_98 : Cond.selects RX10 yX10_areAlike yX10_areAlike ∈ TB := tbw _ 98 (by decide +kernel) rfl
theorem q_99 : Cond.selects RX10 yX10_changes yX10_changes ∈ TB := tbw _ 99 (by decide +kernel) rfl
theorem q_100 : Cond.selects RX10 yX10_remembers yX10_remembers ∈ TB := tbw _ 100 (by decide +kernel) rfl
theorem q_102 : Cond.initialized RX9 ∈ TB := tbv (tt1 (List.mem_of_getElem? (i := 1) (by decide +kernel))) rfl
theorem q_103 : Cond.initialized RX5 ∈ TB := tbv (tt1 (List.mem_of_getElem? (i := 2) (by decide +kernel))) rfl
theorem q_104 : Cond.initialized RX2 ∈ TB := tbv (tt1 (List.mem_of_getElem? (i := 3) (by decide +kernel))) rfl
theorem q_105 : Cond.initialized RX6 ∈ TB := tbv (tt1 (List.mem_of_getElem? (i := 4) (by decide +kernel))) rfl
theorem q_106 : Cond.initialized RX7 ∈ TB := tbv (tt1 (List.mem_of_getElem? (i := 5) (by decide +kernel))) rfl
theorem q_107 : Cond.initialized RX3 ∈ TB := tbv (tt1 (List.mem_of_getElem? (i := 6) (by decide +kernel))) rfl
theorem q_108 : Cond.initialized RX4 ∈ TB := tbv (tt1 (List.mem_of_getElem? (i := 7) (by decide +kernel))) rfl
theorem q_109 : Cond.initialized RX0 ∈ TB := tbv (tt1 (List.mem_of_getElem? (i := 8) (by decide +kernel))) rfl
theorem q_111 : Cond.initialized RX10 ∈ TB := tbv (tt1 (List.mem_of_getElem? (i := 10) (by decide +kernel))) rfl
theorem q_112 : Cond.initialized "java/lang/Math" ∈ TB := tbv (tt1 (List.mem_of_getElem? (i := 11) (by decide +kernel))) rfl
theorem q_117 : Cond.initialized "java/util/Arrays" ∈ TB := tbv (tt1 (List.mem_of_getElem? (i := 16) (by decide +kernel))) rfl
theorem q_118 : Cond.initialized "java/lang/System" ∈ TB := tbv (tt1 (List.mem_of_getElem? (i := 17) (by decide +kernel))) rfl
theorem q_119 : Cond.initialized RX8 ∈ TB := tbv (tt1 (List.mem_of_getElem? (i := 18) (by decide +kernel))) rfl
theorem q_144 : Cond.fieldLink RX2 9 "PullCards$Levers" "cards" "[I" ∈ TB := tbv (tt1 (List.mem_of_getElem? (i := 43) (by decide +kernel))) rfl
theorem q_145 : Cond.fieldLink RX3 62 "PullCards$Levers" "cards" "[I" ∈ TB := tbv (tt1 (List.mem_of_getElem? (i := 44) (by decide +kernel))) rfl
theorem q_146 : Cond.fieldLink RX4 54 "PullCards$Levers" "cards" "[I" ∈ TB := tbv (tt1 (List.mem_of_getElem? (i := 45) (by decide +kernel))) rfl
theorem q_147 : Cond.fieldLink RX6 115 "PullCards$Levers" "cards" "[I" ∈ TB := tbv (tt1 (List.mem_of_getElem? (i := 46) (by decide +kernel))) rfl
theorem q_148 : Cond.fieldLink RX9 186 "PullCards$Levers" "cards" "[I" ∈ TB := tbv (tt1 (List.mem_of_getElem? (i := 47) (by decide +kernel))) rfl
theorem q_149 : Cond.fieldLink RX2 15 "PullCards$Levers" "times" "[I" ∈ TB := tbv (tt1 (List.mem_of_getElem? (i := 48) (by decide +kernel))) rfl
theorem q_150 : Cond.fieldLink RX6 107 "PullCards$Levers" "times" "[I" ∈ TB := tbv (tt1 (List.mem_of_getElem? (i := 49) (by decide +kernel))) rfl
theorem q_151 : Cond.fieldLink RX4 77 "PullCards$Levers" "times" "[I" ∈ TB := tbv (tt1 (List.mem_of_getElem? (i := 50) (by decide +kernel))) rfl
theorem q_152 : Cond.fieldLink RX9 170 "PullCards$Levers" "times" "[I" ∈ TB := tbv (tt1 (List.mem_of_getElem? (i := 51) (by decide +kernel))) rfl
theorem q_153 : Cond.fieldLink RX3 163 "PullCards$Levers" "times" "[I" ∈ TB := tbv (tt1 (List.mem_of_getElem? (i := 52) (by decide +kernel))) rfl
theorem q_154 : Cond.fieldLink RX2 24 "PullCards$Levers" "rule" "I" ∈ TB := tbv (tt1 (List.mem_of_getElem? (i := 53) (by decide +kernel))) rfl
theorem q_155 : Cond.fieldLink RX9 138 "PullCards$Levers" "rule" "I" ∈ TB := tbv (tt1 (List.mem_of_getElem? (i := 54) (by decide +kernel))) rfl
theorem q_156 : Cond.fieldLink RX6 148 "PullCards$Levers" "rule" "I" ∈ TB := tbv (tt1 (List.mem_of_getElem? (i := 55) (by decide +kernel))) rfl
theorem q_157 : Cond.fieldLink RX3 169 "PullCards$Levers" "rule" "I" ∈ TB := tbv (tt1 (List.mem_of_getElem? (i := 56) (by decide +kernel))) rfl
theorem q_167 : Cond.fieldLink RX5 43 "PullCards$Plan" "kinds" "I" ∈ TB := tbv (tt1 (List.mem_of_getElem? (i := 66) (by decide +kernel))) rfl
theorem q_168 : Cond.fieldLink RX6 53 "PullCards$Plan" "kinds" "I" ∈ TB := tbv (tt1 (List.mem_of_getElem? (i := 67) (by decide +kernel))) rfl
theorem q_169 : Cond.fieldLink RX4 63 "PullCards$Plan" "kinds" "I" ∈ TB := tbv (tt1 (List.mem_of_getElem? (i := 68) (by decide +kernel))) rfl
theorem q_170 : Cond.fieldLink RX3 138 "PullCards$Plan" "kinds" "I" ∈ TB := tbv (tt1 (List.mem_of_getElem? (i := 69) (by decide +kernel))) rfl
theorem q_171 : Cond.fieldLink RX9 132 "PullCards$Plan" "kinds" "I" ∈ TB := tbv (tt1 (List.mem_of_getElem? (i := 70) (by decide +kernel))) rfl
theorem q_172 : Cond.fieldLink RX5 47 "PullCards$Plan" "benches" "I" ∈ TB := tbv (tt1 (List.mem_of_getElem? (i := 71) (by decide +kernel))) rfl
theorem q_173 : Cond.fieldLink RX6 56 "PullCards$Plan" "benches" "I" ∈ TB := tbv (tt1 (List.mem_of_getElem? (i := 72) (by decide +kernel))) rfl
theorem q_174 : Cond.fieldLink RX9 113 "PullCards$Plan" "benches" "I" ∈ TB := tbv (tt1 (List.mem_of_getElem? (i := 73) (by decide +kernel))) rfl
theorem q_175 : Cond.fieldLink RX4 58 "PullCards$Plan" "benches" "I" ∈ TB := tbv (tt1 (List.mem_of_getElem? (i := 74) (by decide +kernel))) rfl
theorem q_176 : Cond.fieldLink RX3 102 "PullCards$Plan" "benches" "I" ∈ TB := tbv (tt1 (List.mem_of_getElem? (i := 75) (by decide +kernel))) rfl
theorem q_177 : Cond.fieldLink RX5 50 "PullCards$Plan" "streams" "I" ∈ TB := tbv (tt1 (List.mem_of_getElem? (i := 76) (by decide +kernel))) rfl
theorem q_178 : Cond.fieldLink RX3 107 "PullCards$Plan" "streams" "I" ∈ TB := tbv (tt1 (List.mem_of_getElem? (i := 77) (by decide +kernel))) rfl
theorem q_179 : Cond.fieldLink RX9 135 "PullCards$Plan" "streams" "I" ∈ TB := tbv (tt1 (List.mem_of_getElem? (i := 78) (by decide +kernel))) rfl
theorem q_180 : Cond.fieldLink RX6 136 "PullCards$Plan" "streams" "I" ∈ TB := tbv (tt1 (List.mem_of_getElem? (i := 79) (by decide +kernel))) rfl
theorem q_181 : Cond.fieldLink RX5 9 "PullCards$Plan" "setup" "[I" ∈ TB := tbv (tt1 (List.mem_of_getElem? (i := 80) (by decide +kernel))) rfl
theorem q_182 : Cond.fieldLink RX6 121 "PullCards$Plan" "setup" "[I" ∈ TB := tbv (tt1 (List.mem_of_getElem? (i := 81) (by decide +kernel))) rfl
theorem q_183 : Cond.fieldLink RX9 154 "PullCards$Plan" "setup" "[I" ∈ TB := tbv (tt1 (List.mem_of_getElem? (i := 82) (by decide +kernel))) rfl
theorem q_184 : Cond.fieldLink RX3 166 "PullCards$Plan" "setup" "[I" ∈ TB := tbv (tt1 (List.mem_of_getElem? (i := 83) (by decide +kernel))) rfl
theorem q_185 : Cond.fieldLink RX5 15 "PullCards$Plan" "rest" "[I" ∈ TB := tbv (tt1 (List.mem_of_getElem? (i := 84) (by decide +kernel))) rfl
theorem q_186 : Cond.fieldLink RX6 127 "PullCards$Plan" "rest" "[I" ∈ TB := tbv (tt1 (List.mem_of_getElem? (i := 85) (by decide +kernel))) rfl
theorem q_187 : Cond.fieldLink RX3 157 "PullCards$Plan" "rest" "[I" ∈ TB := tbv (tt1 (List.mem_of_getElem? (i := 86) (by decide +kernel))) rfl
theorem q_188 : Cond.fieldLink RX9 158 "PullCards$Plan" "rest" "[I" ∈ TB := tbv (tt1 (List.mem_of_getElem? (i := 87) (by decide +kernel))) rfl
theorem q_189 : Cond.fieldLink RX5 18 "PullCards$Plan" "every" "[I" ∈ TB := tbv (tt1 (List.mem_of_getElem? (i := 88) (by decide +kernel))) rfl
theorem q_190 : Cond.fieldLink RX6 130 "PullCards$Plan" "every" "[I" ∈ TB := tbv (tt1 (List.mem_of_getElem? (i := 89) (by decide +kernel))) rfl
theorem q_191 : Cond.fieldLink RX3 154 "PullCards$Plan" "every" "[I" ∈ TB := tbv (tt1 (List.mem_of_getElem? (i := 90) (by decide +kernel))) rfl
theorem q_192 : Cond.fieldLink RX9 161 "PullCards$Plan" "every" "[I" ∈ TB := tbv (tt1 (List.mem_of_getElem? (i := 91) (by decide +kernel))) rfl
theorem q_193 : Cond.fieldLink RX5 21 "PullCards$Plan" "streamKind" "[I" ∈ TB := tbv (tt1 (List.mem_of_getElem? (i := 92) (by decide +kernel))) rfl
theorem q_194 : Cond.fieldLink RX3 160 "PullCards$Plan" "streamKind" "[I" ∈ TB := tbv (tt1 (List.mem_of_getElem? (i := 93) (by decide +kernel))) rfl
theorem q_195 : Cond.fieldLink RX6 139 "PullCards$Plan" "streamKind" "[I" ∈ TB := tbv (tt1 (List.mem_of_getElem? (i := 94) (by decide +kernel))) rfl
theorem q_196 : Cond.fieldLink RX9 177 "PullCards$Plan" "streamKind" "[I" ∈ TB := tbv (tt1 (List.mem_of_getElem? (i := 95) (by decide +kernel))) rfl
theorem q_197 : Cond.fieldLink RX5 24 "PullCards$Plan" "streamEvery" "[I" ∈ TB := tbv (tt1 (List.mem_of_getElem? (i := 96) (by decide +kernel))) rfl
theorem q_198 : Cond.fieldLink RX3 125 "PullCards$Plan" "streamEvery" "[I" ∈ TB := tbv (tt1 (List.mem_of_getElem? (i := 97) (by decide +kernel))) rfl
theorem q_199 : Cond.fieldLink RX6 142 "PullCards$Plan" "streamEvery" "[I" ∈ TB := tbv (tt1 (List.mem_of_getElem? (i := 98) (by decide +kernel))) rfl
theorem q_200 : Cond.fieldLink RX9 180 "PullCards$Plan" "streamEvery" "[I" ∈ TB := tbv (tt1 (List.mem_of_getElem? (i := 99) (by decide +kernel))) rfl
theorem q_201 : Cond.fieldLink RX5 27 "PullCards$Plan" "streamFrom" "[I" ∈ TB := tbv (tt1 (List.mem_of_getElem? (i := 100) (by decide +kernel))) rfl
theorem q_202 : Cond.fieldLink RX3 122 "PullCards$Plan" "streamFrom" "[I" ∈ TB := tbv (tt1 (List.mem_of_getElem? (i := 101) (by decide +kernel))) rfl
theorem q_203 : Cond.fieldLink RX6 145 "PullCards$Plan" "streamFrom" "[I" ∈ TB := tbv (tt1 (List.mem_of_getElem? (i := 102) (by decide +kernel))) rfl
theorem q_204 : Cond.fieldLink RX9 183 "PullCards$Plan" "streamFrom" "[I" ∈ TB := tbv (tt1 (List.mem_of_getElem? (i := 103) (by decide +kernel))) rfl
theorem q_205 : Cond.fieldLink RX5 30 "PullCards$Plan" "nameLetters" "[I" ∈ TB := tbv (tt1 (List.mem_of_getElem? (i := 104) (by decide +kernel))) rfl
theorem q_206 : Cond.fieldLink RX6 165 "PullCards$Plan" "nameLetters" "[I" ∈ TB := tbv (tt1 (List.mem_of_getElem? (i := 105) (by decide +kernel))) rfl
theorem q_207 : Cond.fieldLink RX9 298 "PullCards$Plan" "nameLetters" "[I" ∈ TB := tbv (tt1 (List.mem_of_getElem? (i := 106) (by decide +kernel))) rfl
theorem q_208 : Cond.fieldLink RX5 33 "PullCards$Plan" "nameSizes" "[I" ∈ TB := tbv (tt1 (List.mem_of_getElem? (i := 107) (by decide +kernel))) rfl
theorem q_209 : Cond.fieldLink RX6 162 "PullCards$Plan" "nameSizes" "[I" ∈ TB := tbv (tt1 (List.mem_of_getElem? (i := 108) (by decide +kernel))) rfl
theorem q_210 : Cond.fieldLink RX9 295 "PullCards$Plan" "nameSizes" "[I" ∈ TB := tbv (tt1 (List.mem_of_getElem? (i := 109) (by decide +kernel))) rfl
theorem q_211 : Cond.fieldLink RX5 39 "PullCards$Plan" "told" "LPullCards$Levers;" ∈ TB := tbv (tt1 (List.mem_of_getElem? (i := 110) (by decide +kernel))) rfl
theorem q_212 : Cond.fieldLink RX9 97 "PullCards$Plan" "told" "LPullCards$Levers;" ∈ TB := tbv (tt1 (List.mem_of_getElem? (i := 111) (by decide +kernel))) rfl
theorem q_213 : Cond.fieldLink RX6 103 "PullCards$Plan" "told" "LPullCards$Levers;" ∈ TB := tbv (tt1 (List.mem_of_getElem? (i := 112) (by decide +kernel))) rfl
theorem q_253 : Cond.fieldLink RX7 24 "PullCards$Tokens" "tape" "[B" ∈ TB := tbv (tt1 (List.mem_of_getElem? (i := 152) (by decide +kernel))) rfl
theorem q_254 : Cond.fieldLink RX7 9 "PullCards$Tokens" "sorts" "[I" ∈ TB := tbv (tt1 (List.mem_of_getElem? (i := 153) (by decide +kernel))) rfl
theorem q_255 : Cond.fieldLink RX6 174 "PullCards$Tokens" "sorts" "[I" ∈ TB := tbv (tt1 (List.mem_of_getElem? (i := 154) (by decide +kernel))) rfl
theorem q_256 : Cond.fieldLink RX7 15 "PullCards$Tokens" "places" "[I" ∈ TB := tbv (tt1 (List.mem_of_getElem? (i := 155) (by decide +kernel))) rfl
theorem q_257 : Cond.fieldLink RX6 65 "PullCards$Tokens" "places" "[I" ∈ TB := tbv (tt1 (List.mem_of_getElem? (i := 156) (by decide +kernel))) rfl
theorem q_258 : Cond.fieldLink RX7 18 "PullCards$Tokens" "sizes" "[I" ∈ TB := tbv (tt1 (List.mem_of_getElem? (i := 157) (by decide +kernel))) rfl
theorem q_259 : Cond.fieldLink RX6 154 "PullCards$Tokens" "sizes" "[I" ∈ TB := tbv (tt1 (List.mem_of_getElem? (i := 158) (by decide +kernel))) rfl
theorem q_260 : Cond.fieldLink RX7 21 "PullCards$Tokens" "values" "[I" ∈ TB := tbv (tt1 (List.mem_of_getElem? (i := 159) (by decide +kernel))) rfl
theorem q_261 : Cond.fieldLink RX6 69 "PullCards$Tokens" "values" "[I" ∈ TB := tbv (tt1 (List.mem_of_getElem? (i := 160) (by decide +kernel))) rfl
theorem q_262 : Cond.fieldLink RX7 34 "PullCards$Tokens" "length" "I" ∈ TB := tbv (tt1 (List.mem_of_getElem? (i := 161) (by decide +kernel))) rfl
theorem q_276 : Cond.fieldLink RX6 12 "PullCards$Reader" "plan" "LPullCards$Plan;" ∈ TB := tbv (tt1 (List.mem_of_getElem? (i := 175) (by decide +kernel))) rfl
theorem q_277 : Cond.fieldLink RX9 93 "PullCards$Reader" "plan" "LPullCards$Plan;" ∈ TB := tbv (tt1 (List.mem_of_getElem? (i := 176) (by decide +kernel))) rfl
theorem q_278 : Cond.fieldLink RX6 23 "PullCards$Reader" "tokens" "LPullCards$Tokens;" ∈ TB := tbv (tt1 (List.mem_of_getElem? (i := 177) (by decide +kernel))) rfl
theorem q_279 : Cond.fieldLink RX6 31 "PullCards$Reader" "at" "I" ∈ TB := tbv (tt1 (List.mem_of_getElem? (i := 178) (by decide +kernel))) rfl
theorem q_280 : Cond.fieldLink RX6 38 "PullCards$Reader" "ruled" "Z" ∈ TB := tbv (tt1 (List.mem_of_getElem? (i := 179) (by decide +kernel))) rfl
theorem q_281 : Cond.fieldLink RX6 35 "PullCards$Reader" "fault" "I" ∈ TB := tbv (tt1 (List.mem_of_getElem? (i := 180) (by decide +kernel))) rfl
theorem q_301 : Cond.fieldLink RX3 48 "PullCards$Line" "plan" "LPullCards$Plan;" ∈ TB := tbv (tt1 (List.mem_of_getElem? (i := 200) (by decide +kernel))) rfl
theorem q_302 : Cond.fieldLink RX3 52 "PullCards$Line" "levers" "LPullCards$Levers;" ∈ TB := tbv (tt1 (List.mem_of_getElem? (i := 201) (by decide +kernel))) rfl
theorem q_303 : Cond.fieldLink RX3 9 "PullCards$Line" "store" "[I" ∈ TB := tbv (tt1 (List.mem_of_getElem? (i := 202) (by decide +kernel))) rfl
theorem q_304 : Cond.fieldLink RX9 189 "PullCards$Line" "store" "[I" ∈ TB := tbv (tt1 (List.mem_of_getElem? (i := 203) (by decide +kernel))) rfl
theorem q_305 : Cond.fieldLink RX3 15 "PullCards$Line" "held" "[I" ∈ TB := tbv (tt1 (List.mem_of_getElem? (i := 204) (by decide +kernel))) rfl
theorem q_306 : Cond.fieldLink RX9 192 "PullCards$Line" "held" "[I" ∈ TB := tbv (tt1 (List.mem_of_getElem? (i := 205) (by decide +kernel))) rfl
theorem q_307 : Cond.fieldLink RX3 18 "PullCards$Line" "doing" "[I" ∈ TB := tbv (tt1 (List.mem_of_getElem? (i := 206) (by decide +kernel))) rfl
theorem q_308 : Cond.fieldLink RX9 204 "PullCards$Line" "doing" "[I" ∈ TB := tbv (tt1 (List.mem_of_getElem? (i := 207) (by decide +kernel))) rfl
theorem q_309 : Cond.fieldLink RX3 21 "PullCards$Line" "last" "[I" ∈ TB := tbv (tt1 (List.mem_of_getElem? (i := 208) (by decide +kernel))) rfl
theorem q_310 : Cond.fieldLink RX9 207 "PullCards$Line" "last" "[I" ∈ TB := tbv (tt1 (List.mem_of_getElem? (i := 209) (by decide +kernel))) rfl
theorem q_311 : Cond.fieldLink RX3 24 "PullCards$Line" "until" "[I" ∈ TB := tbv (tt1 (List.mem_of_getElem? (i := 210) (by decide +kernel))) rfl
theorem q_312 : Cond.fieldLink RX3 27 "PullCards$Line" "finished" "[I" ∈ TB := tbv (tt1 (List.mem_of_getElem? (i := 211) (by decide +kernel))) rfl
theorem q_313 : Cond.fieldLink RX9 213 "PullCards$Line" "finished" "[I" ∈ TB := tbv (tt1 (List.mem_of_getElem? (i := 212) (by decide +kernel))) rfl
theorem q_314 : Cond.fieldLink RX3 30 "PullCards$Line" "tally" "[I" ∈ TB := tbv (tt1 (List.mem_of_getElem? (i := 213) (by decide +kernel))) rfl
theorem q_315 : Cond.fieldLink RX3 33 "PullCards$Line" "peaks" "[I" ∈ TB := tbv (tt1 (List.mem_of_getElem? (i := 214) (by decide +kernel))) rfl
theorem q_316 : Cond.fieldLink RX9 234 "PullCards$Line" "peaks" "[I" ∈ TB := tbv (tt1 (List.mem_of_getElem? (i := 215) (by decide +kernel))) rfl
theorem q_317 : Cond.fieldLink RX3 36 "PullCards$Line" "came" "[I" ∈ TB := tbv (tt1 (List.mem_of_getElem? (i := 216) (by decide +kernel))) rfl
theorem q_318 : Cond.fieldLink RX9 219 "PullCards$Line" "came" "[I" ∈ TB := tbv (tt1 (List.mem_of_getElem? (i := 217) (by decide +kernel))) rfl
theorem q_319 : Cond.fieldLink RX3 39 "PullCards$Line" "waiting" "[I" ∈ TB := tbv (tt1 (List.mem_of_getElem? (i := 218) (by decide +kernel))) rfl
theorem q_320 : Cond.fieldLink RX9 222 "PullCards$Line" "waiting" "[I" ∈ TB := tbv (tt1 (List.mem_of_getElem? (i := 219) (by decide +kernel))) rfl
theorem q_321 : Cond.fieldLink RX3 42 "PullCards$Line" "waited" "[I" ∈ TB := tbv (tt1 (List.mem_of_getElem? (i := 220) (by decide +kernel))) rfl
theorem q_322 : Cond.fieldLink RX9 225 "PullCards$Line" "waited" "[I" ∈ TB := tbv (tt1 (List.mem_of_getElem? (i := 221) (by decide +kernel))) rfl
theorem q_323 : Cond.fieldLink RX3 45 "PullCards$Line" "firstDelivered" "[I" ∈ TB := tbv (tt1 (List.mem_of_getElem? (i := 222) (by decide +kernel))) rfl
theorem q_324 : Cond.fieldLink RX9 237 "PullCards$Line" "firstDelivered" "[I" ∈ TB := tbv (tt1 (List.mem_of_getElem? (i := 223) (by decide +kernel))) rfl
theorem q_325 : Cond.fieldLink RX3 73 "PullCards$Line" "minute" "I" ∈ TB := tbv (tt1 (List.mem_of_getElem? (i := 224) (by decide +kernel))) rfl
theorem q_326 : Cond.fieldLink RX4 93 "PullCards$Line" "minute" "I" ∈ TB := tbv (tt1 (List.mem_of_getElem? (i := 225) (by decide +kernel))) rfl
theorem q_327 : Cond.fieldLink RX9 141 "PullCards$Line" "minute" "I" ∈ TB := tbv (tt1 (List.mem_of_getElem? (i := 226) (by decide +kernel))) rfl
theorem q_328 : Cond.fieldLink RX4 42 "PullCards$Line" "delivered" "I" ∈ TB := tbv (tt1 (List.mem_of_getElem? (i := 227) (by decide +kernel))) rfl
theorem q_329 : Cond.fieldLink RX3 77 "PullCards$Line" "delivered" "I" ∈ TB := tbv (tt1 (List.mem_of_getElem? (i := 228) (by decide +kernel))) rfl
theorem q_330 : Cond.fieldLink RX9 198 "PullCards$Line" "delivered" "I" ∈ TB := tbv (tt1 (List.mem_of_getElem? (i := 229) (by decide +kernel))) rfl
theorem q_331 : Cond.fieldLink RX3 80 "PullCards$Line" "starvedAt" "I" ∈ TB := tbv (tt1 (List.mem_of_getElem? (i := 230) (by decide +kernel))) rfl
theorem q_332 : Cond.fieldLink RX9 228 "PullCards$Line" "starvedAt" "I" ∈ TB := tbv (tt1 (List.mem_of_getElem? (i := 231) (by decide +kernel))) rfl
theorem q_333 : Cond.fieldLink RX3 83 "PullCards$Line" "starvedBench" "I" ∈ TB := tbv (tt1 (List.mem_of_getElem? (i := 232) (by decide +kernel))) rfl
theorem q_334 : Cond.fieldLink RX9 231 "PullCards$Line" "starvedBench" "I" ∈ TB := tbv (tt1 (List.mem_of_getElem? (i := 233) (by decide +kernel))) rfl
theorem q_382 : Cond.fieldLink RX4 18 "PullCards$Paper" "plan" "LPullCards$Plan;" ∈ TB := tbv (tt2 (List.mem_of_getElem? (i := 41) (by decide +kernel))) rfl
theorem q_383 : Cond.fieldLink RX4 22 "PullCards$Paper" "now" "LPullCards$Levers;" ∈ TB := tbv (tt2 (List.mem_of_getElem? (i := 42) (by decide +kernel))) rfl
theorem q_384 : Cond.fieldLink RX4 12 "PullCards$Paper" "trial" "LPullCards$Levers;" ∈ TB := tbv (tt2 (List.mem_of_getElem? (i := 43) (by decide +kernel))) rfl
theorem q_385 : Cond.fieldLink RX9 265 "PullCards$Paper" "trial" "LPullCards$Levers;" ∈ TB := tbv (tt2 (List.mem_of_getElem? (i := 44) (by decide +kernel))) rfl
theorem q_386 : Cond.fieldLink RX4 30 "PullCards$Paper" "line" "LPullCards$Line;" ∈ TB := tbv (tt2 (List.mem_of_getElem? (i := 45) (by decide +kernel))) rfl
theorem q_387 : Cond.fieldLink RX4 80 "PullCards$Paper" "trace" "LPullCards$Trace;" ∈ TB := tbv (tt2 (List.mem_of_getElem? (i := 46) (by decide +kernel))) rfl
theorem q_388 : Cond.fieldLink RX4 104 "PullCards$Paper" "againOf" "I" ∈ TB := tbv (tt2 (List.mem_of_getElem? (i := 47) (by decide +kernel))) rfl
theorem q_389 : Cond.fieldLink RX9 277 "PullCards$Paper" "againOf" "I" ∈ TB := tbv (tt2 (List.mem_of_getElem? (i := 48) (by decide +kernel))) rfl
theorem q_409 : Cond.fieldLink RX0 9 "PullCards$Acts" "lever" "[I" ∈ TB := tbv (tt2 (List.mem_of_getElem? (i := 68) (by decide +kernel))) rfl
theorem q_410 : Cond.fieldLink RX0 13 "PullCards$Acts" "value" "[I" ∈ TB := tbv (tt2 (List.mem_of_getElem? (i := 69) (by decide +kernel))) rfl
theorem q_411 : Cond.fieldLink RX0 16 "PullCards$Acts" "count" "I" ∈ TB := tbv (tt2 (List.mem_of_getElem? (i := 70) (by decide +kernel))) rfl
theorem q_412 : Cond.fieldLink RX9 119 "PullCards$Acts" "count" "I" ∈ TB := tbv (tt2 (List.mem_of_getElem? (i := 71) (by decide +kernel))) rfl
theorem q_432 : Cond.fieldLink RX9 291 "PullCards$Image" "levers" "LPullCards$Levers;" ∈ TB := tbv (tt2 (List.mem_of_getElem? (i := 91) (by decide +kernel))) rfl
theorem q_434 : Cond.fieldLink RX9 287 "PullCards$Image" "line" "LPullCards$Line;" ∈ TB := tbv (tt2 (List.mem_of_getElem? (i := 93) (by decide +kernel))) rfl
theorem q_435 : Cond.fieldLink RX9 122 "PullCards$Image" "kept" "Z" ∈ TB := tbv (tt2 (List.mem_of_getElem? (i := 94) (by decide +kernel))) rfl
theorem q_443 : Cond.fieldLink RX9 9 "PullCards" "tape" "[B" ∈ TB := tbv (tt2 (List.mem_of_getElem? (i := 102) (by decide +kernel))) rfl
theorem q_444 : Cond.fieldLink RX9 16 "PullCards" "plan" "LPullCards$Plan;" ∈ TB := tbv (tt2 (List.mem_of_getElem? (i := 103) (by decide +kernel))) rfl
theorem q_445 : Cond.fieldLink RX9 25 "PullCards" "reader" "LPullCards$Reader;" ∈ TB := tbv (tt2 (List.mem_of_getElem? (i := 104) (by decide +kernel))) rfl
theorem q_446 : Cond.fieldLink RX9 32 "PullCards" "levers" "LPullCards$Levers;" ∈ TB := tbv (tt2 (List.mem_of_getElem? (i := 105) (by decide +kernel))) rfl
theorem q_447 : Cond.fieldLink RX9 41 "PullCards" "line" "LPullCards$Line;" ∈ TB := tbv (tt2 (List.mem_of_getElem? (i := 106) (by decide +kernel))) rfl
theorem q_448 : Cond.fieldLink RX9 48 "PullCards" "paper" "LPullCards$Paper;" ∈ TB := tbv (tt2 (List.mem_of_getElem? (i := 107) (by decide +kernel))) rfl
theorem q_449 : Cond.fieldLink RX9 55 "PullCards" "acts" "LPullCards$Acts;" ∈ TB := tbv (tt2 (List.mem_of_getElem? (i := 108) (by decide +kernel))) rfl
theorem q_450 : Cond.fieldLink RX9 61 "PullCards" "images" "[LPullCards$Image;" ∈ TB := tbv (tt2 (List.mem_of_getElem? (i := 109) (by decide +kernel))) rfl
theorem q_451 : Cond.fieldLink RX9 72 "PullCards" "taped" "I" ∈ TB := tbv (tt2 (List.mem_of_getElem? (i := 110) (by decide +kernel))) rfl
theorem q_452 : Cond.fieldLink RX9 103 "PullCards" "told" "Z" ∈ TB := tbv (tt2 (List.mem_of_getElem? (i := 111) (by decide +kernel))) rfl
theorem q_453 : Cond.fieldLink RX9 125 "PullCards" "trouble" "I" ∈ TB := tbv (tt2 (List.mem_of_getElem? (i := 112) (by decide +kernel))) rfl
theorem q_454 : Cond.fieldLink RX9 86 "PullCards" "fault" "I" ∈ TB := tbv (tt2 (List.mem_of_getElem? (i := 113) (by decide +kernel))) rfl
theorem q_455 : Cond.fieldLink RX9 68 "PullCards" "place" "I" ∈ TB := tbv (tt2 (List.mem_of_getElem? (i := 114) (by decide +kernel))) rfl
theorem q_487 : Cond.methodLink RX9 75 yX9_putBytes ∈ TB := tbv (tt2 (List.mem_of_getElem? (i := 146) (by decide +kernel))) rfl
theorem q_489 : Cond.instanceMethod yX9_putBytes ∈ TB := tbv (tt2 (List.mem_of_getElem? (i := 148) (by decide +kernel))) rfl
theorem q_490 : Cond.code yX9_putBytes cX9_putBytes 3 none ∈ TB := tbv (tt2 (List.mem_of_getElem? (i := 149) (by decide +kernel))) rfl
theorem q_495 : Cond.methodLink RX9 79 yX9_refused ∈ TB := tbv (tt2 (List.mem_of_getElem? (i := 154) (by decide +kernel))) rfl
theorem q_497 : Cond.instanceMethod yX9_refused ∈ TB := tbv (tt2 (List.mem_of_getElem? (i := 156) (by decide +kernel))) rfl
theorem q_498 : Cond.code yX9_refused cX9_refused 2 (some .int) ∈ TB := tbv (tt2 (List.mem_of_getElem? (i := 157) (by decide +kernel))) rfl
theorem q_499 : Cond.methodLink RX9 83 yX6_read ∈ TB := tbv (tt2 (List.mem_of_getElem? (i := 158) (by decide +kernel))) rfl
theorem q_500 : Cond.instanceMethod yX6_read ∈ TB := tbv (tt2 (List.mem_of_getElem? (i := 159) (by decide +kernel))) rfl
theorem q_501 : Cond.selects RX6 yX6_read yX6_read ∈ TB := tbv (tt2 (List.mem_of_getElem? (i := 160) (by decide +kernel))) rfl
theorem q_502 : Cond.code yX6_read cX6_read 3 (some .int) ∈ TB := tbv (tt2 (List.mem_of_getElem? (i := 161) (by decide +kernel))) rfl
theorem q_503 : Cond.methodLink RX6 27 yX7_scan ∈ TB := tbv (tt2 (List.mem_of_getElem? (i := 162) (by decide +kernel))) rfl
theorem q_504 : Cond.instanceMethod yX7_scan ∈ TB := tbv (tt2 (List.mem_of_getElem? (i := 163) (by decide +kernel))) rfl
theorem q_505 : Cond.selects RX7 yX7_scan yX7_scan ∈ TB := tbv (tt2 (List.mem_of_getElem? (i := 164) (by decide +kernel))) rfl
theorem q_506 : Cond.code yX7_scan cX7_scan 4 none ∈ TB := tbv (tt2 (List.mem_of_getElem? (i := 165) (by decide +kernel))) rfl
theorem q_507 : Cond.methodLink RX7 28 Lib.Math.min.name ∈ TB := tbv (tt2 (List.mem_of_getElem? (i := 166) (by decide +kernel))) rfl
theorem q_508 : Cond.static Lib.Math.min.name ∈ TB := tbv (tt2 (List.mem_of_getElem? (i := 167) (by decide +kernel))) rfl
theorem q_509 : Cond.code Lib.Math.min.name Lib.Math.min.code 2 (some .int) ∈ TB := tbv (tt2 (List.mem_of_getElem? (i := 168) (by decide +kernel))) rfl
theorem q_510 : Cond.methodLink RX7 38 yX7_scanToken ∈ TB := tbv (tt2 (List.mem_of_getElem? (i := 169) (by decide +kernel))) rfl
theorem q_512 : Cond.instanceMethod yX7_scanToken ∈ TB := tbv (tt2 (List.mem_of_getElem? (i := 171) (by decide +kernel))) rfl
theorem q_513 : Cond.code yX7_scanToken cX7_scanToken 3 none ∈ TB := tbv (tt2 (List.mem_of_getElem? (i := 172) (by decide +kernel))) rfl
theorem q_514 : Cond.methodLink RX7 45 yX7_isLetter ∈ TB := tbv (tt2 (List.mem_of_getElem? (i := 173) (by decide +kernel))) rfl
theorem q_516 : Cond.instanceMethod yX7_isLetter ∈ TB := tbv (tt2 (List.mem_of_getElem? (i := 175) (by decide +kernel))) rfl
theorem q_517 : Cond.code yX7_isLetter cX7_isLetter 2 (some .boolean) ∈ TB := tbv (tt2 (List.mem_of_getElem? (i := 176) (by decide +kernel))) rfl
theorem q_518 : Cond.methodLink RX7 49 yX7_scanWord ∈ TB := tbv (tt2 (List.mem_of_getElem? (i := 177) (by decide +kernel))) rfl
theorem q_520 : Cond.instanceMethod yX7_scanWord ∈ TB := tbv (tt2 (List.mem_of_getElem? (i := 179) (by decide +kernel))) rfl
theorem q_521 : Cond.code yX7_scanWord cX7_scanWord 5 none ∈ TB := tbv (tt2 (List.mem_of_getElem? (i := 180) (by decide +kernel))) rfl
theorem q_522 : Cond.methodLink RX7 58 yX7_isSpelled ∈ TB := tbv (tt2 (List.mem_of_getElem? (i := 181) (by decide +kernel))) rfl
theorem q_524 : Cond.instanceMethod yX7_isSpelled ∈ TB := tbv (tt2 (List.mem_of_getElem? (i := 183) (by decide +kernel))) rfl
theorem q_525 : Cond.code yX7_isSpelled cX7_isSpelled 6 (some .boolean) ∈ TB := tbv (tt2 (List.mem_of_getElem? (i := 184) (by decide +kernel))) rfl
theorem q_567 : Cond.methodLink RX7 52 yX7_isDigit ∈ TB := tbv (tt2 (List.mem_of_getElem? (i := 226) (by decide +kernel))) rfl
theorem q_569 : Cond.instanceMethod yX7_isDigit ∈ TB := tbv (tt2 (List.mem_of_getElem? (i := 228) (by decide +kernel))) rfl
theorem q_570 : Cond.code yX7_isDigit cX7_isDigit 2 (some .boolean) ∈ TB := tbv (tt2 (List.mem_of_getElem? (i := 229) (by decide +kernel))) rfl
theorem q_571 : Cond.methodLink RX7 55 yX7_scanWhole ∈ TB := tbv (tt2 (List.mem_of_getElem? (i := 230) (by decide +kernel))) rfl
theorem q_573 : Cond.instanceMethod yX7_scanWhole ∈ TB := tbv (tt2 (List.mem_of_getElem? (i := 232) (by decide +kernel))) rfl
theorem q_574 : Cond.code yX7_scanWhole cX7_scanWhole 5 none ∈ TB := tbv (tt2 (List.mem_of_getElem? (i := 233) (by decide +kernel))) rfl
theorem q_575 : Cond.methodLink RX7 42 Lib.Math.max.name ∈ TB := tbv (tt2 (List.mem_of_getElem? (i := 234) (by decide +kernel))) rfl
theorem q_576 : Cond.static Lib.Math.max.name ∈ TB := tbv (tt2 (List.mem_of_getElem? (i := 235) (by decide +kernel))) rfl
theorem q_577 : Cond.code Lib.Math.max.name Lib.Math.max.code 2 (some .int) ∈ TB := tbv (tt2 (List.mem_of_getElem? (i := 236) (by decide +kernel))) rfl
theorem q_578 : Cond.methodLink RX6 42 yX5_clear ∈ TB := tbv (tt2 (List.mem_of_getElem? (i := 237) (by decide +kernel))) rfl
theorem q_579 : Cond.instanceMethod yX5_clear ∈ TB := tbv (tt2 (List.mem_of_getElem? (i := 238) (by decide +kernel))) rfl
theorem q_580 : Cond.selects RX5 yX5_clear yX5_clear ∈ TB := tbv (tt2 (List.mem_of_getElem? (i := 239) (by decide +kernel))) rfl
theorem q_581 : Cond.code yX5_clear cX5_clear 1 none ∈ TB := tbv (tt3 (List.mem_of_getElem? (i := 0) (by decide +kernel))) rfl
theorem q_582 : Cond.methodLink RX5 53 yJ7_fill_53178 ∈ TB := tbv (tt3 (List.mem_of_getElem? (i := 1) (by decide +kernel))) rfl
theorem q_583 : Cond.static yJ7_fill_53178 ∈ TB := tbv (tt3 (List.mem_of_getElem? (i := 2) (by decide +kernel))) rfl
theorem q_584 : Cond.code yJ7_fill_53178 cJ7_fill_53178 4 none ∈ TB := tbv (tt3 (List.mem_of_getElem? (i := 3) (by decide +kernel))) rfl
theorem q_585 : Cond.methodLink RX5 59 yX2_clear ∈ TB := tbv (tt3 (List.mem_of_getElem? (i := 4) (by decide +kernel))) rfl
theorem q_586 : Cond.instanceMethod yX2_clear ∈ TB := tbv (tt3 (List.mem_of_getElem? (i := 5) (by decide +kernel))) rfl
theorem q_587 : Cond.selects RX2 yX2_clear yX2_clear ∈ TB := tbv (tt3 (List.mem_of_getElem? (i := 6) (by decide +kernel))) rfl
theorem q_588 : Cond.code yX2_clear cX2_clear 1 none ∈ TB := tbv (tt3 (List.mem_of_getElem? (i := 7) (by decide +kernel))) rfl
theorem q_589 : Cond.methodLink RX2 18 yJ7_fill_53178 ∈ TB := tbv (tt3 (List.mem_of_getElem? (i := 8) (by decide +kernel))) rfl
theorem q_590 : Cond.methodLink RX6 45 yX6_readLine ∈ TB := tbv (tt3 (List.mem_of_getElem? (i := 9) (by decide +kernel))) rfl
theorem q_592 : Cond.instanceMethod yX6_readLine ∈ TB := tbv (tt3 (List.mem_of_getElem? (i := 11) (by decide +kernel))) rfl
theorem q_593 : Cond.code yX6_readLine cX6_readLine 1 (some .boolean) ∈ TB := tbv (tt3 (List.mem_of_getElem? (i := 12) (by decide +kernel))) rfl
theorem q_594 : Cond.methodLink RX6 49 yX6_isSort ∈ TB := tbv (tt3 (List.mem_of_getElem? (i := 13) (by decide +kernel))) rfl
theorem q_596 : Cond.instanceMethod yX6_isSort ∈ TB := tbv (tt3 (List.mem_of_getElem? (i := 15) (by decide +kernel))) rfl
theorem q_597 : Cond.code yX6_isSort cX6_isSort 2 (some .boolean) ∈ TB := tbv (tt3 (List.mem_of_getElem? (i := 16) (by decide +kernel))) rfl
theorem q_598 : Cond.methodLink RX6 59 yX6_blame ∈ TB := tbv (tt3 (List.mem_of_getElem? (i := 17) (by decide +kernel))) rfl
theorem q_600 : Cond.instanceMethod yX6_blame ∈ TB := tbv (tt3 (List.mem_of_getElem? (i := 19) (by decide +kernel))) rfl
theorem q_601 : Cond.code yX6_blame cX6_blame 2 (some .boolean) ∈ TB := tbv (tt3 (List.mem_of_getElem? (i := 20) (by decide +kernel))) rfl
theorem q_602 : Cond.methodLink RX6 72 yX6_readWare ∈ TB := tbv (tt3 (List.mem_of_getElem? (i := 21) (by decide +kernel))) rfl
theorem q_604 : Cond.instanceMethod yX6_readWare ∈ TB := tbv (tt3 (List.mem_of_getElem? (i := 23) (by decide +kernel))) rfl
theorem q_605 : Cond.code yX6_readWare cX6_readWare 1 (some .boolean) ∈ TB := tbv (tt3 (List.mem_of_getElem? (i := 24) (by decide +kernel))) rfl
theorem q_606 : Cond.methodLink RX6 62 yX6_step ∈ TB := tbv (tt3 (List.mem_of_getElem? (i := 25) (by decide +kernel))) rfl
theorem q_608 : Cond.instanceMethod yX6_step ∈ TB := tbv (tt3 (List.mem_of_getElem? (i := 27) (by decide +kernel))) rfl
theorem q_609 : Cond.code yX6_step cX6_step 1 none ∈ TB := tbv (tt3 (List.mem_of_getElem? (i := 28) (by decide +kernel))) rfl
theorem q_610 : Cond.methodLink RX6 87 yX6_readNewName ∈ TB := tbv (tt3 (List.mem_of_getElem? (i := 29) (by decide +kernel))) rfl
theorem q_612 : Cond.instanceMethod yX6_readNewName ∈ TB := tbv (tt3 (List.mem_of_getElem? (i := 31) (by decide +kernel))) rfl
theorem q_613 : Cond.code yX6_readNewName cX6_readNewName 4 (some .boolean) ∈ TB := tbv (tt3 (List.mem_of_getElem? (i := 32) (by decide +kernel))) rfl
theorem q_614 : Cond.methodLink RX6 118 yX6_isWord ∈ TB := tbv (tt3 (List.mem_of_getElem? (i := 33) (by decide +kernel))) rfl
theorem q_616 : Cond.instanceMethod yX6_isWord ∈ TB := tbv (tt3 (List.mem_of_getElem? (i := 35) (by decide +kernel))) rfl
theorem q_617 : Cond.code yX6_isWord cX6_isWord 2 (some .boolean) ∈ TB := tbv (tt3 (List.mem_of_getElem? (i := 36) (by decide +kernel))) rfl
theorem q_618 : Cond.methodLink RX6 151 yX6_placeOfName ∈ TB := tbv (tt3 (List.mem_of_getElem? (i := 37) (by decide +kernel))) rfl
theorem q_620 : Cond.instanceMethod yX6_placeOfName ∈ TB := tbv (tt3 (List.mem_of_getElem? (i := 39) (by decide +kernel))) rfl
theorem q_621 : Cond.code yX6_placeOfName cX6_placeOfName 4 (some .int) ∈ TB := tbv (tt3 (List.mem_of_getElem? (i := 40) (by decide +kernel))) rfl
theorem q_622 : Cond.methodLink RX6 171 yX6_isNameIn ∈ TB := tbv (tt3 (List.mem_of_getElem? (i := 41) (by decide +kernel))) rfl
theorem q_624 : Cond.instanceMethod yX6_isNameIn ∈ TB := tbv (tt3 (List.mem_of_getElem? (i := 43) (by decide +kernel))) rfl
theorem q_625 : Cond.code yX6_isNameIn cX6_isNameIn 4 (some .boolean) ∈ TB := tbv (tt3 (List.mem_of_getElem? (i := 44) (by decide +kernel))) rfl
theorem q_626 : Cond.methodLink RX6 168 yX7_letterAt ∈ TB := tbv (tt3 (List.mem_of_getElem? (i := 45) (by decide +kernel))) rfl
theorem q_627 : Cond.instanceMethod yX7_letterAt ∈ TB := tbv (tt3 (List.mem_of_getElem? (i := 46) (by decide +kernel))) rfl
theorem q_628 : Cond.selects RX7 yX7_letterAt yX7_letterAt ∈ TB := tbv (tt3 (List.mem_of_getElem? (i := 47) (by decide +kernel))) rfl
theorem q_629 : Cond.code yX7_letterAt cX7_letterAt 4 (some .int) ∈ TB := tbv (tt3 (List.mem_of_getElem? (i := 48) (by decide +kernel))) rfl
theorem q_630 : Cond.methodLink RX6 157 Lib.Math.min.name ∈ TB := tbv (tt3 (List.mem_of_getElem? (i := 49) (by decide +kernel))) rfl
theorem q_631 : Cond.methodLink RX6 75 yX6_readBench ∈ TB := tbv (tt3 (List.mem_of_getElem? (i := 50) (by decide +kernel))) rfl
theorem q_633 : Cond.instanceMethod yX6_readBench ∈ TB := tbv (tt3 (List.mem_of_getElem? (i := 52) (by decide +kernel))) rfl
theorem q_634 : Cond.code yX6_readBench cX6_readBench 2 (some .boolean) ∈ TB := tbv (tt3 (List.mem_of_getElem? (i := 53) (by decide +kernel))) rfl
theorem q_635 : Cond.methodLink RX6 90 yX6_readTimes ∈ TB := tbv (tt3 (List.mem_of_getElem? (i := 54) (by decide +kernel))) rfl
theorem q_637 : Cond.instanceMethod yX6_readTimes ∈ TB := tbv (tt3 (List.mem_of_getElem? (i := 56) (by decide +kernel))) rfl
theorem q_638 : Cond.code yX6_readTimes cX6_readTimes 4 (some .boolean) ∈ TB := tbv (tt3 (List.mem_of_getElem? (i := 57) (by decide +kernel))) rfl
theorem q_639 : Cond.methodLink RX6 99 yX6_readWhole ∈ TB := tbv (tt3 (List.mem_of_getElem? (i := 58) (by decide +kernel))) rfl
theorem q_641 : Cond.instanceMethod yX6_readWhole ∈ TB := tbv (tt3 (List.mem_of_getElem? (i := 60) (by decide +kernel))) rfl
theorem q_642 : Cond.code yX6_readWhole cX6_readWhole 4 (some .int) ∈ TB := tbv (tt3 (List.mem_of_getElem? (i := 61) (by decide +kernel))) rfl
theorem q_644 : Cond.static yX9_cell ∈ TB := tbv (tt3 (List.mem_of_getElem? (i := 63) (by decide +kernel))) rfl
theorem q_645 : Cond.code yX9_cell cX9_cell 2 (some .int) ∈ TB := tbv (tt3 (List.mem_of_getElem? (i := 64) (by decide +kernel))) rfl
theorem q_646 : Cond.methodLink RX6 93 yX6_readSetup ∈ TB := tbv (tt3 (List.mem_of_getElem? (i := 65) (by decide +kernel))) rfl
theorem q_648 : Cond.instanceMethod yX6_readSetup ∈ TB := tbv (tt3 (List.mem_of_getElem? (i := 67) (by decide +kernel))) rfl
theorem q_649 : Cond.code yX6_readSetup cX6_readSetup 3 (some .boolean) ∈ TB := tbv (tt3 (List.mem_of_getElem? (i := 68) (by decide +kernel))) rfl
theorem q_650 : Cond.methodLink RX6 96 yX6_readRest ∈ TB := tbv (tt3 (List.mem_of_getElem? (i := 69) (by decide +kernel))) rfl
theorem q_652 : Cond.instanceMethod yX6_readRest ∈ TB := tbv (tt3 (List.mem_of_getElem? (i := 71) (by decide +kernel))) rfl
theorem q_653 : Cond.code yX6_readRest cX6_readRest 4 (some .boolean) ∈ TB := tbv (tt3 (List.mem_of_getElem? (i := 72) (by decide +kernel))) rfl
theorem q_654 : Cond.methodLink RX6 124 yX6_readWord ∈ TB := tbv (tt3 (List.mem_of_getElem? (i := 73) (by decide +kernel))) rfl
theorem q_656 : Cond.instanceMethod yX6_readWord ∈ TB := tbv (tt3 (List.mem_of_getElem? (i := 75) (by decide +kernel))) rfl
theorem q_657 : Cond.code yX6_readWord cX6_readWord 2 (some .boolean) ∈ TB := tbv (tt3 (List.mem_of_getElem? (i := 76) (by decide +kernel))) rfl
theorem q_658 : Cond.methodLink RX6 78 yX6_readCards ∈ TB := tbv (tt3 (List.mem_of_getElem? (i := 77) (by decide +kernel))) rfl
theorem q_660 : Cond.instanceMethod yX6_readCards ∈ TB := tbv (tt3 (List.mem_of_getElem? (i := 79) (by decide +kernel))) rfl
theorem q_661 : Cond.code yX6_readCards cX6_readCards 4 (some .boolean) ∈ TB := tbv (tt3 (List.mem_of_getElem? (i := 80) (by decide +kernel))) rfl
theorem q_662 : Cond.methodLink RX6 133 yX6_readOldName ∈ TB := tbv (tt3 (List.mem_of_getElem? (i := 81) (by decide +kernel))) rfl
theorem q_664 : Cond.instanceMethod yX6_readOldName ∈ TB := tbv (tt3 (List.mem_of_getElem? (i := 83) (by decide +kernel))) rfl
theorem q_665 : Cond.code yX6_readOldName cX6_readOldName 4 (some .int) ∈ TB := tbv (tt3 (List.mem_of_getElem? (i := 84) (by decide +kernel))) rfl
theorem q_666 : Cond.methodLink RX6 81 yX6_readOrder ∈ TB := tbv (tt3 (List.mem_of_getElem? (i := 85) (by decide +kernel))) rfl
theorem q_668 : Cond.instanceMethod yX6_readOrder ∈ TB := tbv (tt3 (List.mem_of_getElem? (i := 87) (by decide +kernel))) rfl
theorem q_669 : Cond.code yX6_readOrder cX6_readOrder 5 (some .boolean) ∈ TB := tbv (tt3 (List.mem_of_getElem? (i := 88) (by decide +kernel))) rfl
theorem q_670 : Cond.methodLink RX6 84 yX6_readRule ∈ TB := tbv (tt3 (List.mem_of_getElem? (i := 89) (by decide +kernel))) rfl
theorem q_672 : Cond.instanceMethod yX6_readRule ∈ TB := tbv (tt3 (List.mem_of_getElem? (i := 91) (by decide +kernel))) rfl
theorem q_673 : Cond.code yX6_readRule cX6_readRule 1 (some .boolean) ∈ TB := tbv (tt3 (List.mem_of_getElem? (i := 92) (by decide +kernel))) rfl
theorem q_674 : Cond.methodLink RX9 89 yX6_placeReached ∈ TB := tbv (tt3 (List.mem_of_getElem? (i := 93) (by decide +kernel))) rfl
theorem q_675 : Cond.instanceMethod yX6_placeReached ∈ TB := tbv (tt3 (List.mem_of_getElem? (i := 94) (by decide +kernel))) rfl
theorem q_676 : Cond.selects RX6 yX6_placeReached yX6_placeReached ∈ TB := tbv (tt3 (List.mem_of_getElem? (i := 95) (by decide +kernel))) rfl
theorem q_677 : Cond.code yX6_placeReached cX6_placeReached 1 (some .int) ∈ TB := tbv (tt3 (List.mem_of_getElem? (i := 96) (by decide +kernel))) rfl
theorem q_678 : Cond.methodLink RX9 94 yX5_copy ∈ TB := tbv (tt3 (List.mem_of_getElem? (i := 97) (by decide +kernel))) rfl
theorem q_679 : Cond.instanceMethod yX5_copy ∈ TB := tbv (tt3 (List.mem_of_getElem? (i := 98) (by decide +kernel))) rfl
theorem q_680 : Cond.selects RX5 yX5_copy yX5_copy ∈ TB := tbv (tt3 (List.mem_of_getElem? (i := 99) (by decide +kernel))) rfl
theorem q_681 : Cond.code yX5_copy cX5_copy 2 none ∈ TB := tbv (tt3 (List.mem_of_getElem? (i := 100) (by decide +kernel))) rfl
theorem q_682 : Cond.methodLink RX5 62 arraycopyName ∈ TB := tbv (tt3 (List.mem_of_getElem? (i := 101) (by decide +kernel))) rfl
theorem q_683 : Cond.static arraycopyName ∈ TB := tbv (tt3 (List.mem_of_getElem? (i := 102) (by decide +kernel))) rfl
theorem q_684 : Cond.native arraycopyName ∈ TB := tbv (tt3 (List.mem_of_getElem? (i := 103) (by decide +kernel))) rfl
theorem q_685 : Cond.methodLink RX5 68 yX2_copy ∈ TB := tbv (tt3 (List.mem_of_getElem? (i := 104) (by decide +kernel))) rfl
theorem q_686 : Cond.instanceMethod yX2_copy ∈ TB := tbv (tt3 (List.mem_of_getElem? (i := 105) (by decide +kernel))) rfl
theorem q_687 : Cond.selects RX2 yX2_copy yX2_copy ∈ TB := tbv (tt3 (List.mem_of_getElem? (i := 106) (by decide +kernel))) rfl
theorem q_688 : Cond.code yX2_copy cX2_copy 2 none ∈ TB := tbv (tt3 (List.mem_of_getElem? (i := 107) (by decide +kernel))) rfl
theorem q_689 : Cond.methodLink RX2 28 arraycopyName ∈ TB := tbv (tt3 (List.mem_of_getElem? (i := 108) (by decide +kernel))) rfl
theorem q_690 : Cond.methodLink RX9 100 yX2_copy ∈ TB := tbv (tt3 (List.mem_of_getElem? (i := 109) (by decide +kernel))) rfl
theorem q_691 : Cond.methodLink RX9 106 yX3_start ∈ TB := tbv (tt3 (List.mem_of_getElem? (i := 110) (by decide +kernel))) rfl
theorem q_692 : Cond.instanceMethod yX3_start ∈ TB := tbv (tt3 (List.mem_of_getElem? (i := 111) (by decide +kernel))) rfl
theorem q_693 : Cond.selects RX3 yX3_start yX3_start ∈ TB := tbv (tt3 (List.mem_of_getElem? (i := 112) (by decide +kernel))) rfl
theorem q_694 : Cond.code yX3_start cX3_start 2 none ∈ TB := tbv (tt3 (List.mem_of_getElem? (i := 113) (by decide +kernel))) rfl
theorem q_695 : Cond.methodLink RX3 56 yJ7_fill_53178 ∈ TB := tbv (tt3 (List.mem_of_getElem? (i := 114) (by decide +kernel))) rfl
theorem q_696 : Cond.methodLink RX3 67 arraycopyName ∈ TB := tbv (tt3 (List.mem_of_getElem? (i := 115) (by decide +kernel))) rfl
theorem q_697 : Cond.methodLink RX3 86 yX3_raisePeaks ∈ TB := tbv (tt3 (List.mem_of_getElem? (i := 116) (by decide +kernel))) rfl
theorem q_699 : Cond.instanceMethod yX3_raisePeaks ∈ TB := tbv (tt3 (List.mem_of_getElem? (i := 118) (by decide +kernel))) rfl
theorem q_700 : Cond.code yX3_raisePeaks cX3_raisePeaks 2 none ∈ TB := tbv (tt3 (List.mem_of_getElem? (i := 119) (by decide +kernel))) rfl
theorem q_701 : Cond.methodLink RX3 181 yX3_waresIn ∈ TB := tbv (tt3 (List.mem_of_getElem? (i := 120) (by decide +kernel))) rfl
theorem q_703 : Cond.instanceMethod yX3_waresIn ∈ TB := tbv (tt3 (List.mem_of_getElem? (i := 122) (by decide +kernel))) rfl
theorem q_704 : Cond.code yX3_waresIn cX3_waresIn 4 (some .int) ∈ TB := tbv (tt3 (List.mem_of_getElem? (i := 123) (by decide +kernel))) rfl
theorem q_706 : Cond.methodLink RX3 119 Lib.Math.max.name ∈ TB := tbv (tt3 (List.mem_of_getElem? (i := 125) (by decide +kernel))) rfl
theorem q_707 : Cond.methodLink RX9 110 yX9_forget ∈ TB := tbv (tt3 (List.mem_of_getElem? (i := 126) (by decide +kernel))) rfl
theorem q_709 : Cond.instanceMethod yX9_forget ∈ TB := tbv (tt3 (List.mem_of_getElem? (i := 128) (by decide +kernel))) rfl
theorem q_710 : Cond.code yX9_forget cX9_forget 2 none ∈ TB := tbv (tt3 (List.mem_of_getElem? (i := 129) (by decide +kernel))) rfl
theorem q_711 : Cond.methodLink RX9 116 yX9_granted ∈ TB := tbv (tt3 (List.mem_of_getElem? (i := 130) (by decide +kernel))) rfl
theorem q_713 : Cond.instanceMethod yX9_granted ∈ TB := tbv (tt3 (List.mem_of_getElem? (i := 132) (by decide +kernel))) rfl
theorem q_714 : Cond.code yX9_granted cX9_granted 2 (some .int) ∈ TB := tbv (tt3 (List.mem_of_getElem? (i := 133) (by decide +kernel))) rfl
theorem q_727 : Cond.methodLink RX9 128 yX9_within ∈ TB := tbv (tt3 (List.mem_of_getElem? (i := 146) (by decide +kernel))) rfl
theorem q_728 : Cond.static yX9_within ∈ TB := tbv (tt3 (List.mem_of_getElem? (i := 147) (by decide +kernel))) rfl
theorem q_729 : Cond.code yX9_within cX9_within 2 (some .boolean) ∈ TB := tbv (tt3 (List.mem_of_getElem? (i := 148) (by decide +kernel))) rfl
theorem q_730 : Cond.methodLink RX9 144 yX2_allCards ∈ TB := tbv (tt3 (List.mem_of_getElem? (i := 149) (by decide +kernel))) rfl
theorem q_731 : Cond.instanceMethod yX2_allCards ∈ TB := tbv (tt3 (List.mem_of_getElem? (i := 150) (by decide +kernel))) rfl
theorem q_732 : Cond.selects RX2 yX2_allCards yX2_allCards ∈ TB := tbv (tt3 (List.mem_of_getElem? (i := 151) (by decide +kernel))) rfl
theorem q_733 : Cond.code yX2_allCards cX2_allCards 3 (some .int) ∈ TB := tbv (tt3 (List.mem_of_getElem? (i := 152) (by decide +kernel))) rfl
theorem q_734 : Cond.methodLink RX9 147 yX3_allHeld ∈ TB := tbv (tt3 (List.mem_of_getElem? (i := 153) (by decide +kernel))) rfl
theorem q_735 : Cond.instanceMethod yX3_allHeld ∈ TB := tbv (tt3 (List.mem_of_getElem? (i := 154) (by decide +kernel))) rfl
theorem q_736 : Cond.selects RX3 yX3_allHeld yX3_allHeld ∈ TB := tbv (tt3 (List.mem_of_getElem? (i := 155) (by decide +kernel))) rfl
theorem q_737 : Cond.code yX3_allHeld cX3_allHeld 3 (some .int) ∈ TB := tbv (tt3 (List.mem_of_getElem? (i := 156) (by decide +kernel))) rfl
theorem q_742 : Cond.methodLink RX9 150 yX9_isBench ∈ TB := tbv (tt3 (List.mem_of_getElem? (i := 161) (by decide +kernel))) rfl
theorem q_744 : Cond.instanceMethod yX9_isBench ∈ TB := tbv (tt3 (List.mem_of_getElem? (i := 163) (by decide +kernel))) rfl
theorem q_745 : Cond.code yX9_isBench cX9_isBench 2 (some .boolean) ∈ TB := tbv (tt3 (List.mem_of_getElem? (i := 164) (by decide +kernel))) rfl
theorem q_746 : Cond.methodLink RX9 164 yX2_timesAt ∈ TB := tbv (tt3 (List.mem_of_getElem? (i := 165) (by decide +kernel))) rfl
theorem q_747 : Cond.instanceMethod yX2_timesAt ∈ TB := tbv (tt3 (List.mem_of_getElem? (i := 166) (by decide +kernel))) rfl
theorem q_748 : Cond.selects RX2 yX2_timesAt yX2_timesAt ∈ TB := tbv (tt3 (List.mem_of_getElem? (i := 167) (by decide +kernel))) rfl
theorem q_749 : Cond.code yX2_timesAt cX2_timesAt 4 (some .int) ∈ TB := tbv (tt3 (List.mem_of_getElem? (i := 168) (by decide +kernel))) rfl
theorem q_755 : Cond.methodLink RX9 167 yX9_isKind ∈ TB := tbv (tt3 (List.mem_of_getElem? (i := 174) (by decide +kernel))) rfl
theorem q_757 : Cond.instanceMethod yX9_isKind ∈ TB := tbv (tt3 (List.mem_of_getElem? (i := 176) (by decide +kernel))) rfl
theorem q_758 : Cond.code yX9_isKind cX9_isKind 2 (some .boolean) ∈ TB := tbv (tt3 (List.mem_of_getElem? (i := 177) (by decide +kernel))) rfl
theorem q_759 : Cond.methodLink RX9 173 yX9_cell ∈ TB := tbv (tt3 (List.mem_of_getElem? (i := 178) (by decide +kernel))) rfl
theorem q_768 : Cond.methodLink RX9 195 yX3_free ∈ TB := tbv (tt3 (List.mem_of_getElem? (i := 187) (by decide +kernel))) rfl
theorem q_769 : Cond.instanceMethod yX3_free ∈ TB := tbv (tt3 (List.mem_of_getElem? (i := 188) (by decide +kernel))) rfl
theorem q_770 : Cond.selects RX3 yX3_free yX3_free ∈ TB := tbv (tt3 (List.mem_of_getElem? (i := 189) (by decide +kernel))) rfl
theorem q_771 : Cond.code yX3_free cX3_free 2 (some .int) ∈ TB := tbv (tt3 (List.mem_of_getElem? (i := 190) (by decide +kernel))) rfl
theorem q_780 : Cond.methodLink RX9 201 yX3_passMinute ∈ TB := tbv (tt3 (List.mem_of_getElem? (i := 199) (by decide +kernel))) rfl
theorem q_781 : Cond.instanceMethod yX3_passMinute ∈ TB := tbv (tt3 (List.mem_of_getElem? (i := 200) (by decide +kernel))) rfl
theorem q_782 : Cond.selects RX3 yX3_passMinute yX3_passMinute ∈ TB := tbv (tt3 (List.mem_of_getElem? (i := 201) (by decide +kernel))) rfl
theorem q_783 : Cond.code yX3_passMinute cX3_passMinute 1 none ∈ TB := tbv (tt3 (List.mem_of_getElem? (i := 202) (by decide +kernel))) rfl
theorem q_784 : Cond.methodLink RX3 89 yX3_ageOrders ∈ TB := tbv (tt3 (List.mem_of_getElem? (i := 203) (by decide +kernel))) rfl
theorem q_786 : Cond.instanceMethod yX3_ageOrders ∈ TB := tbv (tt3 (List.mem_of_getElem? (i := 205) (by decide +kernel))) rfl
theorem q_787 : Cond.code yX3_ageOrders cX3_ageOrders 2 none ∈ TB := tbv (tt3 (List.mem_of_getElem? (i := 206) (by decide +kernel))) rfl
theorem q_788 : Cond.methodLink RX3 92 yX3_change ∈ TB := tbv (tt3 (List.mem_of_getElem? (i := 207) (by decide +kernel))) rfl
theorem q_789 : Cond.instanceMethod yX3_change ∈ TB := tbv (tt3 (List.mem_of_getElem? (i := 208) (by decide +kernel))) rfl
theorem q_790 : Cond.selects RX3 yX3_change yX3_change ∈ TB := tbv (tt3 (List.mem_of_getElem? (i := 209) (by decide +kernel))) rfl
theorem q_791 : Cond.code yX3_change cX3_change 3 none ∈ TB := tbv (tt3 (List.mem_of_getElem? (i := 210) (by decide +kernel))) rfl
theorem q_792 : Cond.methodLink RX3 131 yX3_endAt ∈ TB := tbv (tt3 (List.mem_of_getElem? (i := 211) (by decide +kernel))) rfl
theorem q_794 : Cond.instanceMethod yX3_endAt ∈ TB := tbv (tt3 (List.mem_of_getElem? (i := 213) (by decide +kernel))) rfl
theorem q_795 : Cond.code yX3_endAt cX3_endAt 2 none ∈ TB := tbv (tt3 (List.mem_of_getElem? (i := 214) (by decide +kernel))) rfl
theorem q_797 : Cond.static yX9_remainder ∈ TB := tbv (tt3 (List.mem_of_getElem? (i := 216) (by decide +kernel))) rfl
theorem q_798 : Cond.code yX9_remainder cX9_remainder 2 (some .int) ∈ TB := tbv (tt3 (List.mem_of_getElem? (i := 217) (by decide +kernel))) rfl
theorem q_799 : Cond.methodLink RX3 135 yX3_takeOrder ∈ TB := tbv (tt3 (List.mem_of_getElem? (i := 218) (by decide +kernel))) rfl
theorem q_801 : Cond.instanceMethod yX3_takeOrder ∈ TB := tbv (tt3 (List.mem_of_getElem? (i := 220) (by decide +kernel))) rfl
theorem q_802 : Cond.code yX3_takeOrder cX3_takeOrder 4 none ∈ TB := tbv (tt3 (List.mem_of_getElem? (i := 221) (by decide +kernel))) rfl
theorem q_803 : Cond.methodLink RX3 141 yX3_deliver ∈ TB := tbv (tt3 (List.mem_of_getElem? (i := 222) (by decide +kernel))) rfl
theorem q_805 : Cond.instanceMethod yX3_deliver ∈ TB := tbv (tt3 (List.mem_of_getElem? (i := 224) (by decide +kernel))) rfl
theorem q_806 : Cond.code yX3_deliver cX3_deliver 4 none ∈ TB := tbv (tt3 (List.mem_of_getElem? (i := 225) (by decide +kernel))) rfl
theorem q_807 : Cond.methodLink RX3 113 Lib.Math.min.name ∈ TB := tbv (tt3 (List.mem_of_getElem? (i := 226) (by decide +kernel))) rfl
theorem q_808 : Cond.methodLink RX3 144 yX3_chosen ∈ TB := tbv (tt3 (List.mem_of_getElem? (i := 227) (by decide +kernel))) rfl
theorem q_810 : Cond.instanceMethod yX3_chosen ∈ TB := tbv (tt3 (List.mem_of_getElem? (i := 229) (by decide +kernel))) rfl
theorem q_811 : Cond.code yX3_chosen cX3_chosen 9 (some .int) ∈ TB := tbv (tt3 (List.mem_of_getElem? (i := 230) (by decide +kernel))) rfl
theorem q_812 : Cond.methodLink RX3 172 yX3_freeIfCan ∈ TB := tbv (tt3 (List.mem_of_getElem? (i := 231) (by decide +kernel))) rfl
theorem q_814 : Cond.instanceMethod yX3_freeIfCan ∈ TB := tbv (tt3 (List.mem_of_getElem? (i := 233) (by decide +kernel))) rfl
theorem q_815 : Cond.code yX3_freeIfCan cX3_freeIfCan 4 (some .int) ∈ TB := tbv (tt3 (List.mem_of_getElem? (i := 234) (by decide +kernel))) rfl
theorem q_816 : Cond.methodLink RX3 147 yX3_beginAt ∈ TB := tbv (tt3 (List.mem_of_getElem? (i := 235) (by decide +kernel))) rfl
theorem q_818 : Cond.instanceMethod yX3_beginAt ∈ TB := tbv (tt3 (List.mem_of_getElem? (i := 237) (by decide +kernel))) rfl
theorem q_819 : Cond.code yX3_beginAt cX3_beginAt 5 none ∈ TB := tbv (tt3 (List.mem_of_getElem? (i := 238) (by decide +kernel))) rfl
theorem q_820 : Cond.methodLink RX3 95 yX3_tallyMinute ∈ TB := tbv (tt3 (List.mem_of_getElem? (i := 239) (by decide +kernel))) rfl
theorem q_822 : Cond.instanceMethod yX3_tallyMinute ∈ TB := tbv (tt4 (List.mem_of_getElem? (i := 1) (by decide +kernel))) rfl
theorem q_823 : Cond.code yX3_tallyMinute cX3_tallyMinute 4 none ∈ TB := tbv (tt4 (List.mem_of_getElem? (i := 2) (by decide +kernel))) rfl
theorem q_824 : Cond.methodLink RX3 175 yX3_sortOf ∈ TB := tbv (tt4 (List.mem_of_getElem? (i := 3) (by decide +kernel))) rfl
theorem q_826 : Cond.instanceMethod yX3_sortOf ∈ TB := tbv (tt4 (List.mem_of_getElem? (i := 5) (by decide +kernel))) rfl
theorem q_827 : Cond.code yX3_sortOf cX3_sortOf 3 (some .int) ∈ TB := tbv (tt4 (List.mem_of_getElem? (i := 6) (by decide +kernel))) rfl
theorem q_828 : Cond.methodLink RX3 178 yX3_free ∈ TB := tbv (tt4 (List.mem_of_getElem? (i := 7) (by decide +kernel))) rfl
theorem q_833 : Cond.methodLink RX9 210 yX3_minutesLeft ∈ TB := tbv (tt4 (List.mem_of_getElem? (i := 12) (by decide +kernel))) rfl
theorem q_834 : Cond.instanceMethod yX3_minutesLeft ∈ TB := tbv (tt4 (List.mem_of_getElem? (i := 13) (by decide +kernel))) rfl
theorem q_835 : Cond.selects RX3 yX3_minutesLeft yX3_minutesLeft ∈ TB := tbv (tt4 (List.mem_of_getElem? (i := 14) (by decide +kernel))) rfl
theorem q_836 : Cond.code yX3_minutesLeft cX3_minutesLeft 2 (some .int) ∈ TB := tbv (tt4 (List.mem_of_getElem? (i := 15) (by decide +kernel))) rfl
theorem q_841 : Cond.methodLink RX9 216 yX3_minutesOf ∈ TB := tbv (tt4 (List.mem_of_getElem? (i := 20) (by decide +kernel))) rfl
theorem q_842 : Cond.instanceMethod yX3_minutesOf ∈ TB := tbv (tt4 (List.mem_of_getElem? (i := 21) (by decide +kernel))) rfl
theorem q_843 : Cond.selects RX3 yX3_minutesOf yX3_minutesOf ∈ TB := tbv (tt4 (List.mem_of_getElem? (i := 22) (by decide +kernel))) rfl
theorem q_844 : Cond.code yX3_minutesOf cX3_minutesOf 3 (some .int) ∈ TB := tbv (tt4 (List.mem_of_getElem? (i := 23) (by decide +kernel))) rfl
theorem q_865 : Cond.methodLink RX9 240 yX9_commonDivisor ∈ TB := tbv (tt4 (List.mem_of_getElem? (i := 44) (by decide +kernel))) rfl
theorem q_866 : Cond.static yX9_commonDivisor ∈ TB := tbv (tt4 (List.mem_of_getElem? (i := 45) (by decide +kernel))) rfl
theorem q_867 : Cond.code yX9_commonDivisor cX9_commonDivisor 6 (some .int) ∈ TB := tbv (tt4 (List.mem_of_getElem? (i := 46) (by decide +kernel))) rfl
theorem q_868 : Cond.methodLink RX9 243 yX9_remainder ∈ TB := tbv (tt4 (List.mem_of_getElem? (i := 47) (by decide +kernel))) rfl
theorem q_873 : Cond.methodLink RX9 246 yX3_busiestBench ∈ TB := tbv (tt4 (List.mem_of_getElem? (i := 52) (by decide +kernel))) rfl
theorem q_874 : Cond.instanceMethod yX3_busiestBench ∈ TB := tbv (tt4 (List.mem_of_getElem? (i := 53) (by decide +kernel))) rfl
theorem q_875 : Cond.selects RX3 yX3_busiestBench yX3_busiestBench ∈ TB := tbv (tt4 (List.mem_of_getElem? (i := 54) (by decide +kernel))) rfl
theorem q_876 : Cond.code yX3_busiestBench cX3_busiestBench 3 (some .int) ∈ TB := tbv (tt4 (List.mem_of_getElem? (i := 55) (by decide +kernel))) rfl
theorem q_877 : Cond.methodLink RX3 184 yX3_minutesOf ∈ TB := tbv (tt4 (List.mem_of_getElem? (i := 56) (by decide +kernel))) rfl
theorem q_882 : Cond.methodLink RX9 249 yX9_refusesPaper ∈ TB := tbv (tt4 (List.mem_of_getElem? (i := 61) (by decide +kernel))) rfl
theorem q_884 : Cond.instanceMethod yX9_refusesPaper ∈ TB := tbv (tt4 (List.mem_of_getElem? (i := 63) (by decide +kernel))) rfl
theorem q_885 : Cond.code yX9_refusesPaper cX9_refusesPaper 2 (some .boolean) ∈ TB := tbv (tt4 (List.mem_of_getElem? (i := 64) (by decide +kernel))) rfl
theorem q_886 : Cond.methodLink RX9 252 yX4_asNow ∈ TB := tbv (tt4 (List.mem_of_getElem? (i := 65) (by decide +kernel))) rfl
theorem q_887 : Cond.instanceMethod yX4_asNow ∈ TB := tbv (tt4 (List.mem_of_getElem? (i := 66) (by decide +kernel))) rfl
theorem q_888 : Cond.selects RX4 yX4_asNow yX4_asNow ∈ TB := tbv (tt4 (List.mem_of_getElem? (i := 67) (by decide +kernel))) rfl
theorem q_889 : Cond.code yX4_asNow cX4_asNow 2 (some .int) ∈ TB := tbv (tt4 (List.mem_of_getElem? (i := 68) (by decide +kernel))) rfl
theorem q_890 : Cond.methodLink RX4 46 yX2_copy ∈ TB := tbv (tt4 (List.mem_of_getElem? (i := 69) (by decide +kernel))) rfl
theorem q_891 : Cond.methodLink RX4 50 yX4_tried ∈ TB := tbv (tt4 (List.mem_of_getElem? (i := 70) (by decide +kernel))) rfl
theorem q_893 : Cond.instanceMethod yX4_tried ∈ TB := tbv (tt4 (List.mem_of_getElem? (i := 72) (by decide +kernel))) rfl
theorem q_894 : Cond.code yX4_tried cX4_tried 2 (some .int) ∈ TB := tbv (tt4 (List.mem_of_getElem? (i := 73) (by decide +kernel))) rfl
theorem q_895 : Cond.methodLink RX4 34 yX3_start ∈ TB := tbv (tt4 (List.mem_of_getElem? (i := 74) (by decide +kernel))) rfl
theorem q_896 : Cond.methodLink RX4 38 yX3_hurryTo ∈ TB := tbv (tt4 (List.mem_of_getElem? (i := 75) (by decide +kernel))) rfl
theorem q_897 : Cond.instanceMethod yX3_hurryTo ∈ TB := tbv (tt4 (List.mem_of_getElem? (i := 76) (by decide +kernel))) rfl
theorem q_898 : Cond.selects RX3 yX3_hurryTo yX3_hurryTo ∈ TB := tbv (tt4 (List.mem_of_getElem? (i := 77) (by decide +kernel))) rfl
theorem q_899 : Cond.code yX3_hurryTo cX3_hurryTo 3 none ∈ TB := tbv (tt4 (List.mem_of_getElem? (i := 78) (by decide +kernel))) rfl
theorem q_900 : Cond.methodLink RX3 98 yX3_nextChange ∈ TB := tbv (tt4 (List.mem_of_getElem? (i := 79) (by decide +kernel))) rfl
theorem q_902 : Cond.instanceMethod yX3_nextChange ∈ TB := tbv (tt4 (List.mem_of_getElem? (i := 81) (by decide +kernel))) rfl
theorem q_903 : Cond.code yX3_nextChange cX3_nextChange 4 (some .int) ∈ TB := tbv (tt4 (List.mem_of_getElem? (i := 82) (by decide +kernel))) rfl
theorem q_904 : Cond.methodLink RX3 110 yX3_nextOrder ∈ TB := tbv (tt4 (List.mem_of_getElem? (i := 83) (by decide +kernel))) rfl
theorem q_906 : Cond.instanceMethod yX3_nextOrder ∈ TB := tbv (tt4 (List.mem_of_getElem? (i := 85) (by decide +kernel))) rfl
theorem q_907 : Cond.code yX3_nextOrder cX3_nextOrder 4 (some .int) ∈ TB := tbv (tt4 (List.mem_of_getElem? (i := 86) (by decide +kernel))) rfl
theorem q_912 : Cond.methodLink RX9 255 yX4_withCards ∈ TB := tbv (tt4 (List.mem_of_getElem? (i := 91) (by decide +kernel))) rfl
theorem q_913 : Cond.instanceMethod yX4_withCards ∈ TB := tbv (tt4 (List.mem_of_getElem? (i := 92) (by decide +kernel))) rfl
theorem q_914 : Cond.selects RX4 yX4_withCards yX4_withCards ∈ TB := tbv (tt4 (List.mem_of_getElem? (i := 93) (by decide +kernel))) rfl
theorem q_915 : Cond.code yX4_withCards cX4_withCards 4 (some .int) ∈ TB := tbv (tt4 (List.mem_of_getElem? (i := 94) (by decide +kernel))) rfl
theorem q_920 : Cond.methodLink RX9 259 yX4_fewestFor ∈ TB := tbv (tt4 (List.mem_of_getElem? (i := 99) (by decide +kernel))) rfl
theorem q_921 : Cond.instanceMethod yX4_fewestFor ∈ TB := tbv (tt4 (List.mem_of_getElem? (i := 100) (by decide +kernel))) rfl
theorem q_922 : Cond.selects RX4 yX4_fewestFor yX4_fewestFor ∈ TB := tbv (tt4 (List.mem_of_getElem? (i := 101) (by decide +kernel))) rfl
theorem q_923 : Cond.code yX4_fewestFor cX4_fewestFor 6 (some .int) ∈ TB := tbv (tt4 (List.mem_of_getElem? (i := 102) (by decide +kernel))) rfl
theorem q_929 : Cond.methodLink RX9 262 yX4_takeOut ∈ TB := tbv (tt4 (List.mem_of_getElem? (i := 108) (by decide +kernel))) rfl
theorem q_930 : Cond.instanceMethod yX4_takeOut ∈ TB := tbv (tt4 (List.mem_of_getElem? (i := 109) (by decide +kernel))) rfl
theorem q_931 : Cond.selects RX4 yX4_takeOut yX4_takeOut ∈ TB := tbv (tt4 (List.mem_of_getElem? (i := 110) (by decide +kernel))) rfl
theorem q_932 : Cond.code yX4_takeOut cX4_takeOut 7 none ∈ TB := tbv (tt4 (List.mem_of_getElem? (i := 111) (by decide +kernel))) rfl
theorem q_933 : Cond.methodLink RX4 70 yX4_asNow ∈ TB := tbv (tt4 (List.mem_of_getElem? (i := 112) (by decide +kernel))) rfl
theorem q_942 : Cond.methodLink RX9 268 yX4_bestCardMore ∈ TB := tbv (tt4 (List.mem_of_getElem? (i := 121) (by decide +kernel))) rfl
theorem q_943 : Cond.instanceMethod yX4_bestCardMore ∈ TB := tbv (tt4 (List.mem_of_getElem? (i := 122) (by decide +kernel))) rfl
theorem q_944 : Cond.selects RX4 yX4_bestCardMore yX4_bestCardMore ∈ TB := tbv (tt4 (List.mem_of_getElem? (i := 123) (by decide +kernel))) rfl
theorem q_945 : Cond.code yX4_bestCardMore cX4_bestCardMore 9 (some .int) ∈ TB := tbv (tt4 (List.mem_of_getElem? (i := 124) (by decide +kernel))) rfl
theorem q_946 : Cond.methodLink RX4 73 yX4_withCards ∈ TB := tbv (tt4 (List.mem_of_getElem? (i := 125) (by decide +kernel))) rfl
theorem q_951 : Cond.methodLink RX9 271 yX4_bestSwiftBench ∈ TB := tbv (tt4 (List.mem_of_getElem? (i := 130) (by decide +kernel))) rfl
theorem q_952 : Cond.instanceMethod yX4_bestSwiftBench ∈ TB := tbv (tt4 (List.mem_of_getElem? (i := 131) (by decide +kernel))) rfl
theorem q_953 : Cond.selects RX4 yX4_bestSwiftBench yX4_bestSwiftBench ∈ TB := tbv (tt4 (List.mem_of_getElem? (i := 132) (by decide +kernel))) rfl
theorem q_954 : Cond.code yX4_bestSwiftBench cX4_bestSwiftBench 6 (some .int) ∈ TB := tbv (tt4 (List.mem_of_getElem? (i := 133) (by decide +kernel))) rfl
theorem q_959 : Cond.methodLink RX9 274 yX4_firstAgain ∈ TB := tbv (tt4 (List.mem_of_getElem? (i := 138) (by decide +kernel))) rfl
theorem q_960 : Cond.instanceMethod yX4_firstAgain ∈ TB := tbv (tt4 (List.mem_of_getElem? (i := 139) (by decide +kernel))) rfl
theorem q_961 : Cond.selects RX4 yX4_firstAgain yX4_firstAgain ∈ TB := tbv (tt4 (List.mem_of_getElem? (i := 140) (by decide +kernel))) rfl
theorem q_962 : Cond.code yX4_firstAgain cX4_firstAgain 3 (some .int) ∈ TB := tbv (tt4 (List.mem_of_getElem? (i := 141) (by decide +kernel))) rfl
theorem q_969 : Cond.fieldLink RX8 13 "PullCards$Trace" "rows" "[J" ∈ TB := tbv (tt4 (List.mem_of_getElem? (i := 148) (by decide +kernel))) rfl
theorem q_970 : Cond.fieldLink RX8 17 "PullCards$Trace" "heads" "[I" ∈ TB := tbv (tt4 (List.mem_of_getElem? (i := 149) (by decide +kernel))) rfl
theorem q_971 : Cond.fieldLink RX8 21 "PullCards$Trace" "chain" "[I" ∈ TB := tbv (tt4 (List.mem_of_getElem? (i := 150) (by decide +kernel))) rfl
theorem q_980 : Cond.methodLink RX4 87 yX8_clear ∈ TB := tbv (tt4 (List.mem_of_getElem? (i := 159) (by decide +kernel))) rfl
theorem q_981 : Cond.instanceMethod yX8_clear ∈ TB := tbv (tt4 (List.mem_of_getElem? (i := 160) (by decide +kernel))) rfl
theorem q_982 : Cond.selects RX8 yX8_clear yX8_clear ∈ TB := tbv (tt4 (List.mem_of_getElem? (i := 161) (by decide +kernel))) rfl
theorem q_983 : Cond.code yX8_clear cX8_clear 1 none ∈ TB := tbv (tt4 (List.mem_of_getElem? (i := 162) (by decide +kernel))) rfl
theorem q_984 : Cond.methodLink RX8 24 yJ7_fill_53178 ∈ TB := tbv (tt4 (List.mem_of_getElem? (i := 163) (by decide +kernel))) rfl
theorem q_985 : Cond.methodLink RX4 90 yX3_change ∈ TB := tbv (tt4 (List.mem_of_getElem? (i := 164) (by decide +kernel))) rfl
theorem q_986 : Cond.methodLink RX4 96 yX3_allStreamsBegun ∈ TB := tbv (tt4 (List.mem_of_getElem? (i := 165) (by decide +kernel))) rfl
theorem q_987 : Cond.instanceMethod yX3_allStreamsBegun ∈ TB := tbv (tt4 (List.mem_of_getElem? (i := 166) (by decide +kernel))) rfl
theorem q_988 : Cond.selects RX3 yX3_allStreamsBegun yX3_allStreamsBegun ∈ TB := tbv (tt4 (List.mem_of_getElem? (i := 167) (by decide +kernel))) rfl
theorem q_989 : Cond.code yX3_allStreamsBegun cX3_allStreamsBegun 2 (some .boolean) ∈ TB := tbv (tt4 (List.mem_of_getElem? (i := 168) (by decide +kernel))) rfl
theorem q_990 : Cond.methodLink RX4 100 yX8_earlierLike ∈ TB := tbv (tt4 (List.mem_of_getElem? (i := 169) (by decide +kernel))) rfl
theorem q_991 : Cond.instanceMethod yX8_earlierLike ∈ TB := tbv (tt4 (List.mem_of_getElem? (i := 170) (by decide +kernel))) rfl
theorem q_992 : Cond.selects RX8 yX8_earlierLike yX8_earlierLike ∈ TB := tbv (tt4 (List.mem_of_getElem? (i := 171) (by decide +kernel))) rfl
theorem q_993 : Cond.code yX8_earlierLike cX8_earlierLike 6 (some .int) ∈ TB := tbv (tt4 (List.mem_of_getElem? (i := 172) (by decide +kernel))) rfl
theorem q_994 : Cond.methodLink RX8 30 yX3_sign ∈ TB := tbv (tt4 (List.mem_of_getElem? (i := 173) (by decide +kernel))) rfl
theorem q_995 : Cond.instanceMethod yX3_sign ∈ TB := tbv (tt4 (List.mem_of_getElem? (i := 174) (by decide +kernel))) rfl
theorem q_996 : Cond.selects RX3 yX3_sign yX3_sign ∈ TB := tbv (tt4 (List.mem_of_getElem? (i := 175) (by decide +kernel))) rfl
theorem q_997 : Cond.code yX3_sign cX3_sign 4 none ∈ TB := tbv (tt4 (List.mem_of_getElem? (i := 176) (by decide +kernel))) rfl
theorem q_998 : Cond.methodLink RX3 187 yX3_signOfBench ∈ TB := tbv (tt4 (List.mem_of_getElem? (i := 177) (by decide +kernel))) rfl
theorem q_1000 : Cond.instanceMethod yX3_signOfBench ∈ TB := tbv (tt4 (List.mem_of_getElem? (i := 179) (by decide +kernel))) rfl
theorem q_1001 : Cond.code yX3_signOfBench cX3_signOfBench 5 (some .long) ∈ TB := tbv (tt4 (List.mem_of_getElem? (i := 180) (by decide +kernel))) rfl
theorem q_1002 : Cond.methodLink RX3 191 yX3_minutesLeft ∈ TB := tbv (tt4 (List.mem_of_getElem? (i := 181) (by decide +kernel))) rfl
theorem q_1003 : Cond.methodLink RX8 34 yX8_bucketOf ∈ TB := tbv (tt4 (List.mem_of_getElem? (i := 182) (by decide +kernel))) rfl
theorem q_1005 : Cond.instanceMethod yX8_bucketOf ∈ TB := tbv (tt4 (List.mem_of_getElem? (i := 184) (by decide +kernel))) rfl
theorem q_1006 : Cond.code yX8_bucketOf cX8_bucketOf 5 (some .int) ∈ TB := tbv (tt4 (List.mem_of_getElem? (i := 185) (by decide +kernel))) rfl
theorem q_1007 : Cond.constantLong RX8 42 (-7046029254386353131) ∈ TB := tbv (tt4 (List.mem_of_getElem? (i := 186) (by decide +kernel))) rfl
theorem q_1008 : Cond.methodLink RX8 38 yX8_isAlike ∈ TB := tbv (tt4 (List.mem_of_getElem? (i := 187) (by decide +kernel))) rfl
theorem q_1010 : Cond.instanceMethod yX8_isAlike ∈ TB := tbv (tt4 (List.mem_of_getElem? (i := 189) (by decide +kernel))) rfl
theorem q_1011 : Cond.code yX8_isAlike cX8_isAlike 5 (some .boolean) ∈ TB := tbv (tt4 (List.mem_of_getElem? (i := 190) (by decide +kernel))) rfl
theorem q_1016 : Cond.methodLink RX9 280 yX0_perform ∈ TB := tbv (tt4 (List.mem_of_getElem? (i := 195) (by decide +kernel))) rfl
theorem q_1017 : Cond.instanceMethod yX0_perform ∈ TB := tbv (tt4 (List.mem_of_getElem? (i := 196) (by decide +kernel))) rfl
theorem q_1018 : Cond.selects RX0 yX0_perform yX0_perform ∈ TB := tbv (tt4 (List.mem_of_getElem? (i := 197) (by decide +kernel))) rfl
theorem q_1019 : Cond.code yX0_perform cX0_perform 5 (some .int) ∈ TB := tbv (tt4 (List.mem_of_getElem? (i := 198) (by decide +kernel))) rfl
theorem q_1020 : Cond.methodLink RX0 20 arraycopyName ∈ TB := tbv (tt4 (List.mem_of_getElem? (i := 199) (by decide +kernel))) rfl
theorem q_1021 : Cond.methodLink RX0 26 yX2_turn ∈ TB := tbv (tt4 (List.mem_of_getElem? (i := 200) (by decide +kernel))) rfl
theorem q_1022 : Cond.instanceMethod yX2_turn ∈ TB := tbv (tt4 (List.mem_of_getElem? (i := 201) (by decide +kernel))) rfl
theorem q_1023 : Cond.selects RX2 yX2_turn yX2_turn ∈ TB := tbv (tt4 (List.mem_of_getElem? (i := 202) (by decide +kernel))) rfl
theorem q_1024 : Cond.code yX2_turn cX2_turn 4 (some .int) ∈ TB := tbv (tt4 (List.mem_of_getElem? (i := 203) (by decide +kernel))) rfl
theorem q_1037 : Cond.methodLink RX9 284 yX0_takeBack ∈ TB := tbv (tt4 (List.mem_of_getElem? (i := 216) (by decide +kernel))) rfl
theorem q_1038 : Cond.instanceMethod yX0_takeBack ∈ TB := tbv (tt4 (List.mem_of_getElem? (i := 217) (by decide +kernel))) rfl
theorem q_1039 : Cond.selects RX0 yX0_takeBack yX0_takeBack ∈ TB := tbv (tt4 (List.mem_of_getElem? (i := 218) (by decide +kernel))) rfl
theorem q_1040 : Cond.code yX0_takeBack cX0_takeBack 2 none ∈ TB := tbv (tt4 (List.mem_of_getElem? (i := 219) (by decide +kernel))) rfl
theorem q_1045 : Cond.methodLink RX9 288 yX3_copy ∈ TB := tbv (tt4 (List.mem_of_getElem? (i := 224) (by decide +kernel))) rfl
theorem q_1046 : Cond.instanceMethod yX3_copy ∈ TB := tbv (tt4 (List.mem_of_getElem? (i := 225) (by decide +kernel))) rfl
theorem q_1047 : Cond.selects RX3 yX3_copy yX3_copy ∈ TB := tbv (tt4 (List.mem_of_getElem? (i := 226) (by decide +kernel))) rfl
theorem q_1048 : Cond.code yX3_copy cX3_copy 2 none ∈ TB := tbv (tt4 (List.mem_of_getElem? (i := 227) (by decide +kernel))) rfl
theorem q_1137 : Cond.fieldLink RX10 74 "PullCardsModel" "thrown" "I" ∈ TB := tbv (tt5 (List.mem_of_getElem? (i := 76) (by decide +kernel))) rfl
theorem q_1138 : Cond.fieldLink RX10 77 "PullCardsModel" "trouble" "I" ∈ TB := tbv (tt5 (List.mem_of_getElem? (i := 77) (by decide +kernel))) rfl
theorem q_1139 : Cond.fieldLink RX10 9 "PullCardsModel" "wrongAt" "I" ∈ TB := tbv (tt5 (List.mem_of_getElem? (i := 78) (by decide +kernel))) rfl
theorem q_1140 : Cond.fieldLink RX10 13 "PullCardsModel" "tape" "[I" ∈ TB := tbv (tt5 (List.mem_of_getElem? (i := 79) (by decide +kernel))) rfl
theorem q_1141 : Cond.fieldLink RX10 80 "PullCardsModel" "taped" "I" ∈ TB := tbv (tt5 (List.mem_of_getElem? (i := 80) (by decide +kernel))) rfl
theorem q_1142 : Cond.fieldLink RX10 92 "PullCardsModel" "size" "I" ∈ TB := tbv (tt5 (List.mem_of_getElem? (i := 81) (by decide +kernel))) rfl
theorem q_1143 : Cond.fieldLink RX10 99 "PullCardsModel" "spot" "I" ∈ TB := tbv (tt5 (List.mem_of_getElem? (i := 82) (by decide +kernel))) rfl
theorem q_1144 : Cond.fieldLink RX10 83 "PullCardsModel" "fault" "I" ∈ TB := tbv (tt5 (List.mem_of_getElem? (i := 83) (by decide +kernel))) rfl
theorem q_1145 : Cond.fieldLink RX10 89 "PullCardsModel" "faultAt" "I" ∈ TB := tbv (tt5 (List.mem_of_getElem? (i := 84) (by decide +kernel))) rfl
theorem q_1146 : Cond.fieldLink RX10 102 "PullCardsModel" "token" "I" ∈ TB := tbv (tt5 (List.mem_of_getElem? (i := 85) (by decide +kernel))) rfl
theorem q_1147 : Cond.fieldLink RX10 86 "PullCardsModel" "at" "I" ∈ TB := tbv (tt5 (List.mem_of_getElem? (i := 86) (by decide +kernel))) rfl
theorem q_1148 : Cond.fieldLink RX10 123 "PullCardsModel" "sign" "I" ∈ TB := tbv (tt5 (List.mem_of_getElem? (i := 87) (by decide +kernel))) rfl
theorem q_1149 : Cond.fieldLink RX10 120 "PullCardsModel" "number" "I" ∈ TB := tbv (tt5 (List.mem_of_getElem? (i := 88) (by decide +kernel))) rfl
theorem q_1150 : Cond.fieldLink RX10 109 "PullCardsModel" "word" "J" ∈ TB := tbv (tt5 (List.mem_of_getElem? (i := 89) (by decide +kernel))) rfl
theorem q_1151 : Cond.fieldLink RX10 17 "PullCardsModel" "kindName" "[J" ∈ TB := tbv (tt5 (List.mem_of_getElem? (i := 90) (by decide +kernel))) rfl
theorem q_1152 : Cond.fieldLink RX10 21 "PullCardsModel" "benchName" "[J" ∈ TB := tbv (tt5 (List.mem_of_getElem? (i := 91) (by decide +kernel))) rfl
theorem q_1153 : Cond.fieldLink RX10 24 "PullCardsModel" "setup" "[I" ∈ TB := tbv (tt5 (List.mem_of_getElem? (i := 92) (by decide +kernel))) rfl
theorem q_1154 : Cond.fieldLink RX10 27 "PullCardsModel" "rest" "[I" ∈ TB := tbv (tt5 (List.mem_of_getElem? (i := 93) (by decide +kernel))) rfl
theorem q_1155 : Cond.fieldLink RX10 30 "PullCardsModel" "every" "[I" ∈ TB := tbv (tt5 (List.mem_of_getElem? (i := 94) (by decide +kernel))) rfl
theorem q_1156 : Cond.fieldLink RX10 33 "PullCardsModel" "streamKind" "[I" ∈ TB := tbv (tt5 (List.mem_of_getElem? (i := 95) (by decide +kernel))) rfl
theorem q_1157 : Cond.fieldLink RX10 36 "PullCardsModel" "streamEvery" "[I" ∈ TB := tbv (tt5 (List.mem_of_getElem? (i := 96) (by decide +kernel))) rfl
theorem q_1158 : Cond.fieldLink RX10 39 "PullCardsModel" "streamFrom" "[I" ∈ TB := tbv (tt5 (List.mem_of_getElem? (i := 97) (by decide +kernel))) rfl
theorem q_1159 : Cond.fieldLink RX10 248 "PullCardsModel" "kinds" "I" ∈ TB := tbv (tt5 (List.mem_of_getElem? (i := 98) (by decide +kernel))) rfl
theorem q_1160 : Cond.fieldLink RX10 242 "PullCardsModel" "benches" "I" ∈ TB := tbv (tt5 (List.mem_of_getElem? (i := 99) (by decide +kernel))) rfl
theorem q_1161 : Cond.fieldLink RX10 251 "PullCardsModel" "streams" "I" ∈ TB := tbv (tt5 (List.mem_of_getElem? (i := 100) (by decide +kernel))) rfl
theorem q_1162 : Cond.fieldLink RX10 172 "PullCardsModel" "readKinds" "I" ∈ TB := tbv (tt5 (List.mem_of_getElem? (i := 101) (by decide +kernel))) rfl
theorem q_1163 : Cond.fieldLink RX10 175 "PullCardsModel" "readBenches" "I" ∈ TB := tbv (tt5 (List.mem_of_getElem? (i := 102) (by decide +kernel))) rfl
theorem q_1164 : Cond.fieldLink RX10 210 "PullCardsModel" "readStreams" "I" ∈ TB := tbv (tt5 (List.mem_of_getElem? (i := 103) (by decide +kernel))) rfl
theorem q_1165 : Cond.fieldLink RX10 257 "PullCardsModel" "hasText" "Z" ∈ TB := tbv (tt5 (List.mem_of_getElem? (i := 104) (by decide +kernel))) rfl
theorem q_1166 : Cond.fieldLink RX10 213 "PullCardsModel" "hasRule" "Z" ∈ TB := tbv (tt5 (List.mem_of_getElem? (i := 105) (by decide +kernel))) rfl
theorem q_1167 : Cond.fieldLink RX10 42 "PullCardsModel" "ways" "[I" ∈ TB := tbv (tt5 (List.mem_of_getElem? (i := 106) (by decide +kernel))) rfl
theorem q_1168 : Cond.fieldLink RX10 45 "PullCardsModel" "readWays" "[I" ∈ TB := tbv (tt5 (List.mem_of_getElem? (i := 107) (by decide +kernel))) rfl
theorem q_1169 : Cond.fieldLink RX10 48 "PullCardsModel" "paperWays" "[I" ∈ TB := tbv (tt5 (List.mem_of_getElem? (i := 108) (by decide +kernel))) rfl
theorem q_1170 : Cond.fieldLink RX10 51 "PullCardsModel" "past" "[I" ∈ TB := tbv (tt5 (List.mem_of_getElem? (i := 109) (by decide +kernel))) rfl
theorem q_1171 : Cond.fieldLink RX10 54 "PullCardsModel" "imageWays" "[I" ∈ TB := tbv (tt5 (List.mem_of_getElem? (i := 110) (by decide +kernel))) rfl
theorem q_1172 : Cond.fieldLink RX10 254 "PullCardsModel" "acts" "I" ∈ TB := tbv (tt5 (List.mem_of_getElem? (i := 111) (by decide +kernel))) rfl
theorem q_1173 : Cond.fieldLink RX10 57 "PullCardsModel" "run" "[I" ∈ TB := tbv (tt5 (List.mem_of_getElem? (i := 112) (by decide +kernel))) rfl
theorem q_1174 : Cond.fieldLink RX10 60 "PullCardsModel" "paper" "[I" ∈ TB := tbv (tt5 (List.mem_of_getElem? (i := 113) (by decide +kernel))) rfl
theorem q_1175 : Cond.fieldLink RX10 63 "PullCardsModel" "imageRun" "[I" ∈ TB := tbv (tt5 (List.mem_of_getElem? (i := 114) (by decide +kernel))) rfl
theorem q_1176 : Cond.fieldLink RX10 66 "PullCardsModel" "kept" "[Z" ∈ TB := tbv (tt5 (List.mem_of_getElem? (i := 115) (by decide +kernel))) rfl
theorem q_1177 : Cond.fieldLink RX10 71 "PullCardsModel" "stands" "[I" ∈ TB := tbv (tt5 (List.mem_of_getElem? (i := 116) (by decide +kernel))) rfl
theorem q_1282 : Cond.methodLink RX10 95 yX10_in ∈ TB := tbv (tt5 (List.mem_of_getElem? (i := 221) (by decide +kernel))) rfl
theorem q_1283 : Cond.static yX10_in ∈ TB := tbv (tt5 (List.mem_of_getElem? (i := 222) (by decide +kernel))) rfl
theorem q_1284 : Cond.code yX10_in cX10_in 3 (some .boolean) ∈ TB := tbv (tt5 (List.mem_of_getElem? (i := 223) (by decide +kernel))) rfl
theorem q_1285 : Cond.methodLink RX10 232 yX10_refused ∈ TB := tbv (tt5 (List.mem_of_getElem? (i := 224) (by decide +kernel))) rfl
theorem q_1287 : Cond.instanceMethod yX10_refused ∈ TB := tbv (tt5 (List.mem_of_getElem? (i := 226) (by decide +kernel))) rfl
theorem q_1288 : Cond.code yX10_refused cX10_refused 2 (some .int) ∈ TB := tbv (tt5 (List.mem_of_getElem? (i := 227) (by decide +kernel))) rfl
theorem q_1289 : Cond.methodLink RX10 144 yX10_goOn ∈ TB := tbv (tt5 (List.mem_of_getElem? (i := 228) (by decide +kernel))) rfl
theorem q_1291 : Cond.instanceMethod yX10_goOn ∈ TB := tbv (tt5 (List.mem_of_getElem? (i := 230) (by decide +kernel))) rfl
theorem q_1292 : Cond.code yX10_goOn cX10_goOn 1 none ∈ TB := tbv (tt5 (List.mem_of_getElem? (i := 231) (by decide +kernel))) rfl
theorem q_1293 : Cond.methodLink RX10 105 yX10_isLetterAt ∈ TB := tbv (tt5 (List.mem_of_getElem? (i := 232) (by decide +kernel))) rfl
theorem q_1295 : Cond.instanceMethod yX10_isLetterAt ∈ TB := tbv (tt5 (List.mem_of_getElem? (i := 234) (by decide +kernel))) rfl
theorem q_1296 : Cond.code yX10_isLetterAt cX10_isLetterAt 2 (some .boolean) ∈ TB := tbv (tt5 (List.mem_of_getElem? (i := 235) (by decide +kernel))) rfl
theorem q_1297 : Cond.constantLong RX10 113 32 ∈ TB := tbv (tt5 (List.mem_of_getElem? (i := 236) (by decide +kernel))) rfl
theorem q_1298 : Cond.constantLong RX10 115 97 ∈ TB := tbv (tt5 (List.mem_of_getElem? (i := 237) (by decide +kernel))) rfl
theorem q_1299 : Cond.methodLink RX10 117 yX10_isDigitAt ∈ TB := tbv (tt5 (List.mem_of_getElem? (i := 238) (by decide +kernel))) rfl
theorem q_1301 : Cond.instanceMethod yX10_isDigitAt ∈ TB := tbv (tt6 (List.mem_of_getElem? (i := 0) (by decide +kernel))) rfl
theorem q_1302 : Cond.code yX10_isDigitAt cX10_isDigitAt 2 (some .boolean) ∈ TB := tbv (tt6 (List.mem_of_getElem? (i := 1) (by decide +kernel))) rfl
theorem q_1303 : Cond.methodLink RX10 236 yX10_readLine ∈ TB := tbv (tt6 (List.mem_of_getElem? (i := 2) (by decide +kernel))) rfl
theorem q_1305 : Cond.instanceMethod yX10_readLine ∈ TB := tbv (tt6 (List.mem_of_getElem? (i := 4) (by decide +kernel))) rfl
theorem q_1306 : Cond.code yX10_readLine cX10_readLine 1 none ∈ TB := tbv (tt6 (List.mem_of_getElem? (i := 5) (by decide +kernel))) rfl
theorem q_1308 : Cond.methodLink RX10 140 yX10_isWord ∈ TB := tbv (tt6 (List.mem_of_getElem? (i := 7) (by decide +kernel))) rfl
theorem q_1310 : Cond.instanceMethod yX10_isWord ∈ TB := tbv (tt6 (List.mem_of_getElem? (i := 9) (by decide +kernel))) rfl
theorem q_1311 : Cond.code yX10_isWord cX10_isWord 2 (some .boolean) ∈ TB := tbv (tt6 (List.mem_of_getElem? (i := 10) (by decide +kernel))) rfl
theorem q_1312 : Cond.methodLink RX10 136 yX10_wordOf ∈ TB := tbv (tt6 (List.mem_of_getElem? (i := 11) (by decide +kernel))) rfl
theorem q_1313 : Cond.static yX10_wordOf ∈ TB := tbv (tt6 (List.mem_of_getElem? (i := 12) (by decide +kernel))) rfl
theorem q_1314 : Cond.code yX10_wordOf cX10_wordOf 4 (some .long) ∈ TB := tbv (tt6 (List.mem_of_getElem? (i := 13) (by decide +kernel))) rfl
theorem q_1324 : Cond.methodLink RX10 217 yX10_readWare ∈ TB := tbv (tt6 (List.mem_of_getElem? (i := 23) (by decide +kernel))) rfl
theorem q_1326 : Cond.instanceMethod yX10_readWare ∈ TB := tbv (tt6 (List.mem_of_getElem? (i := 25) (by decide +kernel))) rfl
theorem q_1327 : Cond.code yX10_readWare cX10_readWare 3 none ∈ TB := tbv (tt6 (List.mem_of_getElem? (i := 26) (by decide +kernel))) rfl
theorem q_1328 : Cond.methodLink RX10 147 yX10_flaw ∈ TB := tbv (tt6 (List.mem_of_getElem? (i := 27) (by decide +kernel))) rfl
theorem q_1330 : Cond.instanceMethod yX10_flaw ∈ TB := tbv (tt6 (List.mem_of_getElem? (i := 29) (by decide +kernel))) rfl
theorem q_1331 : Cond.code yX10_flaw cX10_flaw 2 none ∈ TB := tbv (tt6 (List.mem_of_getElem? (i := 30) (by decide +kernel))) rfl
theorem q_1332 : Cond.methodLink RX10 188 yX10_readNew ∈ TB := tbv (tt6 (List.mem_of_getElem? (i := 31) (by decide +kernel))) rfl
theorem q_1334 : Cond.instanceMethod yX10_readNew ∈ TB := tbv (tt6 (List.mem_of_getElem? (i := 33) (by decide +kernel))) rfl
theorem q_1335 : Cond.code yX10_readNew cX10_readNew 3 (some .long) ∈ TB := tbv (tt6 (List.mem_of_getElem? (i := 34) (by decide +kernel))) rfl
theorem q_1336 : Cond.methodLink RX10 178 yX10_isOwn ∈ TB := tbv (tt6 (List.mem_of_getElem? (i := 35) (by decide +kernel))) rfl
theorem q_1338 : Cond.instanceMethod yX10_isOwn ∈ TB := tbv (tt6 (List.mem_of_getElem? (i := 37) (by decide +kernel))) rfl
theorem q_1339 : Cond.code yX10_isOwn cX10_isOwn 2 (some .boolean) ∈ TB := tbv (tt6 (List.mem_of_getElem? (i := 38) (by decide +kernel))) rfl
theorem q_1351 : Cond.methodLink RX10 182 yX10_kindOf ∈ TB := tbv (tt6 (List.mem_of_getElem? (i := 50) (by decide +kernel))) rfl
theorem q_1353 : Cond.instanceMethod yX10_kindOf ∈ TB := tbv (tt6 (List.mem_of_getElem? (i := 52) (by decide +kernel))) rfl
theorem q_1354 : Cond.code yX10_kindOf cX10_kindOf 2 (some .int) ∈ TB := tbv (tt6 (List.mem_of_getElem? (i := 53) (by decide +kernel))) rfl
theorem q_1355 : Cond.methodLink RX10 185 yX10_benchOf ∈ TB := tbv (tt6 (List.mem_of_getElem? (i := 54) (by decide +kernel))) rfl
theorem q_1357 : Cond.instanceMethod yX10_benchOf ∈ TB := tbv (tt6 (List.mem_of_getElem? (i := 56) (by decide +kernel))) rfl
theorem q_1358 : Cond.code yX10_benchOf cX10_benchOf 2 (some .int) ∈ TB := tbv (tt6 (List.mem_of_getElem? (i := 57) (by decide +kernel))) rfl
theorem q_1359 : Cond.methodLink RX10 220 yX10_readBench ∈ TB := tbv (tt6 (List.mem_of_getElem? (i := 58) (by decide +kernel))) rfl
theorem q_1361 : Cond.instanceMethod yX10_readBench ∈ TB := tbv (tt6 (List.mem_of_getElem? (i := 60) (by decide +kernel))) rfl
theorem q_1362 : Cond.code yX10_readBench cX10_readBench 7 none ∈ TB := tbv (tt6 (List.mem_of_getElem? (i := 61) (by decide +kernel))) rfl
theorem q_1363 : Cond.methodLink RX10 192 yX10_isSign ∈ TB := tbv (tt6 (List.mem_of_getElem? (i := 62) (by decide +kernel))) rfl
theorem q_1365 : Cond.instanceMethod yX10_isSign ∈ TB := tbv (tt6 (List.mem_of_getElem? (i := 64) (by decide +kernel))) rfl
theorem q_1366 : Cond.code yX10_isSign cX10_isSign 2 (some .boolean) ∈ TB := tbv (tt6 (List.mem_of_getElem? (i := 65) (by decide +kernel))) rfl
theorem q_1367 : Cond.methodLink RX10 195 yX10_readWhole ∈ TB := tbv (tt6 (List.mem_of_getElem? (i := 66) (by decide +kernel))) rfl
theorem q_1369 : Cond.instanceMethod yX10_readWhole ∈ TB := tbv (tt6 (List.mem_of_getElem? (i := 68) (by decide +kernel))) rfl
theorem q_1370 : Cond.code yX10_readWhole cX10_readWhole 4 (some .int) ∈ TB := tbv (tt6 (List.mem_of_getElem? (i := 69) (by decide +kernel))) rfl
theorem q_1371 : Cond.methodLink RX10 199 yX10_passes ∈ TB := tbv (tt6 (List.mem_of_getElem? (i := 70) (by decide +kernel))) rfl
theorem q_1373 : Cond.instanceMethod yX10_passes ∈ TB := tbv (tt6 (List.mem_of_getElem? (i := 72) (by decide +kernel))) rfl
theorem q_1374 : Cond.code yX10_passes cX10_passes 2 (some .boolean) ∈ TB := tbv (tt6 (List.mem_of_getElem? (i := 73) (by decide +kernel))) rfl
theorem q_1375 : Cond.methodLink RX10 202 yX10_needs ∈ TB := tbv (tt6 (List.mem_of_getElem? (i := 74) (by decide +kernel))) rfl
theorem q_1377 : Cond.instanceMethod yX10_needs ∈ TB := tbv (tt6 (List.mem_of_getElem? (i := 76) (by decide +kernel))) rfl
theorem q_1378 : Cond.code yX10_needs cX10_needs 2 none ∈ TB := tbv (tt6 (List.mem_of_getElem? (i := 77) (by decide +kernel))) rfl
theorem q_1379 : Cond.methodLink RX10 223 yX10_readCards ∈ TB := tbv (tt6 (List.mem_of_getElem? (i := 78) (by decide +kernel))) rfl
theorem q_1381 : Cond.instanceMethod yX10_readCards ∈ TB := tbv (tt6 (List.mem_of_getElem? (i := 80) (by decide +kernel))) rfl
theorem q_1382 : Cond.code yX10_readCards cX10_readCards 4 none ∈ TB := tbv (tt6 (List.mem_of_getElem? (i := 81) (by decide +kernel))) rfl
theorem q_1383 : Cond.methodLink RX10 206 yX10_readTold ∈ TB := tbv (tt6 (List.mem_of_getElem? (i := 82) (by decide +kernel))) rfl
theorem q_1385 : Cond.instanceMethod yX10_readTold ∈ TB := tbv (tt6 (List.mem_of_getElem? (i := 84) (by decide +kernel))) rfl
theorem q_1386 : Cond.code yX10_readTold cX10_readTold 3 (some .int) ∈ TB := tbv (tt6 (List.mem_of_getElem? (i := 85) (by decide +kernel))) rfl
theorem q_1387 : Cond.methodLink RX10 226 yX10_readOrder ∈ TB := tbv (tt6 (List.mem_of_getElem? (i := 86) (by decide +kernel))) rfl
theorem q_1389 : Cond.instanceMethod yX10_readOrder ∈ TB := tbv (tt6 (List.mem_of_getElem? (i := 88) (by decide +kernel))) rfl
theorem q_1390 : Cond.code yX10_readOrder cX10_readOrder 4 none ∈ TB := tbv (tt6 (List.mem_of_getElem? (i := 89) (by decide +kernel))) rfl
theorem q_1391 : Cond.methodLink RX10 229 yX10_readRule ∈ TB := tbv (tt6 (List.mem_of_getElem? (i := 90) (by decide +kernel))) rfl
theorem q_1393 : Cond.instanceMethod yX10_readRule ∈ TB := tbv (tt6 (List.mem_of_getElem? (i := 92) (by decide +kernel))) rfl
theorem q_1394 : Cond.code yX10_readRule cX10_readRule 2 none ∈ TB := tbv (tt6 (List.mem_of_getElem? (i := 93) (by decide +kernel))) rfl
theorem q_1395 : Cond.methodLink RX10 239 yX10_becomes ∈ TB := tbv (tt6 (List.mem_of_getElem? (i := 94) (by decide +kernel))) rfl
theorem q_1397 : Cond.instanceMethod yX10_becomes ∈ TB := tbv (tt6 (List.mem_of_getElem? (i := 96) (by decide +kernel))) rfl
theorem q_1398 : Cond.code yX10_becomes cX10_becomes 2 none ∈ TB := tbv (tt6 (List.mem_of_getElem? (i := 97) (by decide +kernel))) rfl
theorem q_1399 : Cond.methodLink RX10 260 yX10_begins ∈ TB := tbv (tt6 (List.mem_of_getElem? (i := 98) (by decide +kernel))) rfl
theorem q_1401 : Cond.instanceMethod yX10_begins ∈ TB := tbv (tt6 (List.mem_of_getElem? (i := 100) (by decide +kernel))) rfl
theorem q_1402 : Cond.code yX10_begins cX10_begins 3 none ∈ TB := tbv (tt6 (List.mem_of_getElem? (i := 101) (by decide +kernel))) rfl
theorem q_1403 : Cond.methodLink RX10 264 yX10_of ∈ TB := tbv (tt6 (List.mem_of_getElem? (i := 102) (by decide +kernel))) rfl
theorem q_1404 : Cond.static yX10_of ∈ TB := tbv (tt6 (List.mem_of_getElem? (i := 103) (by decide +kernel))) rfl
theorem q_1405 : Cond.code yX10_of cX10_of 2 (some .int) ∈ TB := tbv (tt6 (List.mem_of_getElem? (i := 104) (by decide +kernel))) rfl
theorem q_1406 : Cond.methodLink RX10 245 yX10_good ∈ TB := tbv (tt6 (List.mem_of_getElem? (i := 105) (by decide +kernel))) rfl
theorem q_1408 : Cond.instanceMethod yX10_good ∈ TB := tbv (tt6 (List.mem_of_getElem? (i := 107) (by decide +kernel))) rfl
theorem q_1409 : Cond.code yX10_good cX10_good 2 (some .int) ∈ TB := tbv (tt6 (List.mem_of_getElem? (i := 108) (by decide +kernel))) rfl
theorem q_1414 : Cond.methodLink RX10 310 yX10_toldCards ∈ TB := tbv (tt6 (List.mem_of_getElem? (i := 113) (by decide +kernel))) rfl
theorem q_1416 : Cond.instanceMethod yX10_toldCards ∈ TB := tbv (tt6 (List.mem_of_getElem? (i := 115) (by decide +kernel))) rfl
theorem q_1417 : Cond.code yX10_toldCards cX10_toldCards 4 (some .int) ∈ TB := tbv (tt6 (List.mem_of_getElem? (i := 116) (by decide +kernel))) rfl
theorem q_1418 : Cond.methodLink RX10 313 yX10_heldCards ∈ TB := tbv (tt6 (List.mem_of_getElem? (i := 117) (by decide +kernel))) rfl
theorem q_1420 : Cond.instanceMethod yX10_heldCards ∈ TB := tbv (tt6 (List.mem_of_getElem? (i := 119) (by decide +kernel))) rfl
theorem q_1421 : Cond.code yX10_heldCards cX10_heldCards 4 (some .int) ∈ TB := tbv (tt6 (List.mem_of_getElem? (i := 120) (by decide +kernel))) rfl
theorem q_1422 : Cond.methodLink RX10 267 yX10_store ∈ TB := tbv (tt6 (List.mem_of_getElem? (i := 121) (by decide +kernel))) rfl
theorem q_1423 : Cond.static yX10_store ∈ TB := tbv (tt6 (List.mem_of_getElem? (i := 122) (by decide +kernel))) rfl
theorem q_1424 : Cond.code yX10_store cX10_store 2 (some .int) ∈ TB := tbv (tt6 (List.mem_of_getElem? (i := 123) (by decide +kernel))) rfl
theorem q_1425 : Cond.methodLink RX10 270 yX10_atWork ∈ TB := tbv (tt6 (List.mem_of_getElem? (i := 124) (by decide +kernel))) rfl
theorem q_1427 : Cond.instanceMethod yX10_atWork ∈ TB := tbv (tt6 (List.mem_of_getElem? (i := 126) (by decide +kernel))) rfl
theorem q_1428 : Cond.code yX10_atWork cX10_atWork 4 (some .int) ∈ TB := tbv (tt6 (List.mem_of_getElem? (i := 127) (by decide +kernel))) rfl
theorem q_1433 : Cond.methodLink RX10 316 yX10_isBench ∈ TB := tbv (tt6 (List.mem_of_getElem? (i := 132) (by decide +kernel))) rfl
theorem q_1435 : Cond.instanceMethod yX10_isBench ∈ TB := tbv (tt6 (List.mem_of_getElem? (i := 134) (by decide +kernel))) rfl
theorem q_1436 : Cond.code yX10_isBench cX10_isBench 2 (some .boolean) ∈ TB := tbv (tt6 (List.mem_of_getElem? (i := 135) (by decide +kernel))) rfl
theorem q_1441 : Cond.methodLink RX10 319 yX10_isKind ∈ TB := tbv (tt6 (List.mem_of_getElem? (i := 140) (by decide +kernel))) rfl
theorem q_1443 : Cond.instanceMethod yX10_isKind ∈ TB := tbv (tt6 (List.mem_of_getElem? (i := 142) (by decide +kernel))) rfl
theorem q_1444 : Cond.code yX10_isKind cX10_isKind 2 (some .boolean) ∈ TB := tbv (tt6 (List.mem_of_getElem? (i := 143) (by decide +kernel))) rfl
theorem q_1453 : Cond.methodLink RX10 280 yX10_free ∈ TB := tbv (tt6 (List.mem_of_getElem? (i := 152) (by decide +kernel))) rfl
theorem q_1455 : Cond.instanceMethod yX10_free ∈ TB := tbv (tt6 (List.mem_of_getElem? (i := 154) (by decide +kernel))) rfl
theorem q_1456 : Cond.code yX10_free cX10_free 6 (some .int) ∈ TB := tbv (tt6 (List.mem_of_getElem? (i := 155) (by decide +kernel))) rfl
theorem q_1461 : Cond.methodLink RX10 322 yX10_granted ∈ TB := tbv (tt6 (List.mem_of_getElem? (i := 160) (by decide +kernel))) rfl
theorem q_1463 : Cond.instanceMethod yX10_granted ∈ TB := tbv (tt6 (List.mem_of_getElem? (i := 162) (by decide +kernel))) rfl
theorem q_1464 : Cond.code yX10_granted cX10_granted 2 (some .boolean) ∈ TB := tbv (tt6 (List.mem_of_getElem? (i := 163) (by decide +kernel))) rfl
theorem q_1465 : Cond.methodLink RX10 306 yX10_peaks ∈ TB := tbv (tt6 (List.mem_of_getElem? (i := 164) (by decide +kernel))) rfl
theorem q_1467 : Cond.instanceMethod yX10_peaks ∈ TB := tbv (tt6 (List.mem_of_getElem? (i := 166) (by decide +kernel))) rfl
theorem q_1468 : Cond.code yX10_peaks cX10_peaks 5 none ∈ TB := tbv (tt6 (List.mem_of_getElem? (i := 167) (by decide +kernel))) rfl
theorem q_1473 : Cond.methodLink RX10 325 yX10_delivered ∈ TB := tbv (tt6 (List.mem_of_getElem? (i := 172) (by decide +kernel))) rfl
theorem q_1475 : Cond.instanceMethod yX10_delivered ∈ TB := tbv (tt6 (List.mem_of_getElem? (i := 174) (by decide +kernel))) rfl
theorem q_1476 : Cond.code yX10_delivered cX10_delivered 4 (some .int) ∈ TB := tbv (tt6 (List.mem_of_getElem? (i := 175) (by decide +kernel))) rfl
theorem q_1477 : Cond.methodLink RX10 274 yX10_ofKind ∈ TB := tbv (tt6 (List.mem_of_getElem? (i := 176) (by decide +kernel))) rfl
theorem q_1478 : Cond.static yX10_ofKind ∈ TB := tbv (tt6 (List.mem_of_getElem? (i := 177) (by decide +kernel))) rfl
theorem q_1479 : Cond.code yX10_ofKind cX10_ofKind 2 (some .int) ∈ TB := tbv (tt6 (List.mem_of_getElem? (i := 178) (by decide +kernel))) rfl
theorem q_1480 : Cond.methodLink RX10 329 yX10_minute ∈ TB := tbv (tt6 (List.mem_of_getElem? (i := 179) (by decide +kernel))) rfl
theorem q_1482 : Cond.instanceMethod yX10_minute ∈ TB := tbv (tt6 (List.mem_of_getElem? (i := 181) (by decide +kernel))) rfl
theorem q_1483 : Cond.code yX10_minute cX10_minute 5 none ∈ TB := tbv (tt6 (List.mem_of_getElem? (i := 182) (by decide +kernel))) rfl
theorem q_1484 : Cond.methodLink RX10 292 yX10_ends ∈ TB := tbv (tt6 (List.mem_of_getElem? (i := 183) (by decide +kernel))) rfl
theorem q_1486 : Cond.instanceMethod yX10_ends ∈ TB := tbv (tt6 (List.mem_of_getElem? (i := 185) (by decide +kernel))) rfl
theorem q_1487 : Cond.code yX10_ends cX10_ends 5 none ∈ TB := tbv (tt6 (List.mem_of_getElem? (i := 186) (by decide +kernel))) rfl
theorem q_1488 : Cond.methodLink RX10 296 yX10_serves ∈ TB := tbv (tt6 (List.mem_of_getElem? (i := 187) (by decide +kernel))) rfl
theorem q_1490 : Cond.instanceMethod yX10_serves ∈ TB := tbv (tt6 (List.mem_of_getElem? (i := 189) (by decide +kernel))) rfl
theorem q_1491 : Cond.code yX10_serves cX10_serves 5 none ∈ TB := tbv (tt6 (List.mem_of_getElem? (i := 190) (by decide +kernel))) rfl
theorem q_1492 : Cond.methodLink RX10 277 yX10_comeIn ∈ TB := tbv (tt6 (List.mem_of_getElem? (i := 191) (by decide +kernel))) rfl
theorem q_1494 : Cond.instanceMethod yX10_comeIn ∈ TB := tbv (tt6 (List.mem_of_getElem? (i := 193) (by decide +kernel))) rfl
theorem q_1495 : Cond.code yX10_comeIn cX10_comeIn 5 (some .int) ∈ TB := tbv (tt6 (List.mem_of_getElem? (i := 194) (by decide +kernel))) rfl
theorem q_1496 : Cond.methodLink RX10 299 yX10_starts ∈ TB := tbv (tt6 (List.mem_of_getElem? (i := 195) (by decide +kernel))) rfl
theorem q_1498 : Cond.instanceMethod yX10_starts ∈ TB := tbv (tt6 (List.mem_of_getElem? (i := 197) (by decide +kernel))) rfl
theorem q_1499 : Cond.code yX10_starts cX10_starts 7 none ∈ TB := tbv (tt6 (List.mem_of_getElem? (i := 198) (by decide +kernel))) rfl
theorem q_1500 : Cond.methodLink RX10 288 yX10_chosen ∈ TB := tbv (tt6 (List.mem_of_getElem? (i := 199) (by decide +kernel))) rfl
theorem q_1502 : Cond.instanceMethod yX10_chosen ∈ TB := tbv (tt6 (List.mem_of_getElem? (i := 201) (by decide +kernel))) rfl
theorem q_1503 : Cond.code yX10_chosen cX10_chosen 8 (some .int) ∈ TB := tbv (tt6 (List.mem_of_getElem? (i := 202) (by decide +kernel))) rfl
theorem q_1504 : Cond.methodLink RX10 284 yX10_can ∈ TB := tbv (tt6 (List.mem_of_getElem? (i := 203) (by decide +kernel))) rfl
theorem q_1506 : Cond.instanceMethod yX10_can ∈ TB := tbv (tt6 (List.mem_of_getElem? (i := 205) (by decide +kernel))) rfl
theorem q_1507 : Cond.code yX10_can cX10_can 5 (some .boolean) ∈ TB := tbv (tt6 (List.mem_of_getElem? (i := 206) (by decide +kernel))) rfl
theorem q_1508 : Cond.methodLink RX10 303 yX10_tallies ∈ TB := tbv (tt6 (List.mem_of_getElem? (i := 207) (by decide +kernel))) rfl
theorem q_1510 : Cond.instanceMethod yX10_tallies ∈ TB := tbv (tt6 (List.mem_of_getElem? (i := 209) (by decide +kernel))) rfl
theorem q_1511 : Cond.code yX10_tallies cX10_tallies 8 none ∈ TB := tbv (tt6 (List.mem_of_getElem? (i := 210) (by decide +kernel))) rfl
theorem q_1524 : Cond.methodLink RX10 333 yX10_waits ∈ TB := tbv (tt6 (List.mem_of_getElem? (i := 223) (by decide +kernel))) rfl
theorem q_1526 : Cond.instanceMethod yX10_waits ∈ TB := tbv (tt6 (List.mem_of_getElem? (i := 225) (by decide +kernel))) rfl
theorem q_1527 : Cond.code yX10_waits cX10_waits 2 (some .int) ∈ TB := tbv (tt6 (List.mem_of_getElem? (i := 226) (by decide +kernel))) rfl
theorem q_1528 : Cond.methodLink RX10 336 yX10_waited ∈ TB := tbv (tt6 (List.mem_of_getElem? (i := 227) (by decide +kernel))) rfl
theorem q_1530 : Cond.instanceMethod yX10_waited ∈ TB := tbv (tt6 (List.mem_of_getElem? (i := 229) (by decide +kernel))) rfl
theorem q_1531 : Cond.code yX10_waited cX10_waited 7 (some .int) ∈ TB := tbv (tt6 (List.mem_of_getElem? (i := 230) (by decide +kernel))) rfl
theorem q_1540 : Cond.methodLink RX10 339 yX10_common ∈ TB := tbv (tt6 (List.mem_of_getElem? (i := 239) (by decide +kernel))) rfl
theorem q_1541 : Cond.static yX10_common ∈ TB := tbv (tt7 (List.mem_of_getElem? (i := 0) (by decide +kernel))) rfl
theorem q_1542 : Cond.code yX10_common cX10_common 5 (some .int) ∈ TB := tbv (tt7 (List.mem_of_getElem? (i := 1) (by decide +kernel))) rfl
theorem q_1559 : Cond.methodLink RX10 348 yX10_isTerm ∈ TB := tbv (tt7 (List.mem_of_getElem? (i := 18) (by decide +kernel))) rfl
theorem q_1560 : Cond.static yX10_isTerm ∈ TB := tbv (tt7 (List.mem_of_getElem? (i := 19) (by decide +kernel))) rfl
theorem q_1561 : Cond.code yX10_isTerm cX10_isTerm 1 (some .boolean) ∈ TB := tbv (tt7 (List.mem_of_getElem? (i := 20) (by decide +kernel))) rfl
theorem q_1562 : Cond.methodLink RX10 351 yX10_yieldNow ∈ TB := tbv (tt7 (List.mem_of_getElem? (i := 21) (by decide +kernel))) rfl
theorem q_1564 : Cond.instanceMethod yX10_yieldNow ∈ TB := tbv (tt7 (List.mem_of_getElem? (i := 23) (by decide +kernel))) rfl
theorem q_1565 : Cond.code yX10_yieldNow cX10_yieldNow 2 (some .int) ∈ TB := tbv (tt7 (List.mem_of_getElem? (i := 24) (by decide +kernel))) rfl
theorem q_1566 : Cond.methodLink RX10 342 yX10_papers ∈ TB := tbv (tt7 (List.mem_of_getElem? (i := 25) (by decide +kernel))) rfl
theorem q_1568 : Cond.instanceMethod yX10_papers ∈ TB := tbv (tt7 (List.mem_of_getElem? (i := 27) (by decide +kernel))) rfl
theorem q_1569 : Cond.code yX10_papers cX10_papers 2 none ∈ TB := tbv (tt7 (List.mem_of_getElem? (i := 28) (by decide +kernel))) rfl
theorem q_1570 : Cond.methodLink RX10 345 yX10_yieldOf ∈ TB := tbv (tt7 (List.mem_of_getElem? (i := 29) (by decide +kernel))) rfl
theorem q_1572 : Cond.instanceMethod yX10_yieldOf ∈ TB := tbv (tt7 (List.mem_of_getElem? (i := 31) (by decide +kernel))) rfl
theorem q_1573 : Cond.code yX10_yieldOf cX10_yieldOf 3 (some .int) ∈ TB := tbv (tt7 (List.mem_of_getElem? (i := 32) (by decide +kernel))) rfl
theorem q_1586 : Cond.methodLink RX10 354 yX10_takesOut ∈ TB := tbv (tt7 (List.mem_of_getElem? (i := 45) (by decide +kernel))) rfl
theorem q_1588 : Cond.instanceMethod yX10_takesOut ∈ TB := tbv (tt7 (List.mem_of_getElem? (i := 47) (by decide +kernel))) rfl
theorem q_1589 : Cond.code yX10_takesOut cX10_takesOut 7 none ∈ TB := tbv (tt7 (List.mem_of_getElem? (i := 48) (by decide +kernel))) rfl
theorem q_1606 : Cond.methodLink RX10 357 yX10_laysStand ∈ TB := tbv (tt7 (List.mem_of_getElem? (i := 65) (by decide +kernel))) rfl
theorem q_1608 : Cond.instanceMethod yX10_laysStand ∈ TB := tbv (tt7 (List.mem_of_getElem? (i := 67) (by decide +kernel))) rfl
theorem q_1609 : Cond.code yX10_laysStand cX10_laysStand 5 none ∈ TB := tbv (tt7 (List.mem_of_getElem? (i := 68) (by decide +kernel))) rfl
theorem q_1610 : Cond.methodLink RX10 360 yX10_areAlike ∈ TB := tbv (tt7 (List.mem_of_getElem? (i := 69) (by decide +kernel))) rfl
theorem q_1612 : Cond.instanceMethod yX10_areAlike ∈ TB := tbv (tt7 (List.mem_of_getElem? (i := 71) (by decide +kernel))) rfl
theorem q_1613 : Cond.code yX10_areAlike cX10_areAlike 5 (some .boolean) ∈ TB := tbv (tt7 (List.mem_of_getElem? (i := 72) (by decide +kernel))) rfl
theorem q_1618 : Cond.methodLink RX10 367 yX10_changes ∈ TB := tbv (tt7 (List.mem_of_getElem? (i := 77) (by decide +kernel))) rfl
theorem q_1620 : Cond.instanceMethod yX10_changes ∈ TB := tbv (tt7 (List.mem_of_getElem? (i := 79) (by decide +kernel))) rfl
theorem q_1621 : Cond.code yX10_changes cX10_changes 4 (some .int) ∈ TB := tbv (tt7 (List.mem_of_getElem? (i := 80) (by decide +kernel))) rfl
theorem q_1622 : Cond.methodLink RX10 364 yX10_remembers ∈ TB := tbv (tt7 (List.mem_of_getElem? (i := 81) (by decide +kernel))) rfl
theorem q_1624 : Cond.instanceMethod yX10_remembers ∈ TB := tbv (tt7 (List.mem_of_getElem? (i := 83) (by decide +kernel))) rfl
theorem q_1625 : Cond.code yX10_remembers cX10_remembers 2 none ∈ TB := tbv (tt7 (List.mem_of_getElem? (i := 84) (by decide +kernel))) rfl
