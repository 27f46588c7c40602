theorem kw_P_75 : CWV RX9 75 yX9_putBytes cX9_putBytes 3 none 1 := ⟨q_490, q_487, q_489, q_0, q_102, ⟨by decide, by decide, by decide +kernel⟩⟩
theorem kw_P_79 : CWV RX9 79 yX9_refused cX9_refused 2 (some .int) 1 := ⟨q_498, q_495, q_497, q_1, q_102, ⟨by decide, by decide, by decide +kernel⟩⟩
theorem kw_P_83 : CWV RX9 83 yX6_read cX6_read 3 (some .int) 1 := ⟨q_502, q_499, q_500, q_501, q_105, ⟨by decide, by decide, by decide +kernel⟩⟩
theorem kw_P_89 : CWV RX9 89 yX6_placeReached cX6_placeReached 1 (some .int) 0 := ⟨q_677, q_674, q_675, q_676, q_105, ⟨by decide, by decide, by decide +kernel⟩⟩
theorem kw_P_94 : CWV RX9 94 yX5_copy cX5_copy 2 none 1 := ⟨q_681, q_678, q_679, q_680, q_103, ⟨by decide, by decide, by decide +kernel⟩⟩
theorem kw_P_100 : CWV RX9 100 yX2_copy cX2_copy 2 none 1 := ⟨q_688, q_690, q_686, q_687, q_104, ⟨by decide, by decide, by decide +kernel⟩⟩
theorem kw_P_106 : CWV RX9 106 yX3_start cX3_start 2 none 1 := ⟨q_694, q_691, q_692, q_693, q_107, ⟨by decide, by decide, by decide +kernel⟩⟩
theorem kw_P_110 : CWV RX9 110 yX9_forget cX9_forget 2 none 0 := ⟨q_710, q_707, q_709, q_29, q_102, ⟨by decide, by decide, by decide +kernel⟩⟩
theorem kw_P_116 : CWV RX9 116 yX9_granted cX9_granted 2 (some .int) 1 := ⟨q_714, q_711, q_713, q_30, q_102, ⟨by decide, by decide, by decide +kernel⟩⟩
theorem kw_P_128 : CWS RX9 128 yX9_within cX9_within 2 (some .boolean) 2 := ⟨q_729, q_727, q_728, q_102, ⟨by decide, by decide, by decide +kernel⟩⟩
theorem kw_P_144 : CWV RX9 144 yX2_allCards cX2_allCards 3 (some .int) 0 := ⟨q_733, q_730, q_731, q_732, q_104, ⟨by decide, by decide, by decide +kernel⟩⟩
theorem kw_P_147 : CWV RX9 147 yX3_allHeld cX3_allHeld 3 (some .int) 0 := ⟨q_737, q_734, q_735, q_736, q_107, ⟨by decide, by decide, by decide +kernel⟩⟩
theorem kw_P_150 : CWV RX9 150 yX9_isBench cX9_isBench 2 (some .boolean) 1 := ⟨q_745, q_742, q_744, q_31, q_102, ⟨by decide, by decide, by decide +kernel⟩⟩
theorem kw_P_164 : CWV RX9 164 yX2_timesAt cX2_timesAt 4 (some .int) 1 := ⟨q_749, q_746, q_747, q_748, q_104, ⟨by decide, by decide, by decide +kernel⟩⟩
theorem kw_P_167 : CWV RX9 167 yX9_isKind cX9_isKind 2 (some .boolean) 1 := ⟨q_758, q_755, q_757, q_32, q_102, ⟨by decide, by decide, by decide +kernel⟩⟩
theorem kw_P_173 : CWS RX9 173 yX9_cell cX9_cell 2 (some .int) 2 := ⟨q_645, q_759, q_644, q_102, ⟨by decide, by decide, by decide +kernel⟩⟩
theorem kw_P_195 : CWV RX9 195 yX3_free cX3_free 2 (some .int) 1 := ⟨q_771, q_768, q_769, q_770, q_107, ⟨by decide, by decide, by decide +kernel⟩⟩
theorem kw_P_201 : CWV RX9 201 yX3_passMinute cX3_passMinute 1 none 0 := ⟨q_783, q_780, q_781, q_782, q_107, ⟨by decide, by decide, by decide +kernel⟩⟩
theorem kw_P_210 : CWV RX9 210 yX3_minutesLeft cX3_minutesLeft 2 (some .int) 1 := ⟨q_836, q_833, q_834, q_835, q_107, ⟨by decide, by decide, by decide +kernel⟩⟩
theorem kw_P_216 : CWV RX9 216 yX3_minutesOf cX3_minutesOf 3 (some .int) 2 := ⟨q_844, q_841, q_842, q_843, q_107, ⟨by decide, by decide, by decide +kernel⟩⟩
theorem kw_P_240 : CWS RX9 240 yX9_commonDivisor cX9_commonDivisor 6 (some .int) 2 := ⟨q_867, q_865, q_866, q_102, ⟨by decide, by decide, by decide +kernel⟩⟩
theorem kw_P_243 : CWS RX9 243 yX9_remainder cX9_remainder 2 (some .int) 2 := ⟨q_798, q_868, q_797, q_102, ⟨by decide, by decide, by decide +kernel⟩⟩
theorem kw_P_246 : CWV RX9 246 yX3_busiestBench cX3_busiestBench 3 (some .int) 0 := ⟨q_876, q_873, q_874, q_875, q_107, ⟨by decide, by decide, by decide +kernel⟩⟩
theorem kw_P_249 : CWV RX9 249 yX9_refusesPaper cX9_refusesPaper 2 (some .boolean) 1 := ⟨q_885, q_882, q_884, q_42, q_102, ⟨by decide, by decide, by decide +kernel⟩⟩
theorem kw_P_252 : CWV RX9 252 yX4_asNow cX4_asNow 2 (some .int) 1 := ⟨q_889, q_886, q_887, q_888, q_108, ⟨by decide, by decide, by decide +kernel⟩⟩
theorem kw_P_255 : CWV RX9 255 yX4_withCards cX4_withCards 4 (some .int) 3 := ⟨q_915, q_912, q_913, q_914, q_108, ⟨by decide, by decide, by decide +kernel⟩⟩
theorem kw_P_259 : CWV RX9 259 yX4_fewestFor cX4_fewestFor 6 (some .int) 2 := ⟨q_923, q_920, q_921, q_922, q_108, ⟨by decide, by decide, by decide +kernel⟩⟩
theorem kw_P_262 : CWV RX9 262 yX4_takeOut cX4_takeOut 7 none 1 := ⟨q_932, q_929, q_930, q_931, q_108, ⟨by decide, by decide, by decide +kernel⟩⟩
theorem kw_P_268 : CWV RX9 268 yX4_bestCardMore cX4_bestCardMore 9 (some .int) 1 := ⟨q_945, q_942, q_943, q_944, q_108, ⟨by decide, by decide, by decide +kernel⟩⟩
theorem kw_P_271 : CWV RX9 271 yX4_bestSwiftBench cX4_bestSwiftBench 6 (some .int) 1 := ⟨q_954, q_951, q_952, q_953, q_108, ⟨by decide, by decide, by decide +kernel⟩⟩
theorem kw_P_274 : CWV RX9 274 yX4_firstAgain cX4_firstAgain 3 (some .int) 1 := ⟨q_962, q_959, q_960, q_961, q_108, ⟨by decide, by decide, by decide +kernel⟩⟩
theorem kw_P_280 : CWV RX9 280 yX0_perform cX0_perform 5 (some .int) 3 := ⟨q_1019, q_1016, q_1017, q_1018, q_109, ⟨by decide, by decide, by decide +kernel⟩⟩
theorem kw_P_284 : CWV RX9 284 yX0_takeBack cX0_takeBack 2 none 1 := ⟨q_1040, q_1037, q_1038, q_1039, q_109, ⟨by decide, by decide, by decide +kernel⟩⟩
theorem kw_P_288 : CWV RX9 288 yX3_copy cX3_copy 2 none 1 := ⟨q_1048, q_1045, q_1046, q_1047, q_107, ⟨by decide, by decide, by decide +kernel⟩⟩
theorem kw_A_20 : CWC RX0 20 := ⟨q_1020, q_684, q_683, q_118⟩
theorem kw_A_26 : CWV RX0 26 yX2_turn cX2_turn 4 (some .int) 2 := ⟨q_1024, q_1021, q_1022, q_1023, q_104, ⟨by decide, by decide, by decide +kernel⟩⟩
theorem kw_V_18 : CWS RX2 18 yJ7_fill_53178 cJ7_fill_53178 4 none 2 := ⟨q_584, q_589, q_583, q_117, ⟨by decide, by decide, by decide +kernel⟩⟩
theorem kw_V_28 : CWC RX2 28 := ⟨q_689, q_684, q_683, q_118⟩
theorem kw_V_34 : CWN RX2 34 yX9_cell cX9_cell 2 (some .int) 2 := ⟨q_645, by decide, q_644, q_102, ⟨by decide, by decide, by decide +kernel⟩⟩
theorem kw_L_56 : CWS RX3 56 yJ7_fill_53178 cJ7_fill_53178 4 none 2 := ⟨q_584, q_695, q_583, q_117, ⟨by decide, by decide, by decide +kernel⟩⟩
theorem kw_L_67 : CWC RX3 67 := ⟨q_696, q_684, q_683, q_118⟩
theorem kw_L_86 : CWV RX3 86 yX3_raisePeaks cX3_raisePeaks 2 none 0 := ⟨q_700, q_697, q_699, q_27, q_107, ⟨by decide, by decide, by decide +kernel⟩⟩
theorem kw_L_89 : CWV RX3 89 yX3_ageOrders cX3_ageOrders 2 none 0 := ⟨q_787, q_784, q_786, q_33, q_107, ⟨by decide, by decide, by decide +kernel⟩⟩
theorem kw_L_92 : CWV RX3 92 yX3_change cX3_change 3 none 0 := ⟨q_791, q_788, q_789, q_790, q_107, ⟨by decide, by decide, by decide +kernel⟩⟩
theorem kw_L_95 : CWV RX3 95 yX3_tallyMinute cX3_tallyMinute 4 none 0 := ⟨q_823, q_820, q_822, q_40, q_107, ⟨by decide, by decide, by decide +kernel⟩⟩
theorem kw_L_98 : CWV RX3 98 yX3_nextChange cX3_nextChange 4 (some .int) 1 := ⟨q_903, q_900, q_902, q_44, q_107, ⟨by decide, by decide, by decide +kernel⟩⟩
theorem kw_L_110 : CWV RX3 110 yX3_nextOrder cX3_nextOrder 4 (some .int) 1 := ⟨q_907, q_904, q_906, q_45, q_107, ⟨by decide, by decide, by decide +kernel⟩⟩
theorem kw_L_113 : CWMmin RX3 113 := ⟨q_807, q_508, q_112, q_509⟩
theorem kw_L_119 : CWMmax RX3 119 := ⟨q_706, q_576, q_112, q_577⟩
theorem kw_L_128 : CWN RX3 128 yX9_remainder cX9_remainder 2 (some .int) 2 := ⟨q_798, by decide, q_797, q_102, ⟨by decide, by decide, by decide +kernel⟩⟩
theorem kw_L_131 : CWV RX3 131 yX3_endAt cX3_endAt 2 none 1 := ⟨q_795, q_792, q_794, q_34, q_107, ⟨by decide, by decide, by decide +kernel⟩⟩
theorem kw_L_135 : CWV RX3 135 yX3_takeOrder cX3_takeOrder 4 none 1 := ⟨q_802, q_799, q_801, q_35, q_107, ⟨by decide, by decide, by decide +kernel⟩⟩
theorem kw_L_141 : CWV RX3 141 yX3_deliver cX3_deliver 4 none 1 := ⟨q_806, q_803, q_805, q_36, q_107, ⟨by decide, by decide, by decide +kernel⟩⟩
theorem kw_L_144 : CWV RX3 144 yX3_chosen cX3_chosen 9 (some .int) 1 := ⟨q_811, q_808, q_810, q_37, q_107, ⟨by decide, by decide, by decide +kernel⟩⟩
theorem kw_L_147 : CWV RX3 147 yX3_beginAt cX3_beginAt 5 none 2 := ⟨q_819, q_816, q_818, q_39, q_107, ⟨by decide, by decide, by decide +kernel⟩⟩
theorem kw_L_151 : CWN RX3 151 yX9_cell cX9_cell 2 (some .int) 2 := ⟨q_645, by decide, q_644, q_102, ⟨by decide, by decide, by decide +kernel⟩⟩
theorem kw_L_172 : CWV RX3 172 yX3_freeIfCan cX3_freeIfCan 4 (some .int) 2 := ⟨q_815, q_812, q_814, q_38, q_107, ⟨by decide, by decide, by decide +kernel⟩⟩
theorem kw_L_175 : CWV RX3 175 yX3_sortOf cX3_sortOf 3 (some .int) 1 := ⟨q_827, q_824, q_826, q_41, q_107, ⟨by decide, by decide, by decide +kernel⟩⟩
theorem kw_L_178 : CWV RX3 178 yX3_free cX3_free 2 (some .int) 1 := ⟨q_771, q_828, q_769, q_770, q_107, ⟨by decide, by decide, by decide +kernel⟩⟩
theorem kw_L_181 : CWV RX3 181 yX3_waresIn cX3_waresIn 4 (some .int) 1 := ⟨q_704, q_701, q_703, q_28, q_107, ⟨by decide, by decide, by decide +kernel⟩⟩
theorem kw_L_184 : CWV RX3 184 yX3_minutesOf cX3_minutesOf 3 (some .int) 2 := ⟨q_844, q_877, q_842, q_843, q_107, ⟨by decide, by decide, by decide +kernel⟩⟩
theorem kw_L_187 : CWV RX3 187 yX3_signOfBench cX3_signOfBench 5 (some .long) 1 := ⟨q_1001, q_998, q_1000, q_46, q_107, ⟨by decide, by decide, by decide +kernel⟩⟩
theorem kw_L_191 : CWV RX3 191 yX3_minutesLeft cX3_minutesLeft 2 (some .int) 1 := ⟨q_836, q_1002, q_834, q_835, q_107, ⟨by decide, by decide, by decide +kernel⟩⟩
theorem kw_Q_34 : CWV RX4 34 yX3_start cX3_start 2 none 1 := ⟨q_694, q_895, q_692, q_693, q_107, ⟨by decide, by decide, by decide +kernel⟩⟩
theorem kw_Q_38 : CWV RX4 38 yX3_hurryTo cX3_hurryTo 3 none 1 := ⟨q_899, q_896, q_897, q_898, q_107, ⟨by decide, by decide, by decide +kernel⟩⟩
theorem kw_Q_46 : CWV RX4 46 yX2_copy cX2_copy 2 none 1 := ⟨q_688, q_890, q_686, q_687, q_104, ⟨by decide, by decide, by decide +kernel⟩⟩
theorem kw_Q_50 : CWV RX4 50 yX4_tried cX4_tried 2 (some .int) 1 := ⟨q_894, q_891, q_893, q_43, q_108, ⟨by decide, by decide, by decide +kernel⟩⟩
theorem kw_Q_66 : CWN RX4 66 yX9_cell cX9_cell 2 (some .int) 2 := ⟨q_645, by decide, q_644, q_102, ⟨by decide, by decide, by decide +kernel⟩⟩
theorem kw_Q_70 : CWV RX4 70 yX4_asNow cX4_asNow 2 (some .int) 1 := ⟨q_889, q_933, q_887, q_888, q_108, ⟨by decide, by decide, by decide +kernel⟩⟩
theorem kw_Q_73 : CWV RX4 73 yX4_withCards cX4_withCards 4 (some .int) 3 := ⟨q_915, q_946, q_913, q_914, q_108, ⟨by decide, by decide, by decide +kernel⟩⟩
theorem kw_Q_87 : CWV RX4 87 yX8_clear cX8_clear 1 none 0 := ⟨q_983, q_980, q_981, q_982, q_119, ⟨by decide, by decide, by decide +kernel⟩⟩
theorem kw_Q_90 : CWV RX4 90 yX3_change cX3_change 3 none 0 := ⟨q_791, q_985, q_789, q_790, q_107, ⟨by decide, by decide, by decide +kernel⟩⟩
theorem kw_Q_96 : CWV RX4 96 yX3_allStreamsBegun cX3_allStreamsBegun 2 (some .boolean) 0 := ⟨q_989, q_986, q_987, q_988, q_107, ⟨by decide, by decide, by decide +kernel⟩⟩
theorem kw_Q_100 : CWV RX4 100 yX8_earlierLike cX8_earlierLike 6 (some .int) 2 := ⟨q_993, q_990, q_991, q_992, q_119, ⟨by decide, by decide, by decide +kernel⟩⟩
theorem kw_N_53 : CWS RX5 53 yJ7_fill_53178 cJ7_fill_53178 4 none 2 := ⟨q_584, q_582, q_583, q_117, ⟨by decide, by decide, by decide +kernel⟩⟩
theorem kw_N_59 : CWV RX5 59 yX2_clear cX2_clear 1 none 0 := ⟨q_588, q_585, q_586, q_587, q_104, ⟨by decide, by decide, by decide +kernel⟩⟩
theorem kw_N_62 : CWC RX5 62 := ⟨q_682, q_684, q_683, q_118⟩
theorem kw_N_68 : CWV RX5 68 yX2_copy cX2_copy 2 none 1 := ⟨q_688, q_685, q_686, q_687, q_104, ⟨by decide, by decide, by decide +kernel⟩⟩
theorem kw_R_27 : CWV RX6 27 yX7_scan cX7_scan 4 none 1 := ⟨q_506, q_503, q_504, q_505, q_106, ⟨by decide, by decide, by decide +kernel⟩⟩
theorem kw_R_42 : CWV RX6 42 yX5_clear cX5_clear 1 none 0 := ⟨q_581, q_578, q_579, q_580, q_103, ⟨by decide, by decide, by decide +kernel⟩⟩
theorem kw_R_45 : CWV RX6 45 yX6_readLine cX6_readLine 1 (some .boolean) 0 := ⟨q_593, q_590, q_592, q_8, q_105, ⟨by decide, by decide, by decide +kernel⟩⟩
theorem kw_R_49 : CWV RX6 49 yX6_isSort cX6_isSort 2 (some .boolean) 1 := ⟨q_597, q_594, q_596, q_9, q_105, ⟨by decide, by decide, by decide +kernel⟩⟩
theorem kw_R_59 : CWV RX6 59 yX6_blame cX6_blame 2 (some .boolean) 1 := ⟨q_601, q_598, q_600, q_10, q_105, ⟨by decide, by decide, by decide +kernel⟩⟩
theorem kw_R_62 : CWV RX6 62 yX6_step cX6_step 1 none 0 := ⟨q_609, q_606, q_608, q_12, q_105, ⟨by decide, by decide, by decide +kernel⟩⟩
theorem kw_R_72 : CWV RX6 72 yX6_readWare cX6_readWare 1 (some .boolean) 0 := ⟨q_605, q_602, q_604, q_11, q_105, ⟨by decide, by decide, by decide +kernel⟩⟩
theorem kw_R_75 : CWV RX6 75 yX6_readBench cX6_readBench 2 (some .boolean) 0 := ⟨q_634, q_631, q_633, q_17, q_105, ⟨by decide, by decide, by decide +kernel⟩⟩
theorem kw_R_78 : CWV RX6 78 yX6_readCards cX6_readCards 4 (some .boolean) 0 := ⟨q_661, q_658, q_660, q_23, q_105, ⟨by decide, by decide, by decide +kernel⟩⟩
theorem kw_R_81 : CWV RX6 81 yX6_readOrder cX6_readOrder 5 (some .boolean) 0 := ⟨q_669, q_666, q_668, q_25, q_105, ⟨by decide, by decide, by decide +kernel⟩⟩
theorem kw_R_84 : CWV RX6 84 yX6_readRule cX6_readRule 1 (some .boolean) 0 := ⟨q_673, q_670, q_672, q_26, q_105, ⟨by decide, by decide, by decide +kernel⟩⟩
theorem kw_R_87 : CWV RX6 87 yX6_readNewName cX6_readNewName 4 (some .boolean) 1 := ⟨q_613, q_610, q_612, q_13, q_105, ⟨by decide, by decide, by decide +kernel⟩⟩
theorem kw_R_90 : CWV RX6 90 yX6_readTimes cX6_readTimes 4 (some .boolean) 1 := ⟨q_638, q_635, q_637, q_18, q_105, ⟨by decide, by decide, by decide +kernel⟩⟩
theorem kw_R_93 : CWV RX6 93 yX6_readSetup cX6_readSetup 3 (some .boolean) 1 := ⟨q_649, q_646, q_648, q_20, q_105, ⟨by decide, by decide, by decide +kernel⟩⟩
theorem kw_R_96 : CWV RX6 96 yX6_readRest cX6_readRest 4 (some .boolean) 1 := ⟨q_653, q_650, q_652, q_21, q_105, ⟨by decide, by decide, by decide +kernel⟩⟩
theorem kw_R_99 : CWV RX6 99 yX6_readWhole cX6_readWhole 4 (some .int) 2 := ⟨q_642, q_639, q_641, q_19, q_105, ⟨by decide, by decide, by decide +kernel⟩⟩
theorem kw_R_112 : CWN RX6 112 yX9_cell cX9_cell 2 (some .int) 2 := ⟨q_645, by decide, q_644, q_102, ⟨by decide, by decide, by decide +kernel⟩⟩
theorem kw_R_118 : CWV RX6 118 yX6_isWord cX6_isWord 2 (some .boolean) 1 := ⟨q_617, q_614, q_616, q_14, q_105, ⟨by decide, by decide, by decide +kernel⟩⟩
theorem kw_R_124 : CWV RX6 124 yX6_readWord cX6_readWord 2 (some .boolean) 1 := ⟨q_657, q_654, q_656, q_22, q_105, ⟨by decide, by decide, by decide +kernel⟩⟩
theorem kw_R_133 : CWV RX6 133 yX6_readOldName cX6_readOldName 4 (some .int) 2 := ⟨q_665, q_662, q_664, q_24, q_105, ⟨by decide, by decide, by decide +kernel⟩⟩
theorem kw_R_151 : CWV RX6 151 yX6_placeOfName cX6_placeOfName 4 (some .int) 2 := ⟨q_621, q_618, q_620, q_15, q_105, ⟨by decide, by decide, by decide +kernel⟩⟩
theorem kw_R_157 : CWMmin RX6 157 := ⟨q_630, q_508, q_112, q_509⟩
theorem kw_R_168 : CWV RX6 168 yX7_letterAt cX7_letterAt 4 (some .int) 2 := ⟨q_629, q_626, q_627, q_628, q_106, ⟨by decide, by decide, by decide +kernel⟩⟩
theorem kw_R_171 : CWV RX6 171 yX6_isNameIn cX6_isNameIn 4 (some .boolean) 1 := ⟨q_625, q_622, q_624, q_16, q_105, ⟨by decide, by decide, by decide +kernel⟩⟩
theorem kw_K_28 : CWMmin RX7 28 := ⟨q_507, q_508, q_112, q_509⟩
theorem kw_K_38 : CWV RX7 38 yX7_scanToken cX7_scanToken 3 none 2 := ⟨q_513, q_510, q_512, q_2, q_106, ⟨by decide, by decide, by decide +kernel⟩⟩
theorem kw_K_42 : CWMmax RX7 42 := ⟨q_575, q_576, q_112, q_577⟩
theorem kw_K_45 : CWV RX7 45 yX7_isLetter cX7_isLetter 2 (some .boolean) 1 := ⟨q_517, q_514, q_516, q_3, q_106, ⟨by decide, by decide, by decide +kernel⟩⟩
theorem kw_K_49 : CWV RX7 49 yX7_scanWord cX7_scanWord 5 none 2 := ⟨q_521, q_518, q_520, q_4, q_106, ⟨by decide, by decide, by decide +kernel⟩⟩
theorem kw_K_52 : CWV RX7 52 yX7_isDigit cX7_isDigit 2 (some .boolean) 1 := ⟨q_570, q_567, q_569, q_6, q_106, ⟨by decide, by decide, by decide +kernel⟩⟩
theorem kw_K_55 : CWV RX7 55 yX7_scanWhole cX7_scanWhole 5 none 2 := ⟨q_574, q_571, q_573, q_7, q_106, ⟨by decide, by decide, by decide +kernel⟩⟩
theorem kw_K_58 : CWV RX7 58 yX7_isSpelled cX7_isSpelled 6 (some .boolean) 3 := ⟨q_525, q_522, q_524, q_5, q_106, ⟨by decide, by decide, by decide +kernel⟩⟩
theorem kw_K_64 : Cond.methodLink RX7 64 yJ0_charAt_5068e ∈ TB := tbv (tt2 (List.mem_of_getElem? (i := 186) (by decide +kernel))) rfl
theorem kw_T_24 : CWS RX8 24 yJ7_fill_53178 cJ7_fill_53178 4 none 2 := ⟨q_584, q_984, q_583, q_117, ⟨by decide, by decide, by decide +kernel⟩⟩
theorem kw_T_30 : CWV RX8 30 yX3_sign cX3_sign 4 none 2 := ⟨q_997, q_994, q_995, q_996, q_107, ⟨by decide, by decide, by decide +kernel⟩⟩
theorem kw_T_34 : CWV RX8 34 yX8_bucketOf cX8_bucketOf 5 (some .int) 1 := ⟨q_1006, q_1003, q_1005, q_47, q_119, ⟨by decide, by decide, by decide +kernel⟩⟩
theorem kw_T_38 : CWV RX8 38 yX8_isAlike cX8_isAlike 5 (some .boolean) 2 := ⟨q_1011, q_1008, q_1010, q_48, q_119, ⟨by decide, by decide, by decide +kernel⟩⟩
theorem kw_M_95 : CWS RX10 95 yX10_in cX10_in 3 (some .boolean) 3 := ⟨q_1284, q_1282, q_1283, q_111, ⟨by decide, by decide, by decide +kernel⟩⟩
theorem kw_M_105 : CWV RX10 105 yX10_isLetterAt cX10_isLetterAt 2 (some .boolean) 1 := ⟨q_1296, q_1293, q_1295, q_52, q_111, ⟨by decide, by decide, by decide +kernel⟩⟩
theorem kw_M_117 : CWV RX10 117 yX10_isDigitAt cX10_isDigitAt 2 (some .boolean) 1 := ⟨q_1302, q_1299, q_1301, q_53, q_111, ⟨by decide, by decide, by decide +kernel⟩⟩
theorem kw_M_126 : Cond.methodLink RX10 126 yJ0_length_8abf5 ∈ TB := tbv (tt6 (List.mem_of_getElem? (i := 14) (by decide +kernel))) rfl
theorem kw_M_132 : Cond.methodLink RX10 132 yJ0_charAt_5068e ∈ TB := tbv (tt6 (List.mem_of_getElem? (i := 22) (by decide +kernel))) rfl
theorem kw_M_136 : CWS RX10 136 yX10_wordOf cX10_wordOf 4 (some .long) 1 := ⟨q_1314, q_1312, q_1313, q_111, ⟨by decide, by decide, by decide +kernel⟩⟩
theorem kw_M_140 : CWV RX10 140 yX10_isWord cX10_isWord 2 (some .boolean) 1 := ⟨q_1311, q_1308, q_1310, q_55, q_111, ⟨by decide, by decide, by decide +kernel⟩⟩
theorem kw_M_144 : CWV RX10 144 yX10_goOn cX10_goOn 1 none 0 := ⟨q_1292, q_1289, q_1291, q_51, q_111, ⟨by decide, by decide, by decide +kernel⟩⟩
theorem kw_M_147 : CWV RX10 147 yX10_flaw cX10_flaw 2 none 1 := ⟨q_1331, q_1328, q_1330, q_57, q_111, ⟨by decide, by decide, by decide +kernel⟩⟩
theorem kw_M_178 : CWV RX10 178 yX10_isOwn cX10_isOwn 2 (some .boolean) 0 := ⟨q_1339, q_1336, q_1338, q_59, q_111, ⟨by decide, by decide, by decide +kernel⟩⟩
theorem kw_M_182 : CWV RX10 182 yX10_kindOf cX10_kindOf 2 (some .int) 0 := ⟨q_1354, q_1351, q_1353, q_60, q_111, ⟨by decide, by decide, by decide +kernel⟩⟩
theorem kw_M_185 : CWV RX10 185 yX10_benchOf cX10_benchOf 2 (some .int) 0 := ⟨q_1358, q_1355, q_1357, q_61, q_111, ⟨by decide, by decide, by decide +kernel⟩⟩
theorem kw_M_188 : CWV RX10 188 yX10_readNew cX10_readNew 3 (some .long) 0 := ⟨q_1335, q_1332, q_1334, q_58, q_111, ⟨by decide, by decide, by decide +kernel⟩⟩
theorem kw_M_192 : CWV RX10 192 yX10_isSign cX10_isSign 2 (some .boolean) 1 := ⟨q_1366, q_1363, q_1365, q_63, q_111, ⟨by decide, by decide, by decide +kernel⟩⟩
theorem kw_M_195 : CWV RX10 195 yX10_readWhole cX10_readWhole 4 (some .int) 2 := ⟨q_1370, q_1367, q_1369, q_64, q_111, ⟨by decide, by decide, by decide +kernel⟩⟩
theorem kw_M_199 : CWV RX10 199 yX10_passes cX10_passes 2 (some .boolean) 1 := ⟨q_1374, q_1371, q_1373, q_65, q_111, ⟨by decide, by decide, by decide +kernel⟩⟩
theorem kw_M_202 : CWV RX10 202 yX10_needs cX10_needs 2 none 1 := ⟨q_1378, q_1375, q_1377, q_66, q_111, ⟨by decide, by decide, by decide +kernel⟩⟩
theorem kw_M_206 : CWV RX10 206 yX10_readTold cX10_readTold 3 (some .int) 1 := ⟨q_1386, q_1383, q_1385, q_68, q_111, ⟨by decide, by decide, by decide +kernel⟩⟩
theorem kw_M_217 : CWV RX10 217 yX10_readWare cX10_readWare 3 none 0 := ⟨q_1327, q_1324, q_1326, q_56, q_111, ⟨by decide, by decide, by decide +kernel⟩⟩
theorem kw_M_220 : CWV RX10 220 yX10_readBench cX10_readBench 7 none 0 := ⟨q_1362, q_1359, q_1361, q_62, q_111, ⟨by decide, by decide, by decide +kernel⟩⟩
theorem kw_M_223 : CWV RX10 223 yX10_readCards cX10_readCards 4 none 0 := ⟨q_1382, q_1379, q_1381, q_67, q_111, ⟨by decide, by decide, by decide +kernel⟩⟩
theorem kw_M_226 : CWV RX10 226 yX10_readOrder cX10_readOrder 4 none 0 := ⟨q_1390, q_1387, q_1389, q_69, q_111, ⟨by decide, by decide, by decide +kernel⟩⟩
theorem kw_M_229 : CWV RX10 229 yX10_readRule cX10_readRule 2 none 0 := ⟨q_1394, q_1391, q_1393, q_70, q_111, ⟨by decide, by decide, by decide +kernel⟩⟩
theorem kw_M_232 : CWV RX10 232 yX10_refused cX10_refused 2 (some .int) 1 := ⟨q_1288, q_1285, q_1287, q_50, q_111, ⟨by decide, by decide, by decide +kernel⟩⟩
theorem kw_M_236 : CWV RX10 236 yX10_readLine cX10_readLine 1 none 0 := ⟨q_1306, q_1303, q_1305, q_54, q_111, ⟨by decide, by decide, by decide +kernel⟩⟩
theorem kw_M_239 : CWV RX10 239 yX10_becomes cX10_becomes 2 none 0 := ⟨q_1398, q_1395, q_1397, q_71, q_111, ⟨by decide, by decide, by decide +kernel⟩⟩
theorem kw_M_245 : CWV RX10 245 yX10_good cX10_good 2 (some .int) 1 := ⟨q_1409, q_1406, q_1408, q_73, q_111, ⟨by decide, by decide, by decide +kernel⟩⟩
theorem kw_M_260 : CWV RX10 260 yX10_begins cX10_begins 3 none 1 := ⟨q_1402, q_1399, q_1401, q_72, q_111, ⟨by decide, by decide, by decide +kernel⟩⟩
theorem kw_M_264 : CWS RX10 264 yX10_of cX10_of 2 (some .int) 2 := ⟨q_1405, q_1403, q_1404, q_111, ⟨by decide, by decide, by decide +kernel⟩⟩
theorem kw_M_267 : CWS RX10 267 yX10_store cX10_store 2 (some .int) 2 := ⟨q_1424, q_1422, q_1423, q_111, ⟨by decide, by decide, by decide +kernel⟩⟩
theorem kw_M_270 : CWV RX10 270 yX10_atWork cX10_atWork 4 (some .int) 3 := ⟨q_1428, q_1425, q_1427, q_76, q_111, ⟨by decide, by decide, by decide +kernel⟩⟩
theorem kw_M_274 : CWS RX10 274 yX10_ofKind cX10_ofKind 2 (some .int) 2 := ⟨q_1479, q_1477, q_1478, q_111, ⟨by decide, by decide, by decide +kernel⟩⟩
theorem kw_M_277 : CWV RX10 277 yX10_comeIn cX10_comeIn 5 (some .int) 2 := ⟨q_1495, q_1492, q_1494, q_86, q_111, ⟨by decide, by decide, by decide +kernel⟩⟩
theorem kw_M_280 : CWV RX10 280 yX10_free cX10_free 6 (some .int) 4 := ⟨q_1456, q_1453, q_1455, q_79, q_111, ⟨by decide, by decide, by decide +kernel⟩⟩
theorem kw_M_284 : CWV RX10 284 yX10_can cX10_can 5 (some .boolean) 4 := ⟨q_1507, q_1504, q_1506, q_89, q_111, ⟨by decide, by decide, by decide +kernel⟩⟩
theorem kw_M_288 : CWV RX10 288 yX10_chosen cX10_chosen 8 (some .int) 3 := ⟨q_1503, q_1500, q_1502, q_88, q_111, ⟨by decide, by decide, by decide +kernel⟩⟩
theorem kw_M_292 : CWV RX10 292 yX10_ends cX10_ends 5 none 3 := ⟨q_1487, q_1484, q_1486, q_84, q_111, ⟨by decide, by decide, by decide +kernel⟩⟩
theorem kw_M_296 : CWV RX10 296 yX10_serves cX10_serves 5 none 3 := ⟨q_1491, q_1488, q_1490, q_85, q_111, ⟨by decide, by decide, by decide +kernel⟩⟩
theorem kw_M_299 : CWV RX10 299 yX10_starts cX10_starts 7 none 4 := ⟨q_1499, q_1496, q_1498, q_87, q_111, ⟨by decide, by decide, by decide +kernel⟩⟩
theorem kw_M_303 : CWV RX10 303 yX10_tallies cX10_tallies 8 none 4 := ⟨q_1511, q_1508, q_1510, q_90, q_111, ⟨by decide, by decide, by decide +kernel⟩⟩
theorem kw_M_306 : CWV RX10 306 yX10_peaks cX10_peaks 5 none 2 := ⟨q_1468, q_1465, q_1467, q_81, q_111, ⟨by decide, by decide, by decide +kernel⟩⟩
theorem kw_M_310 : CWV RX10 310 yX10_toldCards cX10_toldCards 4 (some .int) 0 := ⟨q_1417, q_1414, q_1416, q_74, q_111, ⟨by decide, by decide, by decide +kernel⟩⟩
theorem kw_M_313 : CWV RX10 313 yX10_heldCards cX10_heldCards 4 (some .int) 0 := ⟨q_1421, q_1418, q_1420, q_75, q_111, ⟨by decide, by decide, by decide +kernel⟩⟩
theorem kw_M_316 : CWV RX10 316 yX10_isBench cX10_isBench 2 (some .boolean) 1 := ⟨q_1436, q_1433, q_1435, q_77, q_111, ⟨by decide, by decide, by decide +kernel⟩⟩
theorem kw_M_319 : CWV RX10 319 yX10_isKind cX10_isKind 2 (some .boolean) 1 := ⟨q_1444, q_1441, q_1443, q_78, q_111, ⟨by decide, by decide, by decide +kernel⟩⟩
theorem kw_M_322 : CWV RX10 322 yX10_granted cX10_granted 2 (some .boolean) 1 := ⟨q_1464, q_1461, q_1463, q_80, q_111, ⟨by decide, by decide, by decide +kernel⟩⟩
theorem kw_M_325 : CWV RX10 325 yX10_delivered cX10_delivered 4 (some .int) 1 := ⟨q_1476, q_1473, q_1475, q_82, q_111, ⟨by decide, by decide, by decide +kernel⟩⟩
theorem kw_M_329 : CWV RX10 329 yX10_minute cX10_minute 5 none 2 := ⟨q_1483, q_1480, q_1482, q_83, q_111, ⟨by decide, by decide, by decide +kernel⟩⟩
theorem kw_M_333 : CWV RX10 333 yX10_waits cX10_waits 2 (some .int) 1 := ⟨q_1527, q_1524, q_1526, q_91, q_111, ⟨by decide, by decide, by decide +kernel⟩⟩
theorem kw_M_336 : CWV RX10 336 yX10_waited cX10_waited 7 (some .int) 1 := ⟨q_1531, q_1528, q_1530, q_92, q_111, ⟨by decide, by decide, by decide +kernel⟩⟩
theorem kw_M_339 : CWS RX10 339 yX10_common cX10_common 5 (some .int) 2 := ⟨q_1542, q_1540, q_1541, q_111, ⟨by decide, by decide, by decide +kernel⟩⟩
theorem kw_M_342 : CWV RX10 342 yX10_papers cX10_papers 2 none 0 := ⟨q_1569, q_1566, q_1568, q_94, q_111, ⟨by decide, by decide, by decide +kernel⟩⟩
theorem kw_M_345 : CWV RX10 345 yX10_yieldOf cX10_yieldOf 3 (some .int) 1 := ⟨q_1573, q_1570, q_1572, q_95, q_111, ⟨by decide, by decide, by decide +kernel⟩⟩
theorem kw_M_348 : CWS RX10 348 yX10_isTerm cX10_isTerm 1 (some .boolean) 1 := ⟨q_1561, q_1559, q_1560, q_111, ⟨by decide, by decide, by decide +kernel⟩⟩
theorem kw_M_351 : CWV RX10 351 yX10_yieldNow cX10_yieldNow 2 (some .int) 1 := ⟨q_1565, q_1562, q_1564, q_93, q_111, ⟨by decide, by decide, by decide +kernel⟩⟩
theorem kw_M_354 : CWV RX10 354 yX10_takesOut cX10_takesOut 7 none 1 := ⟨q_1589, q_1586, q_1588, q_96, q_111, ⟨by decide, by decide, by decide +kernel⟩⟩
theorem kw_M_357 : CWV RX10 357 yX10_laysStand cX10_laysStand 5 none 1 := ⟨q_1609, q_1606, q_1608, q_97, q_111, ⟨by decide, by decide, by decide +kernel⟩⟩
theorem kw_M_360 : CWV RX10 360 yX10_areAlike cX10_areAlike 5 (some .boolean) 2 := ⟨q_1613, q_1610, q_1612, q_98, q_111, ⟨by decide, by decide, by decide +kernel⟩⟩
theorem kw_M_364 : CWV RX10 364 yX10_remembers cX10_remembers 2 none 0 := ⟨q_1625, q_1622, q_1624, q_100, q_111, ⟨by decide, by decide, by decide +kernel⟩⟩
theorem kw_M_367 : CWV RX10 367 yX10_changes cX10_changes 4 (some .int) 2 := ⟨q_1621, q_1618, q_1620, q_99, q_111, ⟨by decide, by decide, by decide +kernel⟩⟩
theorem bp_m2 : (Int8.ofInt (-2)).toInt32 = (-2) := by decide
theorem bp_6 : (Int8.ofInt 6).toInt32 = 6 := by decide
theorem bp_7 : (Int8.ofInt 7).toInt32 = 7 := by decide
theorem bp_8 : (Int8.ofInt 8).toInt32 = 8 := by decide
theorem bp_9 : (Int8.ofInt 9).toInt32 = 9 := by decide
theorem bp_10 : (Int8.ofInt 10).toInt32 = 10 := by decide
theorem bp_11 : (Int8.ofInt 11).toInt32 = 11 := by decide
theorem bp_12 : (Int8.ofInt 12).toInt32 = 12 := by decide
theorem bp_16 : (Int8.ofInt 16).toInt32 = 16 := by decide
theorem bp_18 : (Int8.ofInt 18).toInt32 = 18 := by decide
theorem bp_20 : (Int8.ofInt 20).toInt32 = 20 := by decide
theorem bp_24 : (Int8.ofInt 24).toInt32 = 24 := by decide
theorem bp_32 : (Int8.ofInt 32).toInt32 = 32 := by decide
theorem bp_36 : (Int8.ofInt 36).toInt32 = 36 := by decide
theorem bp_37 : (Int8.ofInt 37).toInt32 = 37 := by decide
theorem bp_42 : (Int8.ofInt 42).toInt32 = 42 := by decide
theorem bp_44 : (Int8.ofInt 44).toInt32 = 44 := by decide
theorem bp_45 : (Int8.ofInt 45).toInt32 = 45 := by decide
theorem bp_48 : (Int8.ofInt 48).toInt32 = 48 := by decide
theorem bp_49 : (Int8.ofInt 49).toInt32 = 49 := by decide
theorem bp_54 : (Int8.ofInt 54).toInt32 = 54 := by decide
theorem bp_57 : (Int8.ofInt 57).toInt32 = 57 := by decide
theorem bp_59 : (Int8.ofInt 59).toInt32 = 59 := by decide
theorem bp_60 : (Int8.ofInt 60).toInt32 = 60 := by decide
theorem bp_64 : (Int8.ofInt 64).toInt32 = 64 := by decide
theorem bp_75 : (Int8.ofInt 75).toInt32 = 75 := by decide
theorem bp_90 : (Int8.ofInt 90).toInt32 = 90 := by decide
theorem bp_96 : (Int8.ofInt 96).toInt32 = 96 := by decide
theorem bp_97 : (Int8.ofInt 97).toInt32 = 97 := by decide
theorem bp_99 : (Int8.ofInt 99).toInt32 = 99 := by decide
theorem bp_122 : (Int8.ofInt 122).toInt32 = 122 := by decide
theorem ic_m8 : Int32.ofInt (-8) = (-8) := by decide
theorem ic_m1 : Int32.ofInt (-1) = (-1) := by decide
theorem ic_0 : Int32.ofInt 0 = 0 := by decide
theorem ic_1 : Int32.ofInt 1 = 1 := by decide
theorem ic_2 : Int32.ofInt 2 = 2 := by decide
theorem ic_3 : Int32.ofInt 3 = 3 := by decide
theorem ic_4 : Int32.ofInt 4 = 4 := by decide
theorem ic_5 : Int32.ofInt 5 = 5 := by decide
theorem lc_0 : Int64.ofNat ((0 : Fin 2) : Nat) = 0 := by decide
theorem lc_1 : Int64.ofNat ((1 : Fin 2) : Nat) = 1 := by decide
theorem sp_162 : (Int16.ofInt 162).toInt32 = 162 := by decide
theorem sp_255 : (Int16.ofInt 255).toInt32 = 255 := by decide
theorem sp_500 : (Int16.ofInt 500).toInt32 = 500 := by decide
theorem sp_600 : (Int16.ofInt 600).toInt32 = 600 := by decide
theorem sp_999 : (Int16.ofInt 999).toInt32 = 999 := by decide
theorem sp_2000 : (Int16.ofInt 2000).toInt32 = 2000 := by decide
theorem sp_9999 : (Int16.ofInt 9999).toInt32 = 9999 := by decide
theorem inT0 : ∀ w ∈ u_ws RX0 TX0 3, w ∈ TB := by decide +kernel
theorem inT1 : ∀ w ∈ u_ws RX1 TX1 3, w ∈ TB := by decide +kernel
theorem inT2 : ∀ w ∈ u_ws RX2 TX2 3, w ∈ TB := by decide +kernel
theorem inT3 : ∀ w ∈ u_ws RX3 TX3 18, w ∈ TB := by decide +kernel
theorem inT4 : ∀ w ∈ u_ws RX4 TX4 6, w ∈ TB := by decide +kernel
theorem inT5 : ∀ w ∈ u_ws RX5 TX5 12, w ∈ TB := by decide +kernel
theorem inT6 : ∀ w ∈ u_ws RX6 TX6 5, w ∈ TB := by decide +kernel
theorem inT7 : ∀ w ∈ u_ws RX7 TX7 6, w ∈ TB := by decide +kernel
theorem inT8 : ∀ w ∈ u_ws RX8 TX8 3, w ∈ TB := by decide +kernel
theorem inT9 : ∀ w ∈ u_ws RX9 TX9 13, w ∈ TB := by decide +kernel
theorem inT10 : ∀ w ∈ u_ws RX10 TX10 41, w ∈ TB := by decide +kernel
def SKX : List Sk := [
  fun _cy ad tr s l => .inr (9, [.ref (ad 1), .ref (ad 2), .ref (ad 14), .ref (ad 32), .ref (ad 35), .ref (ad 48), .ref (ad 65), .ref (ad 68), .int (s 8), .int (s 9), .int (s 10), .int (s 11), .int (s 12)]),
  fun cy _ad _tr s l => .inl (cy 1, 600, .inl s),
  fun _cy ad tr s l => .inr (5, [.int (s 0), .int (s 1), .int (s 2), .ref (ad 3), .ref (ad 4), .ref (ad 5), .ref (ad 6), .ref (ad 7), .ref (ad 8), .ref (ad 9), .ref (ad 10), .ref (ad 11)]),
  fun cy _ad _tr s l => .inl (cy 0, 6, .inl s),
  fun cy _ad _tr s l => .inl (cy 0, 6, .inl s),
  fun cy _ad _tr s l => .inl (cy 0, 6, .inl s),
  fun cy _ad _tr s l => .inl (cy 0, 4, .inl s),
  fun cy _ad _tr s l => .inl (cy 0, 4, .inl s),
  fun cy _ad _tr s l => .inl (cy 0, 4, .inl s),
  fun cy _ad _tr s l => .inl (cy 0, 54, .inl s),
  fun cy _ad _tr s l => .inl (cy 0, 9, .inl s),
  fun _cy ad tr s l => .inr (2, [.ref (ad 12), .ref (ad 13), .int (s 2)]),
  fun cy _ad _tr s l => .inl (cy 0, 18, .inl s),
  fun cy _ad _tr s l => .inl (cy 0, 18, .inl s),
  fun _cy ad tr s l => .inr (6, [.ref (ad 15), .ref (ad 27), .int (s 2), .int (s 3), .int (s 4)]),
  fun _cy ad tr s l => .inr (5, [.int (s 0), .int (s 1), .int (s 2), .ref (ad 16), .ref (ad 17), .ref (ad 18), .ref (ad 19), .ref (ad 20), .ref (ad 21), .ref (ad 22), .ref (ad 23), .ref (ad 24)]),
  fun cy _ad _tr s l => .inl (cy 0, 6, .inl s),
  fun cy _ad _tr s l => .inl (cy 0, 6, .inl s),
  fun cy _ad _tr s l => .inl (cy 0, 6, .inl s),
  fun cy _ad _tr s l => .inl (cy 0, 4, .inl s),
  fun cy _ad _tr s l => .inl (cy 0, 4, .inl s),
  fun cy _ad _tr s l => .inl (cy 0, 4, .inl s),
  fun cy _ad _tr s l => .inl (cy 0, 54, .inl s),
  fun cy _ad _tr s l => .inl (cy 0, 9, .inl s),
  fun _cy ad tr s l => .inr (2, [.ref (ad 25), .ref (ad 26), .int (s 2)]),
  fun cy _ad _tr s l => .inl (cy 0, 18, .inl s),
  fun cy _ad _tr s l => .inl (cy 0, 18, .inl s),
  fun _cy ad tr s l => .inr (7, [.ref (ad 1), .ref (ad 28), .ref (ad 29), .ref (ad 30), .ref (ad 31), .int (s 5)]),
  fun cy _ad _tr s l => .inl (cy 0, 601, .inl s),
  fun cy _ad _tr s l => .inl (cy 0, 601, .inl s),
  fun cy _ad _tr s l => .inl (cy 0, 601, .inl s),
  fun cy _ad _tr s l => .inl (cy 0, 601, .inl s),
  fun _cy ad tr s l => .inr (2, [.ref (ad 33), .ref (ad 34), .int (s 2)]),
  fun cy _ad _tr s l => .inl (cy 0, 18, .inl s),
  fun cy _ad _tr s l => .inl (cy 0, 18, .inl s),
  fun _cy ad tr s l => .inr (3, [.ref (ad 2), .ref (ad 32), .ref (ad 36), .ref (ad 37), .ref (ad 38), .ref (ad 39), .ref (ad 40), .ref (ad 41), .ref (ad 42), .ref (ad 43), .ref (ad 44), .ref (ad 45), .ref (ad 46), .ref (ad 47), .int (s 14), .int (s 15), .int (s 16), .int (s 17)]),
  fun cy _ad _tr s l => .inl (cy 0, 18, .inl s),
  fun cy _ad _tr s l => .inl (cy 0, 18, .inl s),
  fun cy _ad _tr s l => .inl (cy 0, 6, .inl s),
  fun cy _ad _tr s l => .inl (cy 0, 6, .inl s),
  fun cy _ad _tr s l => .inl (cy 0, 6, .inl s),
  fun cy _ad _tr s l => .inl (cy 0, 6, .inl s),
  fun cy _ad _tr s l => .inl (cy 0, 24, .inl s),
  fun cy _ad _tr s l => .inl (cy 0, 6, .inl s),
  fun cy _ad _tr s l => .inl (cy 0, 3, .inl s),
  fun cy _ad _tr s l => .inl (cy 0, 3, .inl s),
  fun cy _ad _tr s l => .inl (cy 0, 3, .inl s),
  fun cy _ad _tr s l => .inl (cy 0, 3, .inl s),
  fun _cy ad tr s l => .inr (4, [.ref (ad 2), .ref (ad 32), .ref (ad 49), .ref (ad 52), tr, .int (s 5)]),
  fun _cy ad tr s l => .inr (2, [.ref (ad 50), .ref (ad 51), .int (s 2)]),
  fun cy _ad _tr s l => .inl (cy 0, 18, .inl s),
  fun cy _ad _tr s l => .inl (cy 0, 18, .inl s),
  fun _cy ad tr s l => .inr (3, [.ref (ad 2), .ref (ad 49), .ref (ad 53), .ref (ad 54), .ref (ad 55), .ref (ad 56), .ref (ad 57), .ref (ad 58), .ref (ad 59), .ref (ad 60), .ref (ad 61), .ref (ad 62), .ref (ad 63), .ref (ad 64), .int (s 14), .int (s 15), .int (s 16), .int (s 17)]),
  fun cy _ad _tr s l => .inl (cy 0, 18, .inl s),
  fun cy _ad _tr s l => .inl (cy 0, 18, .inl s),
  fun cy _ad _tr s l => .inl (cy 0, 6, .inl s),
  fun cy _ad _tr s l => .inl (cy 0, 6, .inl s),
  fun cy _ad _tr s l => .inl (cy 0, 6, .inl s),
  fun cy _ad _tr s l => .inl (cy 0, 6, .inl s),
  fun cy _ad _tr s l => .inl (cy 0, 24, .inl s),
  fun cy _ad _tr s l => .inl (cy 0, 6, .inl s),
  fun cy _ad _tr s l => .inl (cy 0, 3, .inl s),
  fun cy _ad _tr s l => .inl (cy 0, 3, .inl s),
  fun cy _ad _tr s l => .inl (cy 0, 3, .inl s),
  fun cy _ad _tr s l => .inl (cy 0, 3, .inl s),
  fun _cy ad tr s l => .inr (0, [.ref (ad 66), .ref (ad 67), .int (s 2)]),
  fun cy _ad _tr s l => .inl (cy 0, 10, .inl s),
  fun cy _ad _tr s l => .inl (cy 0, 10, .inl s),
  fun cy ad _tr _s _l => .inl (cy 4, 2, .inr (.inr (.inr (.inr (fun j => if j = 0 then some (ad 69) else if j = 1 then some (ad 86) else none))))),
  fun _cy ad tr s l => .inr (1, [.ref (ad 70), .ref (ad 73), .int (s 2)]),
  fun _cy ad tr s l => .inr (2, [.ref (ad 71), .ref (ad 72), .int (s 2)]),
  fun cy _ad _tr s l => .inl (cy 0, 18, .inl s),
  fun cy _ad _tr s l => .inl (cy 0, 18, .inl s),
  fun _cy ad tr s l => .inr (3, [.ref (ad 2), .ref (ad 70), .ref (ad 74), .ref (ad 75), .ref (ad 76), .ref (ad 77), .ref (ad 78), .ref (ad 79), .ref (ad 80), .ref (ad 81), .ref (ad 82), .ref (ad 83), .ref (ad 84), .ref (ad 85), .int (s 14), .int (s 15), .int (s 16), .int (s 17)]),
  fun cy _ad _tr s l => .inl (cy 0, 18, .inl s),
  fun cy _ad _tr s l => .inl (cy 0, 18, .inl s),
  fun cy _ad _tr s l => .inl (cy 0, 6, .inl s),
  fun cy _ad _tr s l => .inl (cy 0, 6, .inl s),
  fun cy _ad _tr s l => .inl (cy 0, 6, .inl s),
  fun cy _ad _tr s l => .inl (cy 0, 6, .inl s),
  fun cy _ad _tr s l => .inl (cy 0, 24, .inl s),
  fun cy _ad _tr s l => .inl (cy 0, 6, .inl s),
  fun cy _ad _tr s l => .inl (cy 0, 3, .inl s),
  fun cy _ad _tr s l => .inl (cy 0, 3, .inl s),
  fun cy _ad _tr s l => .inl (cy 0, 3, .inl s),
  fun cy _ad _tr s l => .inl (cy 0, 3, .inl s),
  fun _cy ad tr s l => .inr (1, [.ref (ad 87), .ref (ad 90), .int (s 2)]),
  fun _cy ad tr s l => .inr (2, [.ref (ad 88), .ref (ad 89), .int (s 2)]),
  fun cy _ad _tr s l => .inl (cy 0, 18, .inl s),
  fun cy _ad _tr s l => .inl (cy 0, 18, .inl s),
  fun _cy ad tr s l => .inr (3, [.ref (ad 2), .ref (ad 87), .ref (ad 91), .ref (ad 92), .ref (ad 93), .ref (ad 94), .ref (ad 95), .ref (ad 96), .ref (ad 97), .ref (ad 98), .ref (ad 99), .ref (ad 100), .ref (ad 101), .ref (ad 102), .int (s 14), .int (s 15), .int (s 16), .int (s 17)]),
  fun cy _ad _tr s l => .inl (cy 0, 18, .inl s),
  fun cy _ad _tr s l => .inl (cy 0, 18, .inl s),
  fun cy _ad _tr s l => .inl (cy 0, 6, .inl s),
  fun cy _ad _tr s l => .inl (cy 0, 6, .inl s),
  fun cy _ad _tr s l => .inl (cy 0, 6, .inl s),
  fun cy _ad _tr s l => .inl (cy 0, 6, .inl s),
  fun cy _ad _tr s l => .inl (cy 0, 24, .inl s),
  fun cy _ad _tr s l => .inl (cy 0, 6, .inl s),
  fun cy _ad _tr s l => .inl (cy 0, 3, .inl s),
  fun cy _ad _tr s l => .inl (cy 0, 3, .inl s),
  fun cy _ad _tr s l => .inl (cy 0, 3, .inl s),
  fun cy _ad _tr s l => .inl (cy 0, 3, .inl s)]
def SKT : List Sk := [
  fun _cy ad tr s l => .inr (8, [.ref (ad 104), .ref (ad 105), .ref (ad 106)]),
  fun cy _ad _tr s l => .inl (cy 3, 10000, .inr (.inl l)),
  fun cy _ad _tr s l => .inl (cy 0, 1024, .inl s),
  fun cy _ad _tr s l => .inl (cy 0, 2000, .inl s)]
def SKM : List Sk := [
  fun _cy ad tr s l => .inr (10, [.int (s 0), .int (s 1), .int (s 2), .ref (ad 1), .int (s 4), .int (s 5), .int (s 6), .int (s 7), .int (s 8), .int (s 9), .int (s 10), .int (s 11), .int (s 12), .long (l 13), .ref (ad 2), .ref (ad 3), .ref (ad 4), .ref (ad 5), .ref (ad 6), .ref (ad 7), .ref (ad 8), .ref (ad 9), .int (s 22), .int (s 23), .int (s 24), .int (s 25), .int (s 26), .int (s 27), .int (s 28), .int (s 29), .ref (ad 10), .ref (ad 11), .ref (ad 12), .ref (ad 13), .ref (ad 14), .int (s 35), .ref (ad 15), .ref (ad 16), .ref (ad 17), .ref (ad 18), .ref (ad 19)]),
  fun cy _ad _tr s l => .inl (cy 0, 600, .inl s),
  fun cy _ad _tr s l => .inl (cy 3, 6, .inr (.inl l)),
  fun cy _ad _tr s l => .inl (cy 3, 12, .inr (.inl l)),
  fun cy _ad _tr s l => .inl (cy 0, 12, .inl s),
  fun cy _ad _tr s l => .inl (cy 0, 12, .inl s),
  fun cy _ad _tr s l => .inl (cy 0, 12, .inl s),
  fun cy _ad _tr s l => .inl (cy 0, 8, .inl s),
  fun cy _ad _tr s l => .inl (cy 0, 8, .inl s),
  fun cy _ad _tr s l => .inl (cy 0, 8, .inl s),
  fun cy _ad _tr s l => .inl (cy 0, 37, .inl s),
  fun cy _ad _tr s l => .inl (cy 0, 37, .inl s),
  fun cy _ad _tr s l => .inl (cy 0, 37, .inl s),
  fun cy _ad _tr s l => .inl (cy 0, 370, .inl s),
  fun cy _ad _tr s l => .inl (cy 0, 74, .inl s),
  fun cy _ad _tr s l => .inl (cy 0, 99, .inl s),
  fun cy _ad _tr s l => .inl (cy 0, 99, .inl s),
  fun cy _ad _tr s l => .inl (cy 0, 198, .inl s),
  fun cy _ad _tr s l => .inl (cy 2, 2, .inl s),
  fun cy _ad _tr s l => .inl (cy 0, 98000, .inl s)]
theorem skX0 (T : List Sk) : (SKX ++ T)[0]? = some (fun _cy ad tr s l => .inr (9, [.ref (ad 1), .ref (ad 2), .ref (ad 14), .ref (ad 32), .ref (ad 35), .ref (ad 48), .ref (ad 65), .ref (ad 68), .int (s 8), .int (s 9), .int (s 10), .int (s 11), .int (s 12)])) := rfl
theorem skX1 (T : List Sk) : (SKX ++ T)[1]? = some (fun cy _ad _tr s l => .inl (cy 1, 600, .inl s)) := rfl
theorem skX2 (T : List Sk) : (SKX ++ T)[2]? = some (fun _cy ad tr s l => .inr (5, [.int (s 0), .int (s 1), .int (s 2), .ref (ad 3), .ref (ad 4), .ref (ad 5), .ref (ad 6), .ref (ad 7), .ref (ad 8), .ref (ad 9), .ref (ad 10), .ref (ad 11)])) := rfl
theorem skX3 (T : List Sk) : (SKX ++ T)[3]? = some (fun cy _ad _tr s l => .inl (cy 0, 6, .inl s)) := rfl
theorem skX4 (T : List Sk) : (SKX ++ T)[4]? = some (fun cy _ad _tr s l => .inl (cy 0, 6, .inl s)) := rfl
theorem skX5 (T : List Sk) : (SKX ++ T)[5]? = some (fun cy _ad _tr s l => .inl (cy 0, 6, .inl s)) := rfl
theorem skX6 (T : List Sk) : (SKX ++ T)[6]? = some (fun cy _ad _tr s l => .inl (cy 0, 4, .inl s)) := rfl
theorem skX7 (T : List Sk) : (SKX ++ T)[7]? = some (fun cy _ad _tr s l => .inl (cy 0, 4, .inl s)) := rfl
theorem skX8 (T : List Sk) : (SKX ++ T)[8]? = some (fun cy _ad _tr s l => .inl (cy 0, 4, .inl s)) := rfl
theorem skX9 (T : List Sk) : (SKX ++ T)[9]? = some (fun cy _ad _tr s l => .inl (cy 0, 54, .inl s)) := rfl
theorem skX10 (T : List Sk) : (SKX ++ T)[10]? = some (fun cy _ad _tr s l => .inl (cy 0, 9, .inl s)) := rfl
theorem skX11 (T : List Sk) : (SKX ++ T)[11]? = some (fun _cy ad tr s l => .inr (2, [.ref (ad 12), .ref (ad 13), .int (s 2)])) := rfl
theorem skX12 (T : List Sk) : (SKX ++ T)[12]? = some (fun cy _ad _tr s l => .inl (cy 0, 18, .inl s)) := rfl
theorem skX13 (T : List Sk) : (SKX ++ T)[13]? = some (fun cy _ad _tr s l => .inl (cy 0, 18, .inl s)) := rfl
theorem skX14 (T : List Sk) : (SKX ++ T)[14]? = some (fun _cy ad tr s l => .inr (6, [.ref (ad 15), .ref (ad 27), .int (s 2), .int (s 3), .int (s 4)])) := rfl
theorem skX15 (T : List Sk) : (SKX ++ T)[15]? = some (fun _cy ad tr s l => .inr (5, [.int (s 0), .int (s 1), .int (s 2), .ref (ad 16), .ref (ad 17), .ref (ad 18), .ref (ad 19), .ref (ad 20), .ref (ad 21), .ref (ad 22), .ref (ad 23), .ref (ad 24)])) := rfl
theorem skX16 (T : List Sk) : (SKX ++ T)[16]? = some (fun cy _ad _tr s l => .inl (cy 0, 6, .inl s)) := rfl
theorem skX17 (T : List Sk) : (SKX ++ T)[17]? = some (fun cy _ad _tr s l => .inl (cy 0, 6, .inl s)) := rfl
theorem skX18 (T : List Sk) : (SKX ++ T)[18]? = some (fun cy _ad _tr s l => .inl (cy 0, 6, .inl s)) := rfl
theorem skX19 (T : List Sk) : (SKX ++ T)[19]? = some (fun cy _ad _tr s l => .inl (cy 0, 4, .inl s)) := rfl
theorem skX20 (T : List Sk) : (SKX ++ T)[20]? = some (fun cy _ad _tr s l => .inl (cy 0, 4, .inl s)) := rfl
theorem skX21 (T : List Sk) : (SKX ++ T)[21]? = some (fun cy _ad _tr s l => .inl (cy 0, 4, .inl s)) := rfl
theorem skX22 (T : List Sk) : (SKX ++ T)[22]? = some (fun cy _ad _tr s l => .inl (cy 0, 54, .inl s)) := rfl
theorem skX23 (T : List Sk) : (SKX ++ T)[23]? = some (fun cy _ad _tr s l => .inl (cy 0, 9, .inl s)) := rfl
theorem skX24 (T : List Sk) : (SKX ++ T)[24]? = some (fun _cy ad tr s l => .inr (2, [.ref (ad 25), .ref (ad 26), .int (s 2)])) := rfl
theorem skX25 (T : List Sk) : (SKX ++ T)[25]? = some (fun cy _ad _tr s l => .inl (cy 0, 18, .inl s)) := rfl
theorem skX26 (T : List Sk) : (SKX ++ T)[26]? = some (fun cy _ad _tr s l => .inl (cy 0, 18, .inl s)) := rfl
theorem skX27 (T : List Sk) : (SKX ++ T)[27]? = some (fun _cy ad tr s l => .inr (7, [.ref (ad 1), .ref (ad 28), .ref (ad 29), .ref (ad 30), .ref (ad 31), .int (s 5)])) := rfl
theorem skX28 (T : List Sk) : (SKX ++ T)[28]? = some (fun cy _ad _tr s l => .inl (cy 0, 601, .inl s)) := rfl
theorem skX29 (T : List Sk) : (SKX ++ T)[29]? = some (fun cy _ad _tr s l => .inl (cy 0, 601, .inl s)) := rfl
theorem skX30 (T : List Sk) : (SKX ++ T)[30]? = some (fun cy _ad _tr s l => .inl (cy 0, 601, .inl s)) := rfl
theorem skX31 (T : List Sk) : (SKX ++ T)[31]? = some (fun cy _ad _tr s l => .inl (cy 0, 601, .inl s)) := rfl
theorem skX32 (T : List Sk) : (SKX ++ T)[32]? = some (fun _cy ad tr s l => .inr (2, [.ref (ad 33), .ref (ad 34), .int (s 2)])) := rfl
theorem skX33 (T : List Sk) : (SKX ++ T)[33]? = some (fun cy _ad _tr s l => .inl (cy 0, 18, .inl s)) := rfl
theorem skX34 (T : List Sk) : (SKX ++ T)[34]? = some (fun cy _ad _tr s l => .inl (cy 0, 18, .inl s)) := rfl
theorem skX35 (T : List Sk) : (SKX ++ T)[35]? = some (fun _cy ad tr s l => .inr (3, [.ref (ad 2), .ref (ad 32), .ref (ad 36), .ref (ad 37), .ref (ad 38), .ref (ad 39), .ref (ad 40), .ref (ad 41), .ref (ad 42), .ref (ad 43), .ref (ad 44), .ref (ad 45), .ref (ad 46), .ref (ad 47), .int (s 14), .int (s 15), .int (s 16), .int (s 17)])) := rfl
theorem skX36 (T : List Sk) : (SKX ++ T)[36]? = some (fun cy _ad _tr s l => .inl (cy 0, 18, .inl s)) := rfl
theorem skX37 (T : List Sk) : (SKX ++ T)[37]? = some (fun cy _ad _tr s l => .inl (cy 0, 18, .inl s)) := rfl
theorem skX38 (T : List Sk) : (SKX ++ T)[38]? = some (fun cy _ad _tr s l => .inl (cy 0, 6, .inl s)) := rfl
theorem skX39 (T : List Sk) : (SKX ++ T)[39]? = some (fun cy _ad _tr s l => .inl (cy 0, 6, .inl s)) := rfl
theorem skX40 (T : List Sk) : (SKX ++ T)[40]? = some (fun cy _ad _tr s l => .inl (cy 0, 6, .inl s)) := rfl
theorem skX41 (T : List Sk) : (SKX ++ T)[41]? = some (fun cy _ad _tr s l => .inl (cy 0, 6, .inl s)) := rfl
theorem skX42 (T : List Sk) : (SKX ++ T)[42]? = some (fun cy _ad _tr s l => .inl (cy 0, 24, .inl s)) := rfl
theorem skX43 (T : List Sk) : (SKX ++ T)[43]? = some (fun cy _ad _tr s l => .inl (cy 0, 6, .inl s)) := rfl
theorem skX44 (T : List Sk) : (SKX ++ T)[44]? = some (fun cy _ad _tr s l => .inl (cy 0, 3, .inl s)) := rfl
theorem skX45 (T : List Sk) : (SKX ++ T)[45]? = some (fun cy _ad _tr s l => .inl (cy 0, 3, .inl s)) := rfl
theorem skX46 (T : List Sk) : (SKX ++ T)[46]? = some (fun cy _ad _tr s l => .inl (cy 0, 3, .inl s)) := rfl
theorem skX47 (T : List Sk) : (SKX ++ T)[47]? = some (fun cy _ad _tr s l => .inl (cy 0, 3, .inl s)) := rfl
theorem skX48 (T : List Sk) : (SKX ++ T)[48]? = some (fun _cy ad tr s l => .inr (4, [.ref (ad 2), .ref (ad 32), .ref (ad 49), .ref (ad 52), tr, .int (s 5)])) := rfl
theorem skX49 (T : List Sk) : (SKX ++ T)[49]? = some (fun _cy ad tr s l => .inr (2, [.ref (ad 50), .ref (ad 51), .int (s 2)])) := rfl
theorem skX50 (T : List Sk) : (SKX ++ T)[50]? = some (fun cy _ad _tr s l => .inl (cy 0, 18, .inl s)) := rfl
theorem skX51 (T : List Sk) : (SKX ++ T)[51]? = some (fun cy _ad _tr s l => .inl (cy 0, 18, .inl s)) := rfl
theorem skX52 (T : List Sk) : (SKX ++ T)[52]? = some (fun _cy ad tr s l => .inr (3, [.ref (ad 2), .ref (ad 49), .ref (ad 53), .ref (ad 54), .ref (ad 55), .ref (ad 56), .ref (ad 57), .ref (ad 58), .ref (ad 59), .ref (ad 60), .ref (ad 61), .ref (ad 62), .ref (ad 63), .ref (ad 64), .int (s 14), .int (s 15), .int (s 16), .int (s 17)])) := rfl
theorem skX53 (T : List Sk) : (SKX ++ T)[53]? = some (fun cy _ad _tr s l => .inl (cy 0, 18, .inl s)) := rfl
theorem skX54 (T : List Sk) : (SKX ++ T)[54]? = some (fun cy _ad _tr s l => .inl (cy 0, 18, .inl s)) := rfl
theorem skX55 (T : List Sk) : (SKX ++ T)[55]? = some (fun cy _ad _tr s l => .inl (cy 0, 6, .inl s)) := rfl
theorem skX56 (T : List Sk) : (SKX ++ T)[56]? = some (fun cy _ad _tr s l => .inl (cy 0, 6, .inl s)) := rfl
theorem skX57 (T : List Sk) : (SKX ++ T)[57]? = some (fun cy _ad _tr s l => .inl (cy 0, 6, .inl s)) := rfl
theorem skX58 (T : List Sk) : (SKX ++ T)[58]? = some (fun cy _ad _tr s l => .inl (cy 0, 6, .inl s)) := rfl
theorem skX59 (T : List Sk) : (SKX ++ T)[59]? = some (fun cy _ad _tr s l => .inl (cy 0, 24, .inl s)) := rfl
theorem skX60 (T : List Sk) : (SKX ++ T)[60]? = some (fun cy _ad _tr s l => .inl (cy 0, 6, .inl s)) := rfl
theorem skX61 (T : List Sk) : (SKX ++ T)[61]? = some (fun cy _ad _tr s l => .inl (cy 0, 3, .inl s)) := rfl
theorem skX62 (T : List Sk) : (SKX ++ T)[62]? = some (fun cy _ad _tr s l => .inl (cy 0, 3, .inl s)) := rfl
theorem skX63 (T : List Sk) : (SKX ++ T)[63]? = some (fun cy _ad _tr s l => .inl (cy 0, 3, .inl s)) := rfl
theorem skX64 (T : List Sk) : (SKX ++ T)[64]? = some (fun cy _ad _tr s l => .inl (cy 0, 3, .inl s)) := rfl
theorem skX65 (T : List Sk) : (SKX ++ T)[65]? = some (fun _cy ad tr s l => .inr (0, [.ref (ad 66), .ref (ad 67), .int (s 2)])) := rfl
theorem skX66 (T : List Sk) : (SKX ++ T)[66]? = some (fun cy _ad _tr s l => .inl (cy 0, 10, .inl s)) := rfl
theorem skX67 (T : List Sk) : (SKX ++ T)[67]? = some (fun cy _ad _tr s l => .inl (cy 0, 10, .inl s)) := rfl
theorem skX68 (T : List Sk) : (SKX ++ T)[68]? = some (fun cy ad _tr _s _l => .inl (cy 4, 2, .inr (.inr (.inr (.inr (fun j => if j = 0 then some (ad 69) else if j = 1 then some (ad 86) else none)))))) := rfl
theorem skX69 (T : List Sk) : (SKX ++ T)[69]? = some (fun _cy ad tr s l => .inr (1, [.ref (ad 70), .ref (ad 73), .int (s 2)])) := rfl
theorem skX70 (T : List Sk) : (SKX ++ T)[70]? = some (fun _cy ad tr s l => .inr (2, [.ref (ad 71), .ref (ad 72), .int (s 2)])) := rfl
theorem skX71 (T : List Sk) : (SKX ++ T)[71]? = some (fun cy _ad _tr s l => .inl (cy 0, 18, .inl s)) := rfl
theorem skX72 (T : List Sk) : (SKX ++ T)[72]? = some (fun cy _ad _tr s l => .inl (cy 0, 18, .inl s)) := rfl
theorem skX73 (T : List Sk) : (SKX ++ T)[73]? = some (fun _cy ad tr s l => .inr (3, [.ref (ad 2), .ref (ad 70), .ref (ad 74), .ref (ad 75), .ref (ad 76), .ref (ad 77), .ref (ad 78), .ref (ad 79), .ref (ad 80), .ref (ad 81), .ref (ad 82), .ref (ad 83), .ref (ad 84), .ref (ad 85), .int (s 14), .int (s 15), .int (s 16), .int (s 17)])) := rfl
theorem skX74 (T : List Sk) : (SKX ++ T)[74]? = some (fun cy _ad _tr s l => .inl (cy 0, 18, .inl s)) := rfl
theorem skX75 (T : List Sk) : (SKX ++ T)[75]? = some (fun cy _ad _tr s l => .inl (cy 0, 18, .inl s)) := rfl
theorem skX76 (T : List Sk) : (SKX ++ T)[76]? = some (fun cy _ad _tr s l => .inl (cy 0, 6, .inl s)) := rfl
theorem skX77 (T : List Sk) : (SKX ++ T)[77]? = some (fun cy _ad _tr s l => .inl (cy 0, 6, .inl s)) := rfl
theorem skX78 (T : List Sk) : (SKX ++ T)[78]? = some (fun cy _ad _tr s l => .inl (cy 0, 6, .inl s)) := rfl
theorem skX79 (T : List Sk) : (SKX ++ T)[79]? = some (fun cy _ad _tr s l => .inl (cy 0, 6, .inl s)) := rfl
theorem skX80 (T : List Sk) : (SKX ++ T)[80]? = some (fun cy _ad _tr s l => .inl (cy 0, 24, .inl s)) := rfl
theorem skX81 (T : List Sk) : (SKX ++ T)[81]? = some (fun cy _ad _tr s l => .inl (cy 0, 6, .inl s)) := rfl
theorem skX82 (T : List Sk) : (SKX ++ T)[82]? = some (fun cy _ad _tr s l => .inl (cy 0, 3, .inl s)) := rfl
theorem skX83 (T : List Sk) : (SKX ++ T)[83]? = some (fun cy _ad _tr s l => .inl (cy 0, 3, .inl s)) := rfl
theorem skX84 (T : List Sk) : (SKX ++ T)[84]? = some (fun cy _ad _tr s l => .inl (cy 0, 3, .inl s)) := rfl
theorem skX85 (T : List Sk) : (SKX ++ T)[85]? = some (fun cy _ad _tr s l => .inl (cy 0, 3, .inl s)) := rfl
theorem skX86 (T : List Sk) : (SKX ++ T)[86]? = some (fun _cy ad tr s l => .inr (1, [.ref (ad 87), .ref (ad 90), .int (s 2)])) := rfl
theorem skX87 (T : List Sk) : (SKX ++ T)[87]? = some (fun _cy ad tr s l => .inr (2, [.ref (ad 88), .ref (ad 89), .int (s 2)])) := rfl
theorem skX88 (T : List Sk) : (SKX ++ T)[88]? = some (fun cy _ad _tr s l => .inl (cy 0, 18, .inl s)) := rfl
theorem skX89 (T : List Sk) : (SKX ++ T)[89]? = some (fun cy _ad _tr s l => .inl (cy 0, 18, .inl s)) := rfl
theorem skX90 (T : List Sk) : (SKX ++ T)[90]? = some (fun _cy ad tr s l => .inr (3, [.ref (ad 2), .ref (ad 87), .ref (ad 91), .ref (ad 92), .ref (ad 93), .ref (ad 94), .ref (ad 95), .ref (ad 96), .ref (ad 97), .ref (ad 98), .ref (ad 99), .ref (ad 100), .ref (ad 101), .ref (ad 102), .int (s 14), .int (s 15), .int (s 16), .int (s 17)])) := rfl
theorem skX91 (T : List Sk) : (SKX ++ T)[91]? = some (fun cy _ad _tr s l => .inl (cy 0, 18, .inl s)) := rfl
theorem skX92 (T : List Sk) : (SKX ++ T)[92]? = some (fun cy _ad _tr s l => .inl (cy 0, 18, .inl s)) := rfl
theorem skX93 (T : List Sk) : (SKX ++ T)[93]? = some (fun cy _ad _tr s l => .inl (cy 0, 6, .inl s)) := rfl
theorem skX94 (T : List Sk) : (SKX ++ T)[94]? = some (fun cy _ad _tr s l => .inl (cy 0, 6, .inl s)) := rfl
theorem skX95 (T : List Sk) : (SKX ++ T)[95]? = some (fun cy _ad _tr s l => .inl (cy 0, 6, .inl s)) := rfl
theorem skX96 (T : List Sk) : (SKX ++ T)[96]? = some (fun cy _ad _tr s l => .inl (cy 0, 6, .inl s)) := rfl
theorem skX97 (T : List Sk) : (SKX ++ T)[97]? = some (fun cy _ad _tr s l => .inl (cy 0, 24, .inl s)) := rfl
theorem skX98 (T : List Sk) : (SKX ++ T)[98]? = some (fun cy _ad _tr s l => .inl (cy 0, 6, .inl s)) := rfl
theorem skX99 (T : List Sk) : (SKX ++ T)[99]? = some (fun cy _ad _tr s l => .inl (cy 0, 3, .inl s)) := rfl
theorem skX100 (T : List Sk) : (SKX ++ T)[100]? = some (fun cy _ad _tr s l => .inl (cy 0, 3, .inl s)) := rfl
theorem skX101 (T : List Sk) : (SKX ++ T)[101]? = some (fun cy _ad _tr s l => .inl (cy 0, 3, .inl s)) := rfl
theorem skX102 (T : List Sk) : (SKX ++ T)[102]? = some (fun cy _ad _tr s l => .inl (cy 0, 3, .inl s)) := rfl
theorem skX103 (T : List Sk) : (SKX ++ (SKT ++ T))[103]? = some (fun _cy ad tr s l => .inr (8, [.ref (ad 104), .ref (ad 105), .ref (ad 106)])) := rfl
theorem skX104 (T : List Sk) : (SKX ++ (SKT ++ T))[104]? = some (fun cy _ad _tr s l => .inl (cy 3, 10000, .inr (.inl l))) := rfl
theorem skX105 (T : List Sk) : (SKX ++ (SKT ++ T))[105]? = some (fun cy _ad _tr s l => .inl (cy 0, 1024, .inl s)) := rfl
theorem skX106 (T : List Sk) : (SKX ++ (SKT ++ T))[106]? = some (fun cy _ad _tr s l => .inl (cy 0, 2000, .inl s)) := rfl
theorem skM0 (T : List Sk) : (SKM ++ T)[0]? = some (fun _cy ad tr s l => .inr (10, [.int (s 0), .int (s 1), .int (s 2), .ref (ad 1), .int (s 4), .int (s 5), .int (s 6), .int (s 7), .int (s 8), .int (s 9), .int (s 10), .int (s 11), .int (s 12), .long (l 13), .ref (ad 2), .ref (ad 3), .ref (ad 4), .ref (ad 5), .ref (ad 6), .ref (ad 7), .ref (ad 8), .ref (ad 9), .int (s 22), .int (s 23), .int (s 24), .int (s 25), .int (s 26), .int (s 27), .int (s 28), .int (s 29), .ref (ad 10), .ref (ad 11), .ref (ad 12), .ref (ad 13), .ref (ad 14), .int (s 35), .ref (ad 15), .ref (ad 16), .ref (ad 17), .ref (ad 18), .ref (ad 19)])) := rfl
theorem skM1 (T : List Sk) : (SKM ++ T)[1]? = some (fun cy _ad _tr s l => .inl (cy 0, 600, .inl s)) := rfl
theorem skM2 (T : List Sk) : (SKM ++ T)[2]? = some (fun cy _ad _tr s l => .inl (cy 3, 6, .inr (.inl l))) := rfl
theorem skM3 (T : List Sk) : (SKM ++ T)[3]? = some (fun cy _ad _tr s l => .inl (cy 3, 12, .inr (.inl l))) := rfl
theorem skM4 (T : List Sk) : (SKM ++ T)[4]? = some (fun cy _ad _tr s l => .inl (cy 0, 12, .inl s)) := rfl
theorem skM5 (T : List Sk) : (SKM ++ T)[5]? = some (fun cy _ad _tr s l => .inl (cy 0, 12, .inl s)) := rfl
theorem skM6 (T : List Sk) : (SKM ++ T)[6]? = some (fun cy _ad _tr s l => .inl (cy 0, 12, .inl s)) := rfl
theorem skM7 (T : List Sk) : (SKM ++ T)[7]? = some (fun cy _ad _tr s l => .inl (cy 0, 8, .inl s)) := rfl
theorem skM8 (T : List Sk) : (SKM ++ T)[8]? = some (fun cy _ad _tr s l => .inl (cy 0, 8, .inl s)) := rfl
theorem skM9 (T : List Sk) : (SKM ++ T)[9]? = some (fun cy _ad _tr s l => .inl (cy 0, 8, .inl s)) := rfl
theorem skM10 (T : List Sk) : (SKM ++ T)[10]? = some (fun cy _ad _tr s l => .inl (cy 0, 37, .inl s)) := rfl
theorem skM11 (T : List Sk) : (SKM ++ T)[11]? = some (fun cy _ad _tr s l => .inl (cy 0, 37, .inl s)) := rfl
theorem skM12 (T : List Sk) : (SKM ++ T)[12]? = some (fun cy _ad _tr s l => .inl (cy 0, 37, .inl s)) := rfl
theorem skM13 (T : List Sk) : (SKM ++ T)[13]? = some (fun cy _ad _tr s l => .inl (cy 0, 370, .inl s)) := rfl
theorem skM14 (T : List Sk) : (SKM ++ T)[14]? = some (fun cy _ad _tr s l => .inl (cy 0, 74, .inl s)) := rfl
theorem skM15 (T : List Sk) : (SKM ++ T)[15]? = some (fun cy _ad _tr s l => .inl (cy 0, 99, .inl s)) := rfl
theorem skM16 (T : List Sk) : (SKM ++ T)[16]? = some (fun cy _ad _tr s l => .inl (cy 0, 99, .inl s)) := rfl
theorem skM17 (T : List Sk) : (SKM ++ T)[17]? = some (fun cy _ad _tr s l => .inl (cy 0, 198, .inl s)) := rfl
theorem skM18 (T : List Sk) : (SKM ++ T)[18]? = some (fun cy _ad _tr s l => .inl (cy 2, 2, .inl s)) := rfl
theorem skM19 (T : List Sk) : (SKM ++ T)[19]? = some (fun cy _ad _tr s l => .inl (cy 0, 98000, .inl s)) := rfl
