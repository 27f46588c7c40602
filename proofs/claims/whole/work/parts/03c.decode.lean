theorem dX9_letter_12 : decode cX9_letter 12 = .ok (.goto 19, 3) := by decide +kernel
theorem dX9_letter_15 : decode cX9_letter 15 = .ok (.aload_n 0, 1) := by decide +kernel
theorem dX9_letter_16 : decode cX9_letter 16 = .ok (.iload_n 2, 1) := by decide +kernel
theorem dX9_letter_17 : decode cX9_letter 17 = .ok (.invokevirtual 150, 3) := by decide +kernel
theorem dX9_letter_20 : decode cX9_letter 20 = .ok (.ifCond .ne 11, 3) := by decide +kernel
theorem dX9_letter_23 : decode cX9_letter 23 = .ok (.new 292, 3) := by decide +kernel
theorem dX9_letter_26 : decode cX9_letter 26 = .ok (.dup, 1) := by decide +kernel
theorem dX9_letter_27 : decode cX9_letter 27 = .ok (.invokespecial 294, 3) := by decide +kernel
theorem dX9_letter_30 : decode cX9_letter 30 = .ok (.athrow, 1) := by decide +kernel
theorem dX9_letter_31 : decode cX9_letter 31 = .ok (.iload_n 1, 1) := by decide +kernel
theorem dX9_letter_32 : decode cX9_letter 32 = .ok (.ifCond .eq 7, 3) := by decide +kernel
theorem dX9_letter_35 : decode cX9_letter 35 = .ok (.iload_n 2, 1) := by decide +kernel
theorem dX9_letter_36 : decode cX9_letter 36 = .ok (.goto 6, 3) := by decide +kernel
theorem dX9_letter_39 : decode cX9_letter 39 = .ok (.iconst 3, 1) := by decide +kernel
theorem dX9_letter_40 : decode cX9_letter 40 = .ok (.iload_n 2, 1) := by decide +kernel
theorem dX9_letter_41 : decode cX9_letter 41 = .ok (.iadd, 1) := by decide +kernel
theorem dX9_letter_42 : decode cX9_letter 42 = .ok (.istore 4, 2) := by decide +kernel
theorem dX9_letter_44 : decode cX9_letter 44 = .ok (.iload_n 3, 1) := by decide +kernel
theorem dX9_letter_45 : decode cX9_letter 45 = .ok (.aload_n 0, 1) := by decide +kernel
theorem dX9_letter_46 : decode cX9_letter 46 = .ok (.getfield 16, 3) := by decide +kernel
theorem dX9_letter_49 : decode cX9_letter 49 = .ok (.getfield 295, 3) := by decide +kernel
theorem dX9_letter_52 : decode cX9_letter 52 = .ok (.iload 4, 2) := by decide +kernel
theorem dX9_letter_54 : decode cX9_letter 54 = .ok (.iaload, 1) := by decide +kernel
theorem dX9_letter_55 : decode cX9_letter 55 = .ok (.iconst 1, 1) := by decide +kernel
theorem dX9_letter_56 : decode cX9_letter 56 = .ok (.isub, 1) := by decide +kernel
theorem dX9_letter_57 : decode cX9_letter 57 = .ok (.invokestatic 128, 3) := by decide +kernel
theorem dX9_letter_60 : decode cX9_letter 60 = .ok (.ifCond .ne 11, 3) := by decide +kernel
theorem dX9_letter_63 : decode cX9_letter 63 = .ok (.new 292, 3) := by decide +kernel
theorem dX9_letter_66 : decode cX9_letter 66 = .ok (.dup, 1) := by decide +kernel
theorem dX9_letter_67 : decode cX9_letter 67 = .ok (.invokespecial 294, 3) := by decide +kernel
theorem dX9_letter_70 : decode cX9_letter 70 = .ok (.athrow, 1) := by decide +kernel
theorem dX9_letter_71 : decode cX9_letter 71 = .ok (.aload_n 0, 1) := by decide +kernel
theorem dX9_letter_72 : decode cX9_letter 72 = .ok (.getfield 16, 3) := by decide +kernel
theorem dX9_letter_75 : decode cX9_letter 75 = .ok (.getfield 298, 3) := by decide +kernel
theorem dX9_letter_78 : decode cX9_letter 78 = .ok (.bipush 6, 2) := by decide +kernel
theorem dX9_letter_80 : decode cX9_letter 80 = .ok (.iload 4, 2) := by decide +kernel
theorem dX9_letter_82 : decode cX9_letter 82 = .ok (.imul, 1) := by decide +kernel
theorem dX9_letter_83 : decode cX9_letter 83 = .ok (.iload_n 3, 1) := by decide +kernel
theorem dX9_letter_84 : decode cX9_letter 84 = .ok (.iadd, 1) := by decide +kernel
theorem dX9_letter_85 : decode cX9_letter 85 = .ok (.iaload, 1) := by decide +kernel
theorem dX9_letter_86 : decode cX9_letter 86 = .ok (.ireturn, 1) := by decide +kernel
theorem dX9_bytes_0 : decode cX9_bytes 0 = .ok (.aload_n 0, 1) := by decide +kernel
theorem dX9_bytes_1 : decode cX9_bytes 1 = .ok (.getfield 72, 3) := by decide +kernel
theorem dX9_bytes_4 : decode cX9_bytes 4 = .ok (.ireturn, 1) := by decide +kernel
theorem dX9_trouble_0 : decode cX9_trouble 0 = .ok (.aload_n 0, 1) := by decide +kernel
theorem dX9_trouble_1 : decode cX9_trouble 1 = .ok (.getfield 125, 3) := by decide +kernel
theorem dX9_trouble_4 : decode cX9_trouble 4 = .ok (.ireturn, 1) := by decide +kernel
theorem dX10_thrown_0 : decode cX10_thrown 0 = .ok (.aload_n 0, 1) := by decide +kernel
theorem dX10_thrown_1 : decode cX10_thrown 1 = .ok (.getfield 74, 3) := by decide +kernel
theorem dX10_thrown_4 : decode cX10_thrown 4 = .ok (.ireturn, 1) := by decide +kernel
theorem dX10_refused_0 : decode cX10_refused 0 = .ok (.aload_n 0, 1) := by decide +kernel
theorem dX10_refused_1 : decode cX10_refused 1 = .ok (.iload_n 1, 1) := by decide +kernel
theorem dX10_refused_2 : decode cX10_refused 2 = .ok (.putfield 77, 3) := by decide +kernel
theorem dX10_refused_5 : decode cX10_refused 5 = .ok (.aload_n 0, 1) := by decide +kernel
theorem dX10_refused_6 : decode cX10_refused 6 = .ok (.iconst (-1), 1) := by decide +kernel
theorem dX10_refused_7 : decode cX10_refused 7 = .ok (.putfield 9, 3) := by decide +kernel
theorem dX10_refused_10 : decode cX10_refused 10 = .ok (.iconst (-1), 1) := by decide +kernel
theorem dX10_refused_11 : decode cX10_refused 11 = .ok (.ireturn, 1) := by decide +kernel
theorem dX10_good_0 : decode cX10_good 0 = .ok (.aload_n 0, 1) := by decide +kernel
theorem dX10_good_1 : decode cX10_good 1 = .ok (.iconst 0, 1) := by decide +kernel
theorem dX10_good_2 : decode cX10_good 2 = .ok (.putfield 77, 3) := by decide +kernel
theorem dX10_good_5 : decode cX10_good 5 = .ok (.aload_n 0, 1) := by decide +kernel
theorem dX10_good_6 : decode cX10_good 6 = .ok (.iconst (-1), 1) := by decide +kernel
theorem dX10_good_7 : decode cX10_good 7 = .ok (.putfield 9, 3) := by decide +kernel
theorem dX10_good_10 : decode cX10_good 10 = .ok (.iload_n 1, 1) := by decide +kernel
theorem dX10_good_11 : decode cX10_good 11 = .ok (.ireturn, 1) := by decide +kernel
theorem dX10_granted_0 : decode cX10_granted 0 = .ok (.aload_n 0, 1) := by decide +kernel
theorem dX10_granted_1 : decode cX10_granted 1 = .ok (.iload_n 1, 1) := by decide +kernel
theorem dX10_granted_2 : decode cX10_granted 2 = .ok (.putfield 77, 3) := by decide +kernel
theorem dX10_granted_5 : decode cX10_granted 5 = .ok (.aload_n 0, 1) := by decide +kernel
theorem dX10_granted_6 : decode cX10_granted 6 = .ok (.iconst (-1), 1) := by decide +kernel
theorem dX10_granted_7 : decode cX10_granted 7 = .ok (.putfield 9, 3) := by decide +kernel
theorem dX10_granted_10 : decode cX10_granted 10 = .ok (.iload_n 1, 1) := by decide +kernel
theorem dX10_granted_11 : decode cX10_granted 11 = .ok (.ifCond .ne 7, 3) := by decide +kernel
theorem dX10_granted_14 : decode cX10_granted 14 = .ok (.iconst 1, 1) := by decide +kernel
theorem dX10_granted_15 : decode cX10_granted 15 = .ok (.goto 4, 3) := by decide +kernel
theorem dX10_granted_18 : decode cX10_granted 18 = .ok (.iconst 0, 1) := by decide +kernel
theorem dX10_granted_19 : decode cX10_granted 19 = .ok (.ireturn, 1) := by decide +kernel
theorem dX10_in_0 : decode cX10_in 0 = .ok (.iload_n 0, 1) := by decide +kernel
theorem dX10_in_1 : decode cX10_in 1 = .ok (.iload_n 1, 1) := by decide +kernel
theorem dX10_in_2 : decode cX10_in 2 = .ok (.if_icmp .lt 12, 3) := by decide +kernel
theorem dX10_in_5 : decode cX10_in 5 = .ok (.iload_n 0, 1) := by decide +kernel
theorem dX10_in_6 : decode cX10_in 6 = .ok (.iload_n 2, 1) := by decide +kernel
theorem dX10_in_7 : decode cX10_in 7 = .ok (.if_icmp .gt 7, 3) := by decide +kernel
theorem dX10_in_10 : decode cX10_in 10 = .ok (.iconst 1, 1) := by decide +kernel
theorem dX10_in_11 : decode cX10_in 11 = .ok (.goto 4, 3) := by decide +kernel
theorem dX10_in_14 : decode cX10_in 14 = .ok (.iconst 0, 1) := by decide +kernel
theorem dX10_in_15 : decode cX10_in 15 = .ok (.ireturn, 1) := by decide +kernel
theorem dX10_feed_0 : decode cX10_feed 0 = .ok (.aload_n 0, 1) := by decide +kernel
theorem dX10_feed_1 : decode cX10_feed 1 = .ok (.iconst 0, 1) := by decide +kernel
theorem dX10_feed_2 : decode cX10_feed 2 = .ok (.putfield 74, 3) := by decide +kernel
theorem dX10_feed_5 : decode cX10_feed 5 = .ok (.aload_n 0, 1) := by decide +kernel
theorem dX10_feed_6 : decode cX10_feed 6 = .ok (.getfield 80, 3) := by decide +kernel
theorem dX10_feed_9 : decode cX10_feed 9 = .ok (.bipush 20, 2) := by decide +kernel
theorem dX10_feed_11 : decode cX10_feed 11 = .ok (.iadd, 1) := by decide +kernel
theorem dX10_feed_12 : decode cX10_feed 12 = .ok (.sipush 600, 3) := by decide +kernel
theorem dX10_feed_15 : decode cX10_feed 15 = .ok (.if_icmp .le 5, 3) := by decide +kernel
theorem dX10_feed_18 : decode cX10_feed 18 = .ok (.iconst (-1), 1) := by decide +kernel
theorem dX10_feed_19 : decode cX10_feed 19 = .ok (.ireturn, 1) := by decide +kernel
theorem dX10_feed_20 : decode cX10_feed 20 = .ok (.iconst 0, 1) := by decide +kernel
theorem dX10_feed_21 : decode cX10_feed 21 = .ok (.istore 6, 2) := by decide +kernel
theorem dX10_feed_23 : decode cX10_feed 23 = .ok (.iload 6, 2) := by decide +kernel
theorem dX10_feed_25 : decode cX10_feed 25 = .ok (.bipush 20, 2) := by decide +kernel
theorem dX10_feed_27 : decode cX10_feed 27 = .ok (.if_icmp .ge 86, 3) := by decide +kernel
theorem dX10_feed_30 : decode cX10_feed 30 = .ok (.iload 6, 2) := by decide +kernel
theorem dX10_feed_32 : decode cX10_feed 32 = .ok (.iconst 4, 1) := by decide +kernel
theorem dX10_feed_33 : decode cX10_feed 33 = .ok (.if_icmp .ge 7, 3) := by decide +kernel
theorem dX10_feed_36 : decode cX10_feed 36 = .ok (.iload_n 1, 1) := by decide +kernel
theorem dX10_feed_37 : decode cX10_feed 37 = .ok (.goto 39, 3) := by decide +kernel
theorem dX10_feed_40 : decode cX10_feed 40 = .ok (.iload 6, 2) := by decide +kernel
theorem dX10_feed_42 : decode cX10_feed 42 = .ok (.bipush 8, 2) := by decide +kernel
theorem dX10_feed_44 : decode cX10_feed 44 = .ok (.if_icmp .ge 7, 3) := by decide +kernel
theorem dX10_feed_47 : decode cX10_feed 47 = .ok (.iload_n 2, 1) := by decide +kernel
theorem dX10_feed_48 : decode cX10_feed 48 = .ok (.goto 28, 3) := by decide +kernel
theorem dX10_feed_51 : decode cX10_feed 51 = .ok (.iload 6, 2) := by decide +kernel
theorem dX10_feed_53 : decode cX10_feed 53 = .ok (.bipush 12, 2) := by decide +kernel
theorem dX10_feed_55 : decode cX10_feed 55 = .ok (.if_icmp .ge 7, 3) := by decide +kernel
theorem dX10_feed_58 : decode cX10_feed 58 = .ok (.iload_n 3, 1) := by decide +kernel
theorem dX10_feed_59 : decode cX10_feed 59 = .ok (.goto 17, 3) := by decide +kernel
theorem dX10_feed_62 : decode cX10_feed 62 = .ok (.iload 6, 2) := by decide +kernel
theorem dX10_feed_64 : decode cX10_feed 64 = .ok (.bipush 16, 2) := by decide +kernel
theorem dX10_feed_66 : decode cX10_feed 66 = .ok (.if_icmp .ge 8, 3) := by decide +kernel
theorem dX10_feed_69 : decode cX10_feed 69 = .ok (.iload 4, 2) := by decide +kernel
theorem dX10_feed_71 : decode cX10_feed 71 = .ok (.goto 5, 3) := by decide +kernel
theorem dX10_feed_74 : decode cX10_feed 74 = .ok (.iload 5, 2) := by decide +kernel
theorem dX10_feed_76 : decode cX10_feed 76 = .ok (.istore 7, 2) := by decide +kernel
theorem dX10_feed_78 : decode cX10_feed 78 = .ok (.aload_n 0, 1) := by decide +kernel
theorem dX10_feed_79 : decode cX10_feed 79 = .ok (.getfield 13, 3) := by decide +kernel
theorem dX10_feed_82 : decode cX10_feed 82 = .ok (.aload_n 0, 1) := by decide +kernel
theorem dX10_feed_83 : decode cX10_feed 83 = .ok (.getfield 80, 3) := by decide +kernel
theorem dX10_feed_86 : decode cX10_feed 86 = .ok (.iload 6, 2) := by decide +kernel
theorem dX10_feed_88 : decode cX10_feed 88 = .ok (.iadd, 1) := by decide +kernel
theorem dX10_feed_89 : decode cX10_feed 89 = .ok (.iload 7, 2) := by decide +kernel
theorem dX10_feed_91 : decode cX10_feed 91 = .ok (.bipush 24, 2) := by decide +kernel
theorem dX10_feed_93 : decode cX10_feed 93 = .ok (.bipush 8, 2) := by decide +kernel
theorem dX10_feed_95 : decode cX10_feed 95 = .ok (.iload 6, 2) := by decide +kernel
theorem dX10_feed_97 : decode cX10_feed 97 = .ok (.iconst 4, 1) := by decide +kernel
theorem dX10_feed_98 : decode cX10_feed 98 = .ok (.irem, 1) := by decide +kernel
theorem dX10_feed_99 : decode cX10_feed 99 = .ok (.imul, 1) := by decide +kernel
theorem dX10_feed_100 : decode cX10_feed 100 = .ok (.isub, 1) := by decide +kernel
theorem dX10_feed_101 : decode cX10_feed 101 = .ok (.ishr, 1) := by decide +kernel
theorem dX10_feed_102 : decode cX10_feed 102 = .ok (.sipush 255, 3) := by decide +kernel
theorem dX10_feed_105 : decode cX10_feed 105 = .ok (.iand, 1) := by decide +kernel
theorem dX10_feed_106 : decode cX10_feed 106 = .ok (.iastore, 1) := by decide +kernel
theorem dX10_feed_107 : decode cX10_feed 107 = .ok (.iinc 6 1, 3) := by decide +kernel
theorem dX10_feed_110 : decode cX10_feed 110 = .ok (.goto (-87), 3) := by decide +kernel
theorem dX10_feed_113 : decode cX10_feed 113 = .ok (.aload_n 0, 1) := by decide +kernel
theorem dX10_feed_114 : decode cX10_feed 114 = .ok (.dup, 1) := by decide +kernel
theorem dX10_feed_115 : decode cX10_feed 115 = .ok (.getfield 80, 3) := by decide +kernel
theorem dX10_feed_118 : decode cX10_feed 118 = .ok (.bipush 20, 2) := by decide +kernel
theorem dX10_feed_120 : decode cX10_feed 120 = .ok (.iadd, 1) := by decide +kernel
theorem dX10_feed_121 : decode cX10_feed 121 = .ok (.putfield 80, 3) := by decide +kernel
theorem dX10_feed_124 : decode cX10_feed 124 = .ok (.aload_n 0, 1) := by decide +kernel
theorem dX10_feed_125 : decode cX10_feed 125 = .ok (.getfield 80, 3) := by decide +kernel
theorem dX10_feed_128 : decode cX10_feed 128 = .ok (.ireturn, 1) := by decide +kernel
theorem dX10_flaw_0 : decode cX10_flaw 0 = .ok (.aload_n 0, 1) := by decide +kernel
theorem dX10_flaw_1 : decode cX10_flaw 1 = .ok (.getfield 83, 3) := by decide +kernel
theorem dX10_flaw_4 : decode cX10_flaw 4 = .ok (.ifCond .le 4, 3) := by decide +kernel
theorem dX10_flaw_7 : decode cX10_flaw 7 = .ok (.return_, 1) := by decide +kernel
theorem dX10_flaw_8 : decode cX10_flaw 8 = .ok (.aload_n 0, 1) := by decide +kernel
theorem dX10_flaw_9 : decode cX10_flaw 9 = .ok (.iload_n 1, 1) := by decide +kernel
theorem dX10_flaw_10 : decode cX10_flaw 10 = .ok (.putfield 83, 3) := by decide +kernel
theorem dX10_flaw_13 : decode cX10_flaw 13 = .ok (.aload_n 0, 1) := by decide +kernel
theorem dX10_flaw_14 : decode cX10_flaw 14 = .ok (.aload_n 0, 1) := by decide +kernel
theorem dX10_flaw_15 : decode cX10_flaw 15 = .ok (.getfield 86, 3) := by decide +kernel
theorem dX10_flaw_18 : decode cX10_flaw 18 = .ok (.putfield 89, 3) := by decide +kernel
theorem dX10_flaw_21 : decode cX10_flaw 21 = .ok (.return_, 1) := by decide +kernel
theorem dX10_isLetterAt_0 : decode cX10_isLetterAt 0 = .ok (.iload_n 1, 1) := by decide +kernel
theorem dX10_isLetterAt_1 : decode cX10_isLetterAt 1 = .ok (.aload_n 0, 1) := by decide +kernel
theorem dX10_isLetterAt_2 : decode cX10_isLetterAt 2 = .ok (.getfield 92, 3) := by decide +kernel
theorem dX10_isLetterAt_5 : decode cX10_isLetterAt 5 = .ok (.if_icmp .ge 23, 3) := by decide +kernel
theorem dX10_isLetterAt_8 : decode cX10_isLetterAt 8 = .ok (.aload_n 0, 1) := by decide +kernel
theorem dX10_isLetterAt_9 : decode cX10_isLetterAt 9 = .ok (.getfield 13, 3) := by decide +kernel
theorem dX10_isLetterAt_12 : decode cX10_isLetterAt 12 = .ok (.iload_n 1, 1) := by decide +kernel
theorem dX10_isLetterAt_13 : decode cX10_isLetterAt 13 = .ok (.iaload, 1) := by decide +kernel
theorem dX10_isLetterAt_14 : decode cX10_isLetterAt 14 = .ok (.bipush 97, 2) := by decide +kernel
theorem dX10_isLetterAt_16 : decode cX10_isLetterAt 16 = .ok (.bipush 122, 2) := by decide +kernel
theorem dX10_isLetterAt_18 : decode cX10_isLetterAt 18 = .ok (.invokestatic 95, 3) := by decide +kernel
theorem dX10_isLetterAt_21 : decode cX10_isLetterAt 21 = .ok (.ifCond .eq 7, 3) := by decide +kernel
theorem dX10_isLetterAt_24 : decode cX10_isLetterAt 24 = .ok (.iconst 1, 1) := by decide +kernel
theorem dX10_isLetterAt_25 : decode cX10_isLetterAt 25 = .ok (.goto 4, 3) := by decide +kernel
theorem dX10_isLetterAt_28 : decode cX10_isLetterAt 28 = .ok (.iconst 0, 1) := by decide +kernel
theorem dX10_isLetterAt_29 : decode cX10_isLetterAt 29 = .ok (.ireturn, 1) := by decide +kernel
theorem dX10_isDigitAt_0 : decode cX10_isDigitAt 0 = .ok (.iload_n 1, 1) := by decide +kernel
theorem dX10_isDigitAt_1 : decode cX10_isDigitAt 1 = .ok (.aload_n 0, 1) := by decide +kernel
theorem dX10_isDigitAt_2 : decode cX10_isDigitAt 2 = .ok (.getfield 92, 3) := by decide +kernel
theorem dX10_isDigitAt_5 : decode cX10_isDigitAt 5 = .ok (.if_icmp .ge 23, 3) := by decide +kernel
theorem dX10_isDigitAt_8 : decode cX10_isDigitAt 8 = .ok (.aload_n 0, 1) := by decide +kernel
theorem dX10_isDigitAt_9 : decode cX10_isDigitAt 9 = .ok (.getfield 13, 3) := by decide +kernel
theorem dX10_isDigitAt_12 : decode cX10_isDigitAt 12 = .ok (.iload_n 1, 1) := by decide +kernel
theorem dX10_isDigitAt_13 : decode cX10_isDigitAt 13 = .ok (.iaload, 1) := by decide +kernel
theorem dX10_isDigitAt_14 : decode cX10_isDigitAt 14 = .ok (.bipush 48, 2) := by decide +kernel
theorem dX10_isDigitAt_16 : decode cX10_isDigitAt 16 = .ok (.bipush 57, 2) := by decide +kernel
theorem dX10_isDigitAt_18 : decode cX10_isDigitAt 18 = .ok (.invokestatic 95, 3) := by decide +kernel
theorem dX10_isDigitAt_21 : decode cX10_isDigitAt 21 = .ok (.ifCond .eq 7, 3) := by decide +kernel
theorem dX10_isDigitAt_24 : decode cX10_isDigitAt 24 = .ok (.iconst 1, 1) := by decide +kernel
theorem dX10_isDigitAt_25 : decode cX10_isDigitAt 25 = .ok (.goto 4, 3) := by decide +kernel
theorem dX10_isDigitAt_28 : decode cX10_isDigitAt 28 = .ok (.iconst 0, 1) := by decide +kernel
theorem dX10_isDigitAt_29 : decode cX10_isDigitAt 29 = .ok (.ireturn, 1) := by decide +kernel
theorem dX10_goOn_0 : decode cX10_goOn 0 = .ok (.aload_n 0, 1) := by decide +kernel
theorem dX10_goOn_1 : decode cX10_goOn 1 = .ok (.getfield 83, 3) := by decide +kernel
theorem dX10_goOn_4 : decode cX10_goOn 4 = .ok (.ifCond .le 4, 3) := by decide +kernel
theorem dX10_goOn_7 : decode cX10_goOn 7 = .ok (.return_, 1) := by decide +kernel
theorem dX10_goOn_8 : decode cX10_goOn 8 = .ok (.aload_n 0, 1) := by decide +kernel
theorem dX10_goOn_9 : decode cX10_goOn 9 = .ok (.getfield 99, 3) := by decide +kernel
theorem dX10_goOn_12 : decode cX10_goOn 12 = .ok (.aload_n 0, 1) := by decide +kernel
theorem dX10_goOn_13 : decode cX10_goOn 13 = .ok (.getfield 92, 3) := by decide +kernel
theorem dX10_goOn_16 : decode cX10_goOn 16 = .ok (.if_icmp .ge 30, 3) := by decide +kernel
theorem dX10_goOn_19 : decode cX10_goOn 19 = .ok (.aload_n 0, 1) := by decide +kernel
theorem dX10_goOn_20 : decode cX10_goOn 20 = .ok (.getfield 13, 3) := by decide +kernel
theorem dX10_goOn_23 : decode cX10_goOn 23 = .ok (.aload_n 0, 1) := by decide +kernel
theorem dX10_goOn_24 : decode cX10_goOn 24 = .ok (.getfield 99, 3) := by decide +kernel
theorem dX10_goOn_27 : decode cX10_goOn 27 = .ok (.iaload, 1) := by decide +kernel
theorem dX10_goOn_28 : decode cX10_goOn 28 = .ok (.bipush 32, 2) := by decide +kernel
theorem dX10_goOn_30 : decode cX10_goOn 30 = .ok (.if_icmp .ne 16, 3) := by decide +kernel
theorem dX10_goOn_33 : decode cX10_goOn 33 = .ok (.aload_n 0, 1) := by decide +kernel
theorem dX10_goOn_34 : decode cX10_goOn 34 = .ok (.dup, 1) := by decide +kernel
theorem dX10_goOn_35 : decode cX10_goOn 35 = .ok (.getfield 99, 3) := by decide +kernel
theorem dX10_goOn_38 : decode cX10_goOn 38 = .ok (.iconst 1, 1) := by decide +kernel
theorem dX10_goOn_39 : decode cX10_goOn 39 = .ok (.iadd, 1) := by decide +kernel
theorem dX10_goOn_40 : decode cX10_goOn 40 = .ok (.putfield 99, 3) := by decide +kernel
theorem dX10_goOn_43 : decode cX10_goOn 43 = .ok (.goto (-35), 3) := by decide +kernel
theorem dX10_goOn_46 : decode cX10_goOn 46 = .ok (.aload_n 0, 1) := by decide +kernel
theorem dX10_goOn_47 : decode cX10_goOn 47 = .ok (.aload_n 0, 1) := by decide +kernel
theorem dX10_goOn_48 : decode cX10_goOn 48 = .ok (.getfield 99, 3) := by decide +kernel
theorem dX10_goOn_51 : decode cX10_goOn 51 = .ok (.putfield 86, 3) := by decide +kernel
theorem dX10_goOn_54 : decode cX10_goOn 54 = .ok (.aload_n 0, 1) := by decide +kernel
theorem dX10_goOn_55 : decode cX10_goOn 55 = .ok (.getfield 99, 3) := by decide +kernel
theorem dX10_goOn_58 : decode cX10_goOn 58 = .ok (.aload_n 0, 1) := by decide +kernel
theorem dX10_goOn_59 : decode cX10_goOn 59 = .ok (.getfield 92, 3) := by decide +kernel
theorem dX10_goOn_62 : decode cX10_goOn 62 = .ok (.if_icmp .ne 11, 3) := by decide +kernel
theorem dX10_goOn_65 : decode cX10_goOn 65 = .ok (.aload_n 0, 1) := by decide +kernel
theorem dX10_goOn_66 : decode cX10_goOn 66 = .ok (.iconst 1, 1) := by decide +kernel
theorem dX10_goOn_67 : decode cX10_goOn 67 = .ok (.putfield 102, 3) := by decide +kernel
theorem dX10_goOn_70 : decode cX10_goOn 70 = .ok (.goto 264, 3) := by decide +kernel
theorem dX10_goOn_73 : decode cX10_goOn 73 = .ok (.aload_n 0, 1) := by decide +kernel
theorem dX10_goOn_74 : decode cX10_goOn 74 = .ok (.aload_n 0, 1) := by decide +kernel
theorem dX10_goOn_75 : decode cX10_goOn 75 = .ok (.getfield 99, 3) := by decide +kernel
theorem dX10_goOn_78 : decode cX10_goOn 78 = .ok (.invokevirtual 105, 3) := by decide +kernel
theorem dX10_goOn_81 : decode cX10_goOn 81 = .ok (.ifCond .eq 101, 3) := by decide +kernel
theorem dX10_goOn_84 : decode cX10_goOn 84 = .ok (.aload_n 0, 1) := by decide +kernel
theorem dX10_goOn_85 : decode cX10_goOn 85 = .ok (.lconst 0, 1) := by decide +kernel
theorem dX10_goOn_86 : decode cX10_goOn 86 = .ok (.putfield 109, 3) := by decide +kernel
theorem dX10_goOn_89 : decode cX10_goOn 89 = .ok (.aload_n 0, 1) := by decide +kernel
theorem dX10_goOn_90 : decode cX10_goOn 90 = .ok (.aload_n 0, 1) := by decide +kernel
theorem dX10_goOn_91 : decode cX10_goOn 91 = .ok (.getfield 99, 3) := by decide +kernel
theorem dX10_goOn_94 : decode cX10_goOn 94 = .ok (.invokevirtual 105, 3) := by decide +kernel
theorem dX10_goOn_97 : decode cX10_goOn 97 = .ok (.ifCond .eq 59, 3) := by decide +kernel
theorem dX10_goOn_100 : decode cX10_goOn 100 = .ok (.aload_n 0, 1) := by decide +kernel
theorem dX10_goOn_101 : decode cX10_goOn 101 = .ok (.getfield 99, 3) := by decide +kernel
theorem dX10_goOn_104 : decode cX10_goOn 104 = .ok (.aload_n 0, 1) := by decide +kernel
theorem dX10_goOn_105 : decode cX10_goOn 105 = .ok (.getfield 86, 3) := by decide +kernel
theorem dX10_goOn_108 : decode cX10_goOn 108 = .ok (.isub, 1) := by decide +kernel
theorem dX10_goOn_109 : decode cX10_goOn 109 = .ok (.bipush 6, 2) := by decide +kernel
theorem dX10_goOn_111 : decode cX10_goOn 111 = .ok (.if_icmp .ge 32, 3) := by decide +kernel
theorem dX10_goOn_114 : decode cX10_goOn 114 = .ok (.aload_n 0, 1) := by decide +kernel
theorem dX10_goOn_115 : decode cX10_goOn 115 = .ok (.aload_n 0, 1) := by decide +kernel
theorem dX10_goOn_116 : decode cX10_goOn 116 = .ok (.getfield 109, 3) := by decide +kernel
theorem dX10_goOn_119 : decode cX10_goOn 119 = .ok (.ldc2_w 113, 3) := by decide +kernel
theorem dX10_goOn_122 : decode cX10_goOn 122 = .ok (.lmul, 1) := by decide +kernel
theorem dX10_goOn_123 : decode cX10_goOn 123 = .ok (.aload_n 0, 1) := by decide +kernel
theorem dX10_goOn_124 : decode cX10_goOn 124 = .ok (.getfield 13, 3) := by decide +kernel
theorem dX10_goOn_127 : decode cX10_goOn 127 = .ok (.aload_n 0, 1) := by decide +kernel
theorem dX10_goOn_128 : decode cX10_goOn 128 = .ok (.getfield 99, 3) := by decide +kernel
theorem dX10_goOn_131 : decode cX10_goOn 131 = .ok (.iaload, 1) := by decide +kernel
theorem dX10_goOn_132 : decode cX10_goOn 132 = .ok (.i2l, 1) := by decide +kernel
theorem dX10_goOn_133 : decode cX10_goOn 133 = .ok (.ladd, 1) := by decide +kernel
theorem dX10_goOn_134 : decode cX10_goOn 134 = .ok (.ldc2_w 115, 3) := by decide +kernel
theorem dX10_goOn_137 : decode cX10_goOn 137 = .ok (.lsub, 1) := by decide +kernel
theorem dX10_goOn_138 : decode cX10_goOn 138 = .ok (.lconst 1, 1) := by decide +kernel
theorem dX10_goOn_139 : decode cX10_goOn 139 = .ok (.ladd, 1) := by decide +kernel
theorem dX10_goOn_140 : decode cX10_goOn 140 = .ok (.putfield 109, 3) := by decide +kernel
theorem dX10_goOn_143 : decode cX10_goOn 143 = .ok (.aload_n 0, 1) := by decide +kernel
theorem dX10_goOn_144 : decode cX10_goOn 144 = .ok (.dup, 1) := by decide +kernel
theorem dX10_goOn_145 : decode cX10_goOn 145 = .ok (.getfield 99, 3) := by decide +kernel
theorem dX10_goOn_148 : decode cX10_goOn 148 = .ok (.iconst 1, 1) := by decide +kernel
theorem dX10_goOn_149 : decode cX10_goOn 149 = .ok (.iadd, 1) := by decide +kernel
theorem dX10_goOn_150 : decode cX10_goOn 150 = .ok (.putfield 99, 3) := by decide +kernel
theorem dX10_goOn_153 : decode cX10_goOn 153 = .ok (.goto (-64), 3) := by decide +kernel
theorem dX10_goOn_156 : decode cX10_goOn 156 = .ok (.aload_n 0, 1) := by decide +kernel
theorem dX10_goOn_157 : decode cX10_goOn 157 = .ok (.aload_n 0, 1) := by decide +kernel
theorem dX10_goOn_158 : decode cX10_goOn 158 = .ok (.getfield 99, 3) := by decide +kernel
theorem dX10_goOn_161 : decode cX10_goOn 161 = .ok (.aload_n 0, 1) := by decide +kernel
theorem dX10_goOn_162 : decode cX10_goOn 162 = .ok (.getfield 86, 3) := by decide +kernel
theorem dX10_goOn_165 : decode cX10_goOn 165 = .ok (.isub, 1) := by decide +kernel
theorem dX10_goOn_166 : decode cX10_goOn 166 = .ok (.bipush 6, 2) := by decide +kernel
theorem dX10_goOn_168 : decode cX10_goOn 168 = .ok (.if_icmp .le 7, 3) := by decide +kernel
theorem dX10_goOn_171 : decode cX10_goOn 171 = .ok (.iconst 0, 1) := by decide +kernel
theorem dX10_goOn_172 : decode cX10_goOn 172 = .ok (.goto 4, 3) := by decide +kernel
theorem dX10_goOn_175 : decode cX10_goOn 175 = .ok (.iconst 2, 1) := by decide +kernel
theorem dX10_goOn_176 : decode cX10_goOn 176 = .ok (.putfield 102, 3) := by decide +kernel
theorem dX10_goOn_179 : decode cX10_goOn 179 = .ok (.goto 155, 3) := by decide +kernel
theorem dX10_goOn_182 : decode cX10_goOn 182 = .ok (.aload_n 0, 1) := by decide +kernel
theorem dX10_goOn_183 : decode cX10_goOn 183 = .ok (.aload_n 0, 1) := by decide +kernel
theorem dX10_goOn_184 : decode cX10_goOn 184 = .ok (.getfield 99, 3) := by decide +kernel
theorem dX10_goOn_187 : decode cX10_goOn 187 = .ok (.invokevirtual 117, 3) := by decide +kernel
theorem dX10_goOn_190 : decode cX10_goOn 190 = .ok (.ifCond .eq 94, 3) := by decide +kernel
theorem dX10_goOn_193 : decode cX10_goOn 193 = .ok (.aload_n 0, 1) := by decide +kernel
theorem dX10_goOn_194 : decode cX10_goOn 194 = .ok (.iconst 0, 1) := by decide +kernel
theorem dX10_goOn_195 : decode cX10_goOn 195 = .ok (.putfield 120, 3) := by decide +kernel
theorem dX10_goOn_198 : decode cX10_goOn 198 = .ok (.aload_n 0, 1) := by decide +kernel
theorem dX10_goOn_199 : decode cX10_goOn 199 = .ok (.aload_n 0, 1) := by decide +kernel
theorem dX10_goOn_200 : decode cX10_goOn 200 = .ok (.getfield 99, 3) := by decide +kernel
theorem dX10_goOn_203 : decode cX10_goOn 203 = .ok (.invokevirtual 117, 3) := by decide +kernel
theorem dX10_goOn_206 : decode cX10_goOn 206 = .ok (.ifCond .eq 53, 3) := by decide +kernel
theorem dX10_goOn_209 : decode cX10_goOn 209 = .ok (.aload_n 0, 1) := by decide +kernel
theorem dX10_goOn_210 : decode cX10_goOn 210 = .ok (.getfield 99, 3) := by decide +kernel
theorem dX10_goOn_213 : decode cX10_goOn 213 = .ok (.aload_n 0, 1) := by decide +kernel
theorem dX10_goOn_214 : decode cX10_goOn 214 = .ok (.getfield 86, 3) := by decide +kernel
theorem dX10_goOn_217 : decode cX10_goOn 217 = .ok (.isub, 1) := by decide +kernel
theorem dX10_goOn_218 : decode cX10_goOn 218 = .ok (.iconst 4, 1) := by decide +kernel
theorem dX10_goOn_219 : decode cX10_goOn 219 = .ok (.if_icmp .ge 27, 3) := by decide +kernel
theorem dX10_goOn_222 : decode cX10_goOn 222 = .ok (.aload_n 0, 1) := by decide +kernel
theorem dX10_goOn_223 : decode cX10_goOn 223 = .ok (.bipush 10, 2) := by decide +kernel
theorem dX10_goOn_225 : decode cX10_goOn 225 = .ok (.aload_n 0, 1) := by decide +kernel
theorem dX10_goOn_226 : decode cX10_goOn 226 = .ok (.getfield 120, 3) := by decide +kernel
theorem dX10_goOn_229 : decode cX10_goOn 229 = .ok (.imul, 1) := by decide +kernel
theorem dX10_goOn_230 : decode cX10_goOn 230 = .ok (.aload_n 0, 1) := by decide +kernel
theorem dX10_goOn_231 : decode cX10_goOn 231 = .ok (.getfield 13, 3) := by decide +kernel
theorem dX10_goOn_234 : decode cX10_goOn 234 = .ok (.aload_n 0, 1) := by decide +kernel
theorem dX10_goOn_235 : decode cX10_goOn 235 = .ok (.getfield 99, 3) := by decide +kernel
theorem dX10_goOn_238 : decode cX10_goOn 238 = .ok (.iaload, 1) := by decide +kernel
theorem dX10_goOn_239 : decode cX10_goOn 239 = .ok (.iadd, 1) := by decide +kernel
theorem dX10_goOn_240 : decode cX10_goOn 240 = .ok (.bipush 48, 2) := by decide +kernel
theorem dX10_goOn_242 : decode cX10_goOn 242 = .ok (.isub, 1) := by decide +kernel
theorem dX10_goOn_243 : decode cX10_goOn 243 = .ok (.putfield 120, 3) := by decide +kernel
theorem dX10_goOn_246 : decode cX10_goOn 246 = .ok (.aload_n 0, 1) := by decide +kernel
theorem dX10_goOn_247 : decode cX10_goOn 247 = .ok (.dup, 1) := by decide +kernel
theorem dX10_goOn_248 : decode cX10_goOn 248 = .ok (.getfield 99, 3) := by decide +kernel
theorem dX10_goOn_251 : decode cX10_goOn 251 = .ok (.iconst 1, 1) := by decide +kernel
theorem dX10_goOn_252 : decode cX10_goOn 252 = .ok (.iadd, 1) := by decide +kernel
theorem dX10_goOn_253 : decode cX10_goOn 253 = .ok (.putfield 99, 3) := by decide +kernel
theorem dX10_goOn_256 : decode cX10_goOn 256 = .ok (.goto (-58), 3) := by decide +kernel
theorem dX10_goOn_259 : decode cX10_goOn 259 = .ok (.aload_n 0, 1) := by decide +kernel
theorem dX10_goOn_260 : decode cX10_goOn 260 = .ok (.aload_n 0, 1) := by decide +kernel
theorem dX10_goOn_261 : decode cX10_goOn 261 = .ok (.getfield 99, 3) := by decide +kernel
theorem dX10_goOn_264 : decode cX10_goOn 264 = .ok (.aload_n 0, 1) := by decide +kernel
theorem dX10_goOn_265 : decode cX10_goOn 265 = .ok (.getfield 86, 3) := by decide +kernel
theorem dX10_goOn_268 : decode cX10_goOn 268 = .ok (.isub, 1) := by decide +kernel
theorem dX10_goOn_269 : decode cX10_goOn 269 = .ok (.iconst 4, 1) := by decide +kernel
theorem dX10_goOn_270 : decode cX10_goOn 270 = .ok (.if_icmp .le 7, 3) := by decide +kernel
theorem dX10_goOn_273 : decode cX10_goOn 273 = .ok (.iconst 0, 1) := by decide +kernel
theorem dX10_goOn_274 : decode cX10_goOn 274 = .ok (.goto 4, 3) := by decide +kernel
theorem dX10_goOn_277 : decode cX10_goOn 277 = .ok (.iconst 3, 1) := by decide +kernel
theorem dX10_goOn_278 : decode cX10_goOn 278 = .ok (.putfield 102, 3) := by decide +kernel
theorem dX10_goOn_281 : decode cX10_goOn 281 = .ok (.goto 53, 3) := by decide +kernel
theorem dX10_goOn_284 : decode cX10_goOn 284 = .ok (.aload_n 0, 1) := by decide +kernel
theorem dX10_goOn_285 : decode cX10_goOn 285 = .ok (.aload_n 0, 1) := by decide +kernel
theorem dX10_goOn_286 : decode cX10_goOn 286 = .ok (.getfield 13, 3) := by decide +kernel
theorem dX10_goOn_289 : decode cX10_goOn 289 = .ok (.aload_n 0, 1) := by decide +kernel
theorem dX10_goOn_290 : decode cX10_goOn 290 = .ok (.getfield 99, 3) := by decide +kernel
theorem dX10_goOn_293 : decode cX10_goOn 293 = .ok (.iaload, 1) := by decide +kernel
theorem dX10_goOn_294 : decode cX10_goOn 294 = .ok (.putfield 123, 3) := by decide +kernel
theorem dX10_goOn_297 : decode cX10_goOn 297 = .ok (.aload_n 0, 1) := by decide +kernel
theorem dX10_goOn_298 : decode cX10_goOn 298 = .ok (.aload_n 0, 1) := by decide +kernel
theorem dX10_goOn_299 : decode cX10_goOn 299 = .ok (.getfield 123, 3) := by decide +kernel
theorem dX10_goOn_302 : decode cX10_goOn 302 = .ok (.bipush 59, 2) := by decide +kernel
theorem dX10_goOn_304 : decode cX10_goOn 304 = .ok (.if_icmp .eq 12, 3) := by decide +kernel
theorem dX10_goOn_307 : decode cX10_goOn 307 = .ok (.aload_n 0, 1) := by decide +kernel
theorem dX10_goOn_308 : decode cX10_goOn 308 = .ok (.getfield 123, 3) := by decide +kernel
theorem dX10_goOn_311 : decode cX10_goOn 311 = .ok (.bipush 44, 2) := by decide +kernel
theorem dX10_goOn_313 : decode cX10_goOn 313 = .ok (.if_icmp .ne 7, 3) := by decide +kernel
theorem dX10_goOn_316 : decode cX10_goOn 316 = .ok (.iconst 4, 1) := by decide +kernel
theorem dX10_goOn_317 : decode cX10_goOn 317 = .ok (.goto 4, 3) := by decide +kernel
theorem dX10_goOn_320 : decode cX10_goOn 320 = .ok (.iconst 0, 1) := by decide +kernel
theorem dX10_goOn_321 : decode cX10_goOn 321 = .ok (.putfield 102, 3) := by decide +kernel
theorem dX10_goOn_324 : decode cX10_goOn 324 = .ok (.aload_n 0, 1) := by decide +kernel
theorem dX10_goOn_325 : decode cX10_goOn 325 = .ok (.dup, 1) := by decide +kernel
theorem dX10_goOn_326 : decode cX10_goOn 326 = .ok (.getfield 99, 3) := by decide +kernel
theorem dX10_goOn_329 : decode cX10_goOn 329 = .ok (.iconst 1, 1) := by decide +kernel
theorem dX10_goOn_330 : decode cX10_goOn 330 = .ok (.iadd, 1) := by decide +kernel
theorem dX10_goOn_331 : decode cX10_goOn 331 = .ok (.putfield 99, 3) := by decide +kernel
theorem dX10_goOn_334 : decode cX10_goOn 334 = .ok (.return_, 1) := by decide +kernel
theorem dX10_wordOf_0 : decode cX10_wordOf 0 = .ok (.lconst 0, 1) := by decide +kernel
theorem dX10_wordOf_1 : decode cX10_wordOf 1 = .ok (.lstore_n 1, 1) := by decide +kernel
theorem dX10_wordOf_2 : decode cX10_wordOf 2 = .ok (.iconst 0, 1) := by decide +kernel
theorem dX10_wordOf_3 : decode cX10_wordOf 3 = .ok (.istore_n 3, 1) := by decide +kernel
theorem dX10_wordOf_4 : decode cX10_wordOf 4 = .ok (.iload_n 3, 1) := by decide +kernel
theorem dX10_wordOf_5 : decode cX10_wordOf 5 = .ok (.aload_n 0, 1) := by decide +kernel
theorem dX10_wordOf_6 : decode cX10_wordOf 6 = .ok (.invokevirtual 126, 3) := by decide +kernel
theorem dX10_wordOf_9 : decode cX10_wordOf 9 = .ok (.if_icmp .ge 28, 3) := by decide +kernel
theorem dX10_wordOf_12 : decode cX10_wordOf 12 = .ok (.lload_n 1, 1) := by decide +kernel
theorem dX10_wordOf_13 : decode cX10_wordOf 13 = .ok (.ldc2_w 113, 3) := by decide +kernel
theorem dX10_wordOf_16 : decode cX10_wordOf 16 = .ok (.lmul, 1) := by decide +kernel
theorem dX10_wordOf_17 : decode cX10_wordOf 17 = .ok (.aload_n 0, 1) := by decide +kernel
theorem dX10_wordOf_18 : decode cX10_wordOf 18 = .ok (.iload_n 3, 1) := by decide +kernel
theorem dX10_wordOf_19 : decode cX10_wordOf 19 = .ok (.invokevirtual 132, 3) := by decide +kernel
theorem dX10_wordOf_22 : decode cX10_wordOf 22 = .ok (.i2l, 1) := by decide +kernel
theorem dX10_wordOf_23 : decode cX10_wordOf 23 = .ok (.ladd, 1) := by decide +kernel
theorem dX10_wordOf_24 : decode cX10_wordOf 24 = .ok (.ldc2_w 115, 3) := by decide +kernel
theorem dX10_wordOf_27 : decode cX10_wordOf 27 = .ok (.lsub, 1) := by decide +kernel
theorem dX10_wordOf_28 : decode cX10_wordOf 28 = .ok (.lconst 1, 1) := by decide +kernel
theorem dX10_wordOf_29 : decode cX10_wordOf 29 = .ok (.ladd, 1) := by decide +kernel
theorem dX10_wordOf_30 : decode cX10_wordOf 30 = .ok (.lstore_n 1, 1) := by decide +kernel
theorem dX10_wordOf_31 : decode cX10_wordOf 31 = .ok (.iinc 3 1, 3) := by decide +kernel
theorem dX10_wordOf_34 : decode cX10_wordOf 34 = .ok (.goto (-30), 3) := by decide +kernel
theorem dX10_wordOf_37 : decode cX10_wordOf 37 = .ok (.lload_n 1, 1) := by decide +kernel
theorem dX10_wordOf_38 : decode cX10_wordOf 38 = .ok (.lreturn, 1) := by decide +kernel
theorem dX10_isWord_0 : decode cX10_isWord 0 = .ok (.aload_n 0, 1) := by decide +kernel
theorem dX10_isWord_1 : decode cX10_isWord 1 = .ok (.getfield 83, 3) := by decide +kernel
theorem dX10_isWord_4 : decode cX10_isWord 4 = .ok (.ifCond .ne 27, 3) := by decide +kernel
theorem dX10_isWord_7 : decode cX10_isWord 7 = .ok (.aload_n 0, 1) := by decide +kernel
theorem dX10_isWord_8 : decode cX10_isWord 8 = .ok (.getfield 102, 3) := by decide +kernel
theorem dX10_isWord_11 : decode cX10_isWord 11 = .ok (.iconst 2, 1) := by decide +kernel
theorem dX10_isWord_12 : decode cX10_isWord 12 = .ok (.if_icmp .ne 19, 3) := by decide +kernel
theorem dX10_isWord_15 : decode cX10_isWord 15 = .ok (.aload_n 0, 1) := by decide +kernel
theorem dX10_isWord_16 : decode cX10_isWord 16 = .ok (.getfield 109, 3) := by decide +kernel
theorem dX10_isWord_19 : decode cX10_isWord 19 = .ok (.aload_n 1, 1) := by decide +kernel
theorem dX10_isWord_20 : decode cX10_isWord 20 = .ok (.invokestatic 136, 3) := by decide +kernel
theorem dX10_isWord_23 : decode cX10_isWord 23 = .ok (.lcmp, 1) := by decide +kernel
theorem dX10_isWord_24 : decode cX10_isWord 24 = .ok (.ifCond .ne 7, 3) := by decide +kernel
theorem dX10_isWord_27 : decode cX10_isWord 27 = .ok (.iconst 1, 1) := by decide +kernel
theorem dX10_isWord_28 : decode cX10_isWord 28 = .ok (.goto 4, 3) := by decide +kernel
theorem dX10_isWord_31 : decode cX10_isWord 31 = .ok (.iconst 0, 1) := by decide +kernel
theorem dX10_isWord_32 : decode cX10_isWord 32 = .ok (.ireturn, 1) := by decide +kernel
theorem dX10_isSign_0 : decode cX10_isSign 0 = .ok (.aload_n 0, 1) := by decide +kernel
theorem dX10_isSign_1 : decode cX10_isSign 1 = .ok (.getfield 83, 3) := by decide +kernel
theorem dX10_isSign_4 : decode cX10_isSign 4 = .ok (.ifCond .ne 23, 3) := by decide +kernel
theorem dX10_isSign_7 : decode cX10_isSign 7 = .ok (.aload_n 0, 1) := by decide +kernel
theorem dX10_isSign_8 : decode cX10_isSign 8 = .ok (.getfield 102, 3) := by decide +kernel
theorem dX10_isSign_11 : decode cX10_isSign 11 = .ok (.iconst 4, 1) := by decide +kernel
theorem dX10_isSign_12 : decode cX10_isSign 12 = .ok (.if_icmp .ne 15, 3) := by decide +kernel
theorem dX10_isSign_15 : decode cX10_isSign 15 = .ok (.aload_n 0, 1) := by decide +kernel
theorem dX10_isSign_16 : decode cX10_isSign 16 = .ok (.getfield 123, 3) := by decide +kernel
theorem dX10_isSign_19 : decode cX10_isSign 19 = .ok (.iload_n 1, 1) := by decide +kernel
theorem dX10_isSign_20 : decode cX10_isSign 20 = .ok (.if_icmp .ne 7, 3) := by decide +kernel
theorem dX10_isSign_23 : decode cX10_isSign 23 = .ok (.iconst 1, 1) := by decide +kernel
theorem dX10_isSign_24 : decode cX10_isSign 24 = .ok (.goto 4, 3) := by decide +kernel
theorem dX10_isSign_27 : decode cX10_isSign 27 = .ok (.iconst 0, 1) := by decide +kernel
theorem dX10_isSign_28 : decode cX10_isSign 28 = .ok (.ireturn, 1) := by decide +kernel
theorem dX10_passes_0 : decode cX10_passes 0 = .ok (.aload_n 0, 1) := by decide +kernel
theorem dX10_passes_1 : decode cX10_passes 1 = .ok (.aload_n 1, 1) := by decide +kernel
theorem dX10_passes_2 : decode cX10_passes 2 = .ok (.invokevirtual 140, 3) := by decide +kernel
theorem dX10_passes_5 : decode cX10_passes 5 = .ok (.ifCond .ne 5, 3) := by decide +kernel
theorem dX10_passes_8 : decode cX10_passes 8 = .ok (.iconst 0, 1) := by decide +kernel
theorem dX10_passes_9 : decode cX10_passes 9 = .ok (.ireturn, 1) := by decide +kernel
theorem dX10_passes_10 : decode cX10_passes 10 = .ok (.aload_n 0, 1) := by decide +kernel
theorem dX10_passes_11 : decode cX10_passes 11 = .ok (.invokevirtual 144, 3) := by decide +kernel
theorem dX10_passes_14 : decode cX10_passes 14 = .ok (.iconst 1, 1) := by decide +kernel
theorem dX10_passes_15 : decode cX10_passes 15 = .ok (.ireturn, 1) := by decide +kernel
theorem dX10_needs_0 : decode cX10_needs 0 = .ok (.aload_n 0, 1) := by decide +kernel
theorem dX10_needs_1 : decode cX10_needs 1 = .ok (.aload_n 1, 1) := by decide +kernel
theorem dX10_needs_2 : decode cX10_needs 2 = .ok (.invokevirtual 140, 3) := by decide +kernel
theorem dX10_needs_5 : decode cX10_needs 5 = .ok (.ifCond .ne 8, 3) := by decide +kernel
theorem dX10_needs_8 : decode cX10_needs 8 = .ok (.aload_n 0, 1) := by decide +kernel
theorem dX10_needs_9 : decode cX10_needs 9 = .ok (.iconst 1, 1) := by decide +kernel
theorem dX10_needs_10 : decode cX10_needs 10 = .ok (.invokevirtual 147, 3) := by decide +kernel
theorem dX10_needs_13 : decode cX10_needs 13 = .ok (.aload_n 0, 1) := by decide +kernel
theorem dX10_needs_14 : decode cX10_needs 14 = .ok (.invokevirtual 144, 3) := by decide +kernel
theorem dX10_needs_17 : decode cX10_needs 17 = .ok (.return_, 1) := by decide +kernel
theorem dX10_isOwn_0 : decode cX10_isOwn 0 = .ok (.aload_n 0, 1) := by decide +kernel
theorem dX10_isOwn_1 : decode cX10_isOwn 1 = .ok (.ldc 151, 2) := by decide +kernel
theorem dX10_isOwn_3 : decode cX10_isOwn 3 = .ok (.invokevirtual 140, 3) := by decide +kernel
theorem dX10_isOwn_6 : decode cX10_isOwn 6 = .ok (.ifCond .ne 48, 3) := by decide +kernel
theorem dX10_isOwn_9 : decode cX10_isOwn 9 = .ok (.aload_n 0, 1) := by decide +kernel
theorem dX10_isOwn_10 : decode cX10_isOwn 10 = .ok (.ldc 153, 2) := by decide +kernel
theorem dX10_isOwn_12 : decode cX10_isOwn 12 = .ok (.invokevirtual 140, 3) := by decide +kernel
theorem dX10_isOwn_15 : decode cX10_isOwn 15 = .ok (.ifCond .ne 39, 3) := by decide +kernel
theorem dX10_isOwn_18 : decode cX10_isOwn 18 = .ok (.aload_n 0, 1) := by decide +kernel
theorem dX10_isOwn_19 : decode cX10_isOwn 19 = .ok (.ldc 155, 2) := by decide +kernel
theorem dX10_isOwn_21 : decode cX10_isOwn 21 = .ok (.invokevirtual 140, 3) := by decide +kernel
theorem dX10_isOwn_24 : decode cX10_isOwn 24 = .ok (.ifCond .ne 30, 3) := by decide +kernel
theorem dX10_isOwn_27 : decode cX10_isOwn 27 = .ok (.aload_n 0, 1) := by decide +kernel
theorem dX10_isOwn_28 : decode cX10_isOwn 28 = .ok (.ldc 156, 2) := by decide +kernel
theorem dX10_isOwn_30 : decode cX10_isOwn 30 = .ok (.invokevirtual 140, 3) := by decide +kernel
theorem dX10_isOwn_33 : decode cX10_isOwn 33 = .ok (.ifCond .ne 21, 3) := by decide +kernel
theorem dX10_isOwn_36 : decode cX10_isOwn 36 = .ok (.aload_n 0, 1) := by decide +kernel
theorem dX10_isOwn_37 : decode cX10_isOwn 37 = .ok (.ldc 157, 2) := by decide +kernel
theorem dX10_isOwn_39 : decode cX10_isOwn 39 = .ok (.invokevirtual 140, 3) := by decide +kernel
theorem dX10_isOwn_42 : decode cX10_isOwn 42 = .ok (.ifCond .ne 12, 3) := by decide +kernel
theorem dX10_isOwn_45 : decode cX10_isOwn 45 = .ok (.aload_n 0, 1) := by decide +kernel
theorem dX10_isOwn_46 : decode cX10_isOwn 46 = .ok (.ldc 158, 2) := by decide +kernel
theorem dX10_isOwn_48 : decode cX10_isOwn 48 = .ok (.invokevirtual 140, 3) := by decide +kernel
theorem dX10_isOwn_51 : decode cX10_isOwn 51 = .ok (.ifCond .eq 7, 3) := by decide +kernel
theorem dX10_isOwn_54 : decode cX10_isOwn 54 = .ok (.iconst 1, 1) := by decide +kernel
theorem dX10_isOwn_55 : decode cX10_isOwn 55 = .ok (.goto 4, 3) := by decide +kernel
theorem dX10_isOwn_58 : decode cX10_isOwn 58 = .ok (.iconst 0, 1) := by decide +kernel
theorem dX10_isOwn_59 : decode cX10_isOwn 59 = .ok (.istore_n 1, 1) := by decide +kernel
theorem dX10_isOwn_60 : decode cX10_isOwn 60 = .ok (.iload_n 1, 1) := by decide +kernel
theorem dX10_isOwn_61 : decode cX10_isOwn 61 = .ok (.ifCond .ne 57, 3) := by decide +kernel
theorem dX10_isOwn_64 : decode cX10_isOwn 64 = .ok (.aload_n 0, 1) := by decide +kernel
theorem dX10_isOwn_65 : decode cX10_isOwn 65 = .ok (.ldc 160, 2) := by decide +kernel
theorem dX10_isOwn_67 : decode cX10_isOwn 67 = .ok (.invokevirtual 140, 3) := by decide +kernel
theorem dX10_isOwn_70 : decode cX10_isOwn 70 = .ok (.ifCond .ne 48, 3) := by decide +kernel
theorem dX10_isOwn_73 : decode cX10_isOwn 73 = .ok (.aload_n 0, 1) := by decide +kernel
theorem dX10_isOwn_74 : decode cX10_isOwn 74 = .ok (.ldc 162, 2) := by decide +kernel
theorem dX10_isOwn_76 : decode cX10_isOwn 76 = .ok (.invokevirtual 140, 3) := by decide +kernel
theorem dX10_isOwn_79 : decode cX10_isOwn 79 = .ok (.ifCond .ne 39, 3) := by decide +kernel
theorem dX10_isOwn_82 : decode cX10_isOwn 82 = .ok (.aload_n 0, 1) := by decide +kernel
theorem dX10_isOwn_83 : decode cX10_isOwn 83 = .ok (.ldc 164, 2) := by decide +kernel
theorem dX10_isOwn_85 : decode cX10_isOwn 85 = .ok (.invokevirtual 140, 3) := by decide +kernel
theorem dX10_isOwn_88 : decode cX10_isOwn 88 = .ok (.ifCond .ne 30, 3) := by decide +kernel
theorem dX10_isOwn_91 : decode cX10_isOwn 91 = .ok (.aload_n 0, 1) := by decide +kernel
theorem dX10_isOwn_92 : decode cX10_isOwn 92 = .ok (.ldc 166, 2) := by decide +kernel
theorem dX10_isOwn_94 : decode cX10_isOwn 94 = .ok (.invokevirtual 140, 3) := by decide +kernel
theorem dX10_isOwn_97 : decode cX10_isOwn 97 = .ok (.ifCond .ne 21, 3) := by decide +kernel
theorem dX10_isOwn_100 : decode cX10_isOwn 100 = .ok (.aload_n 0, 1) := by decide +kernel
theorem dX10_isOwn_101 : decode cX10_isOwn 101 = .ok (.ldc 168, 2) := by decide +kernel
theorem dX10_isOwn_103 : decode cX10_isOwn 103 = .ok (.invokevirtual 140, 3) := by decide +kernel
theorem dX10_isOwn_106 : decode cX10_isOwn 106 = .ok (.ifCond .ne 12, 3) := by decide +kernel
theorem dX10_isOwn_109 : decode cX10_isOwn 109 = .ok (.aload_n 0, 1) := by decide +kernel
theorem dX10_isOwn_110 : decode cX10_isOwn 110 = .ok (.ldc 170, 2) := by decide +kernel
theorem dX10_isOwn_112 : decode cX10_isOwn 112 = .ok (.invokevirtual 140, 3) := by decide +kernel
theorem dX10_isOwn_115 : decode cX10_isOwn 115 = .ok (.ifCond .eq 7, 3) := by decide +kernel
theorem dX10_isOwn_118 : decode cX10_isOwn 118 = .ok (.iconst 1, 1) := by decide +kernel
theorem dX10_isOwn_119 : decode cX10_isOwn 119 = .ok (.goto 4, 3) := by decide +kernel
theorem dX10_isOwn_122 : decode cX10_isOwn 122 = .ok (.iconst 0, 1) := by decide +kernel
theorem dX10_isOwn_123 : decode cX10_isOwn 123 = .ok (.ireturn, 1) := by decide +kernel
theorem dX10_readWhole_0 : decode cX10_readWhole 0 = .ok (.aload_n 0, 1) := by decide +kernel
theorem dX10_readWhole_1 : decode cX10_readWhole 1 = .ok (.getfield 102, 3) := by decide +kernel
theorem dX10_readWhole_4 : decode cX10_readWhole 4 = .ok (.iconst 3, 1) := by decide +kernel
theorem dX10_readWhole_5 : decode cX10_readWhole 5 = .ok (.if_icmp .eq 11, 3) := by decide +kernel
theorem dX10_readWhole_8 : decode cX10_readWhole 8 = .ok (.aload_n 0, 1) := by decide +kernel
theorem dX10_readWhole_9 : decode cX10_readWhole 9 = .ok (.iconst 1, 1) := by decide +kernel
theorem dX10_readWhole_10 : decode cX10_readWhole 10 = .ok (.invokevirtual 147, 3) := by decide +kernel
theorem dX10_readWhole_13 : decode cX10_readWhole 13 = .ok (.goto 20, 3) := by decide +kernel
theorem dX10_readWhole_16 : decode cX10_readWhole 16 = .ok (.aload_n 0, 1) := by decide +kernel
theorem dX10_readWhole_17 : decode cX10_readWhole 17 = .ok (.getfield 120, 3) := by decide +kernel
theorem dX10_readWhole_20 : decode cX10_readWhole 20 = .ok (.iload_n 1, 1) := by decide +kernel
theorem dX10_readWhole_21 : decode cX10_readWhole 21 = .ok (.iload_n 2, 1) := by decide +kernel
theorem dX10_readWhole_22 : decode cX10_readWhole 22 = .ok (.invokestatic 95, 3) := by decide +kernel
theorem dX10_readWhole_25 : decode cX10_readWhole 25 = .ok (.ifCond .ne 8, 3) := by decide +kernel
theorem dX10_readWhole_28 : decode cX10_readWhole 28 = .ok (.aload_n 0, 1) := by decide +kernel
theorem dX10_readWhole_29 : decode cX10_readWhole 29 = .ok (.iconst 2, 1) := by decide +kernel
theorem dX10_readWhole_30 : decode cX10_readWhole 30 = .ok (.invokevirtual 147, 3) := by decide +kernel
theorem dX10_readWhole_33 : decode cX10_readWhole 33 = .ok (.aload_n 0, 1) := by decide +kernel
theorem dX10_readWhole_34 : decode cX10_readWhole 34 = .ok (.getfield 120, 3) := by decide +kernel
theorem dX10_readWhole_37 : decode cX10_readWhole 37 = .ok (.istore_n 3, 1) := by decide +kernel
theorem dX10_readWhole_38 : decode cX10_readWhole 38 = .ok (.aload_n 0, 1) := by decide +kernel
theorem dX10_readWhole_39 : decode cX10_readWhole 39 = .ok (.invokevirtual 144, 3) := by decide +kernel
theorem dX10_readWhole_42 : decode cX10_readWhole 42 = .ok (.iload_n 3, 1) := by decide +kernel
theorem dX10_readWhole_43 : decode cX10_readWhole 43 = .ok (.ireturn, 1) := by decide +kernel
theorem dX10_fault_0 : decode cX10_fault 0 = .ok (.aload_n 0, 1) := by decide +kernel
theorem dX10_fault_1 : decode cX10_fault 1 = .ok (.iconst 0, 1) := by decide +kernel
theorem dX10_fault_2 : decode cX10_fault 2 = .ok (.putfield 74, 3) := by decide +kernel
theorem dX10_fault_5 : decode cX10_fault 5 = .ok (.aload_n 0, 1) := by decide +kernel
theorem dX10_fault_6 : decode cX10_fault 6 = .ok (.getfield 83, 3) := by decide +kernel
theorem dX10_fault_9 : decode cX10_fault 9 = .ok (.ireturn, 1) := by decide +kernel
theorem dX10_where_0 : decode cX10_where 0 = .ok (.aload_n 0, 1) := by decide +kernel
theorem dX10_where_1 : decode cX10_where 1 = .ok (.iconst 0, 1) := by decide +kernel
theorem dX10_where_2 : decode cX10_where 2 = .ok (.putfield 74, 3) := by decide +kernel
theorem dX10_where_5 : decode cX10_where 5 = .ok (.aload_n 0, 1) := by decide +kernel
theorem dX10_where_6 : decode cX10_where 6 = .ok (.getfield 9, 3) := by decide +kernel
theorem dX10_where_9 : decode cX10_where 9 = .ok (.ireturn, 1) := by decide +kernel
theorem dX10_kindOf_0 : decode cX10_kindOf 0 = .ok (.iconst 0, 1) := by decide +kernel
theorem dX10_kindOf_1 : decode cX10_kindOf 1 = .ok (.istore_n 1, 1) := by decide +kernel
theorem dX10_kindOf_2 : decode cX10_kindOf 2 = .ok (.iload_n 1, 1) := by decide +kernel
theorem dX10_kindOf_3 : decode cX10_kindOf 3 = .ok (.aload_n 0, 1) := by decide +kernel
theorem dX10_kindOf_4 : decode cX10_kindOf 4 = .ok (.getfield 172, 3) := by decide +kernel
theorem dX10_kindOf_7 : decode cX10_kindOf 7 = .ok (.if_icmp .ge 27, 3) := by decide +kernel
theorem dX10_kindOf_10 : decode cX10_kindOf 10 = .ok (.aload_n 0, 1) := by decide +kernel
theorem dX10_kindOf_11 : decode cX10_kindOf 11 = .ok (.getfield 17, 3) := by decide +kernel
theorem dX10_kindOf_14 : decode cX10_kindOf 14 = .ok (.iconst 3, 1) := by decide +kernel
theorem dX10_kindOf_15 : decode cX10_kindOf 15 = .ok (.iload_n 1, 1) := by decide +kernel
theorem dX10_kindOf_16 : decode cX10_kindOf 16 = .ok (.iadd, 1) := by decide +kernel
theorem dX10_kindOf_17 : decode cX10_kindOf 17 = .ok (.laload, 1) := by decide +kernel
theorem dX10_kindOf_18 : decode cX10_kindOf 18 = .ok (.aload_n 0, 1) := by decide +kernel
theorem dX10_kindOf_19 : decode cX10_kindOf 19 = .ok (.getfield 109, 3) := by decide +kernel
theorem dX10_kindOf_22 : decode cX10_kindOf 22 = .ok (.lcmp, 1) := by decide +kernel
theorem dX10_kindOf_23 : decode cX10_kindOf 23 = .ok (.ifCond .ne 5, 3) := by decide +kernel
theorem dX10_kindOf_26 : decode cX10_kindOf 26 = .ok (.iload_n 1, 1) := by decide +kernel
theorem dX10_kindOf_27 : decode cX10_kindOf 27 = .ok (.ireturn, 1) := by decide +kernel
theorem dX10_kindOf_28 : decode cX10_kindOf 28 = .ok (.iinc 1 1, 3) := by decide +kernel
theorem dX10_kindOf_31 : decode cX10_kindOf 31 = .ok (.goto (-29), 3) := by decide +kernel
theorem dX10_kindOf_34 : decode cX10_kindOf 34 = .ok (.iconst (-1), 1) := by decide +kernel
theorem dX10_kindOf_35 : decode cX10_kindOf 35 = .ok (.ireturn, 1) := by decide +kernel
theorem dX10_benchOf_0 : decode cX10_benchOf 0 = .ok (.iconst 0, 1) := by decide +kernel
theorem dX10_benchOf_1 : decode cX10_benchOf 1 = .ok (.istore_n 1, 1) := by decide +kernel
theorem dX10_benchOf_2 : decode cX10_benchOf 2 = .ok (.iload_n 1, 1) := by decide +kernel
theorem dX10_benchOf_3 : decode cX10_benchOf 3 = .ok (.aload_n 0, 1) := by decide +kernel
theorem dX10_benchOf_4 : decode cX10_benchOf 4 = .ok (.getfield 175, 3) := by decide +kernel
theorem dX10_benchOf_7 : decode cX10_benchOf 7 = .ok (.if_icmp .ge 28, 3) := by decide +kernel
theorem dX10_benchOf_10 : decode cX10_benchOf 10 = .ok (.aload_n 0, 1) := by decide +kernel
theorem dX10_benchOf_11 : decode cX10_benchOf 11 = .ok (.getfield 21, 3) := by decide +kernel
theorem dX10_benchOf_14 : decode cX10_benchOf 14 = .ok (.bipush 6, 2) := by decide +kernel
theorem dX10_benchOf_16 : decode cX10_benchOf 16 = .ok (.iload_n 1, 1) := by decide +kernel
theorem dX10_benchOf_17 : decode cX10_benchOf 17 = .ok (.iadd, 1) := by decide +kernel
theorem dX10_benchOf_18 : decode cX10_benchOf 18 = .ok (.laload, 1) := by decide +kernel
theorem dX10_benchOf_19 : decode cX10_benchOf 19 = .ok (.aload_n 0, 1) := by decide +kernel
theorem dX10_benchOf_20 : decode cX10_benchOf 20 = .ok (.getfield 109, 3) := by decide +kernel
theorem dX10_benchOf_23 : decode cX10_benchOf 23 = .ok (.lcmp, 1) := by decide +kernel
theorem dX10_benchOf_24 : decode cX10_benchOf 24 = .ok (.ifCond .ne 5, 3) := by decide +kernel
theorem dX10_benchOf_27 : decode cX10_benchOf 27 = .ok (.iload_n 1, 1) := by decide +kernel
theorem dX10_benchOf_28 : decode cX10_benchOf 28 = .ok (.ireturn, 1) := by decide +kernel
theorem dX10_benchOf_29 : decode cX10_benchOf 29 = .ok (.iinc 1 1, 3) := by decide +kernel
theorem dX10_benchOf_32 : decode cX10_benchOf 32 = .ok (.goto (-30), 3) := by decide +kernel
theorem dX10_benchOf_35 : decode cX10_benchOf 35 = .ok (.iconst (-1), 1) := by decide +kernel
theorem dX10_benchOf_36 : decode cX10_benchOf 36 = .ok (.ireturn, 1) := by decide +kernel
theorem dX10_readNew_0 : decode cX10_readNew 0 = .ok (.aload_n 0, 1) := by decide +kernel
theorem dX10_readNew_1 : decode cX10_readNew 1 = .ok (.getfield 83, 3) := by decide +kernel
theorem dX10_readNew_4 : decode cX10_readNew 4 = .ok (.ifCond .ne 23, 3) := by decide +kernel
theorem dX10_readNew_7 : decode cX10_readNew 7 = .ok (.aload_n 0, 1) := by decide +kernel
theorem dX10_readNew_8 : decode cX10_readNew 8 = .ok (.getfield 102, 3) := by decide +kernel
theorem dX10_readNew_11 : decode cX10_readNew 11 = .ok (.iconst 2, 1) := by decide +kernel
theorem dX10_readNew_12 : decode cX10_readNew 12 = .ok (.if_icmp .ne 10, 3) := by decide +kernel
theorem dX10_readNew_15 : decode cX10_readNew 15 = .ok (.aload_n 0, 1) := by decide +kernel
theorem dX10_readNew_16 : decode cX10_readNew 16 = .ok (.invokevirtual 178, 3) := by decide +kernel
theorem dX10_readNew_19 : decode cX10_readNew 19 = .ok (.ifCond .eq 8, 3) := by decide +kernel
theorem dX10_readNew_22 : decode cX10_readNew 22 = .ok (.aload_n 0, 1) := by decide +kernel
theorem dX10_readNew_23 : decode cX10_readNew 23 = .ok (.iconst 1, 1) := by decide +kernel
theorem dX10_readNew_24 : decode cX10_readNew 24 = .ok (.invokevirtual 147, 3) := by decide +kernel
theorem dX10_readNew_27 : decode cX10_readNew 27 = .ok (.aload_n 0, 1) := by decide +kernel
theorem dX10_readNew_28 : decode cX10_readNew 28 = .ok (.getfield 83, 3) := by decide +kernel
theorem dX10_readNew_31 : decode cX10_readNew 31 = .ok (.ifCond .ne 24, 3) := by decide +kernel
theorem dX10_readNew_34 : decode cX10_readNew 34 = .ok (.aload_n 0, 1) := by decide +kernel
theorem dX10_readNew_35 : decode cX10_readNew 35 = .ok (.invokevirtual 182, 3) := by decide +kernel
theorem dX10_readNew_38 : decode cX10_readNew 38 = .ok (.iconst (-1), 1) := by decide +kernel
theorem dX10_readNew_39 : decode cX10_readNew 39 = .ok (.if_icmp .ne 11, 3) := by decide +kernel
theorem dX10_readNew_42 : decode cX10_readNew 42 = .ok (.aload_n 0, 1) := by decide +kernel
theorem dX10_readNew_43 : decode cX10_readNew 43 = .ok (.invokevirtual 185, 3) := by decide +kernel
theorem dX10_readNew_46 : decode cX10_readNew 46 = .ok (.iconst (-1), 1) := by decide +kernel
theorem dX10_readNew_47 : decode cX10_readNew 47 = .ok (.if_icmp .eq 8, 3) := by decide +kernel
theorem dX10_readNew_50 : decode cX10_readNew 50 = .ok (.aload_n 0, 1) := by decide +kernel
theorem dX10_readNew_51 : decode cX10_readNew 51 = .ok (.iconst 3, 1) := by decide +kernel
theorem dX10_readNew_52 : decode cX10_readNew 52 = .ok (.invokevirtual 147, 3) := by decide +kernel
theorem dX10_readNew_55 : decode cX10_readNew 55 = .ok (.aload_n 0, 1) := by decide +kernel
theorem dX10_readNew_56 : decode cX10_readNew 56 = .ok (.getfield 109, 3) := by decide +kernel
theorem dX10_readNew_59 : decode cX10_readNew 59 = .ok (.lstore_n 1, 1) := by decide +kernel
theorem dX10_readNew_60 : decode cX10_readNew 60 = .ok (.aload_n 0, 1) := by decide +kernel
theorem dX10_readNew_61 : decode cX10_readNew 61 = .ok (.invokevirtual 144, 3) := by decide +kernel
theorem dX10_readNew_64 : decode cX10_readNew 64 = .ok (.lload_n 1, 1) := by decide +kernel
theorem dX10_readNew_65 : decode cX10_readNew 65 = .ok (.lreturn, 1) := by decide +kernel
theorem dX10_readTold_0 : decode cX10_readTold 0 = .ok (.aload_n 0, 1) := by decide +kernel
theorem dX10_readTold_1 : decode cX10_readTold 1 = .ok (.getfield 83, 3) := by decide +kernel
theorem dX10_readTold_4 : decode cX10_readTold 4 = .ok (.ifCond .ne 23, 3) := by decide +kernel
theorem dX10_readTold_7 : decode cX10_readTold 7 = .ok (.aload_n 0, 1) := by decide +kernel
theorem dX10_readTold_8 : decode cX10_readTold 8 = .ok (.getfield 102, 3) := by decide +kernel
theorem dX10_readTold_11 : decode cX10_readTold 11 = .ok (.iconst 2, 1) := by decide +kernel
theorem dX10_readTold_12 : decode cX10_readTold 12 = .ok (.if_icmp .ne 10, 3) := by decide +kernel
theorem dX10_readTold_15 : decode cX10_readTold 15 = .ok (.aload_n 0, 1) := by decide +kernel
theorem dX10_readTold_16 : decode cX10_readTold 16 = .ok (.invokevirtual 178, 3) := by decide +kernel
theorem dX10_readTold_19 : decode cX10_readTold 19 = .ok (.ifCond .eq 8, 3) := by decide +kernel
theorem dX10_readTold_22 : decode cX10_readTold 22 = .ok (.aload_n 0, 1) := by decide +kernel
theorem dX10_readTold_23 : decode cX10_readTold 23 = .ok (.iconst 1, 1) := by decide +kernel
theorem dX10_readTold_24 : decode cX10_readTold 24 = .ok (.invokevirtual 147, 3) := by decide +kernel
theorem dX10_readTold_27 : decode cX10_readTold 27 = .ok (.iload_n 1, 1) := by decide +kernel
theorem dX10_readTold_28 : decode cX10_readTold 28 = .ok (.ifCond .eq 10, 3) := by decide +kernel
theorem dX10_readTold_31 : decode cX10_readTold 31 = .ok (.aload_n 0, 1) := by decide +kernel
theorem dX10_readTold_32 : decode cX10_readTold 32 = .ok (.invokevirtual 182, 3) := by decide +kernel
theorem dX10_readTold_35 : decode cX10_readTold 35 = .ok (.goto 7, 3) := by decide +kernel
theorem dX10_readTold_38 : decode cX10_readTold 38 = .ok (.aload_n 0, 1) := by decide +kernel
theorem dX10_readTold_39 : decode cX10_readTold 39 = .ok (.invokevirtual 185, 3) := by decide +kernel
theorem dX10_readTold_42 : decode cX10_readTold 42 = .ok (.istore_n 2, 1) := by decide +kernel
theorem dX10_readTold_43 : decode cX10_readTold 43 = .ok (.iload_n 2, 1) := by decide +kernel
theorem dX10_readTold_44 : decode cX10_readTold 44 = .ok (.iconst (-1), 1) := by decide +kernel
theorem dX10_readTold_45 : decode cX10_readTold 45 = .ok (.if_icmp .ne 8, 3) := by decide +kernel
theorem dX10_readTold_48 : decode cX10_readTold 48 = .ok (.aload_n 0, 1) := by decide +kernel
theorem dX10_readTold_49 : decode cX10_readTold 49 = .ok (.iconst 3, 1) := by decide +kernel
theorem dX10_readTold_50 : decode cX10_readTold 50 = .ok (.invokevirtual 147, 3) := by decide +kernel
theorem dX10_readTold_53 : decode cX10_readTold 53 = .ok (.aload_n 0, 1) := by decide +kernel
theorem dX10_readTold_54 : decode cX10_readTold 54 = .ok (.invokevirtual 144, 3) := by decide +kernel
theorem dX10_readTold_57 : decode cX10_readTold 57 = .ok (.iload_n 2, 1) := by decide +kernel
theorem dX10_readTold_58 : decode cX10_readTold 58 = .ok (.ireturn, 1) := by decide +kernel
theorem dX10_readWare_0 : decode cX10_readWare 0 = .ok (.aload_n 0, 1) := by decide +kernel
theorem dX10_readWare_1 : decode cX10_readWare 1 = .ok (.getfield 175, 3) := by decide +kernel
theorem dX10_readWare_4 : decode cX10_readWare 4 = .ok (.ifCond .gt 11, 3) := by decide +kernel
theorem dX10_readWare_7 : decode cX10_readWare 7 = .ok (.aload_n 0, 1) := by decide +kernel
theorem dX10_readWare_8 : decode cX10_readWare 8 = .ok (.getfield 172, 3) := by decide +kernel
theorem dX10_readWare_11 : decode cX10_readWare 11 = .ok (.iconst 3, 1) := by decide +kernel
theorem dX10_readWare_12 : decode cX10_readWare 12 = .ok (.if_icmp .ne 8, 3) := by decide +kernel
theorem dX10_readWare_15 : decode cX10_readWare 15 = .ok (.aload_n 0, 1) := by decide +kernel
theorem dX10_readWare_16 : decode cX10_readWare 16 = .ok (.iconst 4, 1) := by decide +kernel
theorem dX10_readWare_17 : decode cX10_readWare 17 = .ok (.invokevirtual 147, 3) := by decide +kernel
theorem dX10_readWare_20 : decode cX10_readWare 20 = .ok (.aload_n 0, 1) := by decide +kernel
theorem dX10_readWare_21 : decode cX10_readWare 21 = .ok (.invokevirtual 144, 3) := by decide +kernel
theorem dX10_readWare_24 : decode cX10_readWare 24 = .ok (.aload_n 0, 1) := by decide +kernel
theorem dX10_readWare_25 : decode cX10_readWare 25 = .ok (.invokevirtual 188, 3) := by decide +kernel
theorem dX10_readWare_28 : decode cX10_readWare 28 = .ok (.lstore_n 1, 1) := by decide +kernel
theorem dX10_readWare_29 : decode cX10_readWare 29 = .ok (.aload_n 0, 1) := by decide +kernel
theorem dX10_readWare_30 : decode cX10_readWare 30 = .ok (.getfield 83, 3) := by decide +kernel
theorem dX10_readWare_33 : decode cX10_readWare 33 = .ok (.ifCond .le 4, 3) := by decide +kernel
theorem dX10_readWare_36 : decode cX10_readWare 36 = .ok (.return_, 1) := by decide +kernel
theorem dX10_readWare_37 : decode cX10_readWare 37 = .ok (.aload_n 0, 1) := by decide +kernel
theorem dX10_readWare_38 : decode cX10_readWare 38 = .ok (.getfield 17, 3) := by decide +kernel
theorem dX10_readWare_41 : decode cX10_readWare 41 = .ok (.iconst 3, 1) := by decide +kernel
theorem dX10_readWare_42 : decode cX10_readWare 42 = .ok (.aload_n 0, 1) := by decide +kernel
theorem dX10_readWare_43 : decode cX10_readWare 43 = .ok (.getfield 172, 3) := by decide +kernel
theorem dX10_readWare_46 : decode cX10_readWare 46 = .ok (.iadd, 1) := by decide +kernel
theorem dX10_readWare_47 : decode cX10_readWare 47 = .ok (.lload_n 1, 1) := by decide +kernel
theorem dX10_readWare_48 : decode cX10_readWare 48 = .ok (.lastore, 1) := by decide +kernel
theorem dX10_readWare_49 : decode cX10_readWare 49 = .ok (.aload_n 0, 1) := by decide +kernel
theorem dX10_readWare_50 : decode cX10_readWare 50 = .ok (.dup, 1) := by decide +kernel
theorem dX10_readWare_51 : decode cX10_readWare 51 = .ok (.getfield 172, 3) := by decide +kernel
theorem dX10_readWare_54 : decode cX10_readWare 54 = .ok (.iconst 1, 1) := by decide +kernel
theorem dX10_readWare_55 : decode cX10_readWare 55 = .ok (.iadd, 1) := by decide +kernel
theorem dX10_readWare_56 : decode cX10_readWare 56 = .ok (.putfield 172, 3) := by decide +kernel
theorem dX10_readWare_59 : decode cX10_readWare 59 = .ok (.return_, 1) := by decide +kernel
theorem dX10_readBench_0 : decode cX10_readBench 0 = .ok (.aload_n 0, 1) := by decide +kernel
theorem dX10_readBench_1 : decode cX10_readBench 1 = .ok (.getfield 175, 3) := by decide +kernel
theorem dX10_readBench_4 : decode cX10_readBench 4 = .ok (.bipush 6, 2) := by decide +kernel
theorem dX10_readBench_6 : decode cX10_readBench 6 = .ok (.if_icmp .ne 8, 3) := by decide +kernel
theorem dX10_readBench_9 : decode cX10_readBench 9 = .ok (.aload_n 0, 1) := by decide +kernel
theorem dX10_readBench_10 : decode cX10_readBench 10 = .ok (.iconst 4, 1) := by decide +kernel
theorem dX10_readBench_11 : decode cX10_readBench 11 = .ok (.invokevirtual 147, 3) := by decide +kernel
theorem dX10_readBench_14 : decode cX10_readBench 14 = .ok (.aload_n 0, 1) := by decide +kernel
theorem dX10_readBench_15 : decode cX10_readBench 15 = .ok (.invokevirtual 144, 3) := by decide +kernel
theorem dX10_readBench_18 : decode cX10_readBench 18 = .ok (.aload_n 0, 1) := by decide +kernel
theorem dX10_readBench_19 : decode cX10_readBench 19 = .ok (.invokevirtual 188, 3) := by decide +kernel
theorem dX10_readBench_22 : decode cX10_readBench 22 = .ok (.lstore_n 1, 1) := by decide +kernel
theorem dX10_readBench_23 : decode cX10_readBench 23 = .ok (.aload_n 0, 1) := by decide +kernel
theorem dX10_readBench_24 : decode cX10_readBench 24 = .ok (.getfield 175, 3) := by decide +kernel
theorem dX10_readBench_27 : decode cX10_readBench 27 = .ok (.istore_n 3, 1) := by decide +kernel
theorem dX10_readBench_28 : decode cX10_readBench 28 = .ok (.aload_n 0, 1) := by decide +kernel
theorem dX10_readBench_29 : decode cX10_readBench 29 = .ok (.getfield 172, 3) := by decide +kernel
theorem dX10_readBench_32 : decode cX10_readBench 32 = .ok (.ifCond .ne 8, 3) := by decide +kernel
theorem dX10_readBench_35 : decode cX10_readBench 35 = .ok (.aload_n 0, 1) := by decide +kernel
theorem dX10_readBench_36 : decode cX10_readBench 36 = .ok (.iconst 1, 1) := by decide +kernel
theorem dX10_readBench_37 : decode cX10_readBench 37 = .ok (.invokevirtual 147, 3) := by decide +kernel
theorem dX10_readBench_40 : decode cX10_readBench 40 = .ok (.iconst 0, 1) := by decide +kernel
theorem dX10_readBench_41 : decode cX10_readBench 41 = .ok (.istore 4, 2) := by decide +kernel
theorem dX10_readBench_43 : decode cX10_readBench 43 = .ok (.iload 4, 2) := by decide +kernel
theorem dX10_readBench_45 : decode cX10_readBench 45 = .ok (.aload_n 0, 1) := by decide +kernel
theorem dX10_readBench_46 : decode cX10_readBench 46 = .ok (.getfield 172, 3) := by decide +kernel
theorem dX10_readBench_49 : decode cX10_readBench 49 = .ok (.if_icmp .ge 72, 3) := by decide +kernel
theorem dX10_readBench_52 : decode cX10_readBench 52 = .ok (.aload_n 0, 1) := by decide +kernel
theorem dX10_readBench_53 : decode cX10_readBench 53 = .ok (.getfield 83, 3) := by decide +kernel
theorem dX10_readBench_56 : decode cX10_readBench 56 = .ok (.ifCond .ne 65, 3) := by decide +kernel
theorem dX10_readBench_59 : decode cX10_readBench 59 = .ok (.iload 4, 2) := by decide +kernel
theorem dX10_readBench_61 : decode cX10_readBench 61 = .ok (.ifCond .le 21, 3) := by decide +kernel
theorem dX10_readBench_64 : decode cX10_readBench 64 = .ok (.aload_n 0, 1) := by decide +kernel
theorem dX10_readBench_65 : decode cX10_readBench 65 = .ok (.bipush 44, 2) := by decide +kernel
theorem dX10_readBench_67 : decode cX10_readBench 67 = .ok (.invokevirtual 192, 3) := by decide +kernel
theorem dX10_readBench_70 : decode cX10_readBench 70 = .ok (.ifCond .ne 8, 3) := by decide +kernel
theorem dX10_readBench_73 : decode cX10_readBench 73 = .ok (.aload_n 0, 1) := by decide +kernel
theorem dX10_readBench_74 : decode cX10_readBench 74 = .ok (.iconst 1, 1) := by decide +kernel
theorem dX10_readBench_75 : decode cX10_readBench 75 = .ok (.invokevirtual 147, 3) := by decide +kernel
theorem dX10_readBench_78 : decode cX10_readBench 78 = .ok (.aload_n 0, 1) := by decide +kernel
theorem dX10_readBench_79 : decode cX10_readBench 79 = .ok (.invokevirtual 144, 3) := by decide +kernel
theorem dX10_readBench_82 : decode cX10_readBench 82 = .ok (.aload_n 0, 1) := by decide +kernel
theorem dX10_readBench_83 : decode cX10_readBench 83 = .ok (.getfield 45, 3) := by decide +kernel
theorem dX10_readBench_86 : decode cX10_readBench 86 = .ok (.bipush 18, 2) := by decide +kernel
theorem dX10_readBench_88 : decode cX10_readBench 88 = .ok (.iconst 3, 1) := by decide +kernel
theorem dX10_readBench_89 : decode cX10_readBench 89 = .ok (.iload_n 3, 1) := by decide +kernel
theorem dX10_readBench_90 : decode cX10_readBench 90 = .ok (.imul, 1) := by decide +kernel
theorem dX10_readBench_91 : decode cX10_readBench 91 = .ok (.iadd, 1) := by decide +kernel
theorem dX10_readBench_92 : decode cX10_readBench 92 = .ok (.iload 4, 2) := by decide +kernel
theorem dX10_readBench_94 : decode cX10_readBench 94 = .ok (.iadd, 1) := by decide +kernel
theorem dX10_readBench_95 : decode cX10_readBench 95 = .ok (.aload_n 0, 1) := by decide +kernel
theorem dX10_readBench_96 : decode cX10_readBench 96 = .ok (.iconst 1, 1) := by decide +kernel
theorem dX10_readBench_97 : decode cX10_readBench 97 = .ok (.bipush 60, 2) := by decide +kernel
theorem dX10_readBench_99 : decode cX10_readBench 99 = .ok (.invokevirtual 195, 3) := by decide +kernel
theorem dX10_readBench_102 : decode cX10_readBench 102 = .ok (.iastore, 1) := by decide +kernel
theorem dX10_readBench_103 : decode cX10_readBench 103 = .ok (.aload_n 0, 1) := by decide +kernel
theorem dX10_readBench_104 : decode cX10_readBench 104 = .ok (.getfield 45, 3) := by decide +kernel
theorem dX10_readBench_107 : decode cX10_readBench 107 = .ok (.iconst 3, 1) := by decide +kernel
theorem dX10_readBench_108 : decode cX10_readBench 108 = .ok (.iload_n 3, 1) := by decide +kernel
theorem dX10_readBench_109 : decode cX10_readBench 109 = .ok (.imul, 1) := by decide +kernel
theorem dX10_readBench_110 : decode cX10_readBench 110 = .ok (.iload 4, 2) := by decide +kernel
theorem dX10_readBench_112 : decode cX10_readBench 112 = .ok (.iadd, 1) := by decide +kernel
theorem dX10_readBench_113 : decode cX10_readBench 113 = .ok (.iconst 1, 1) := by decide +kernel
theorem dX10_readBench_114 : decode cX10_readBench 114 = .ok (.iastore, 1) := by decide +kernel
theorem dX10_readBench_115 : decode cX10_readBench 115 = .ok (.iinc 4 1, 3) := by decide +kernel
theorem dX10_readBench_118 : decode cX10_readBench 118 = .ok (.goto (-75), 3) := by decide +kernel
theorem dX10_readBench_121 : decode cX10_readBench 121 = .ok (.aload_n 0, 1) := by decide +kernel
theorem dX10_readBench_122 : decode cX10_readBench 122 = .ok (.ldc 155, 2) := by decide +kernel
theorem dX10_readBench_124 : decode cX10_readBench 124 = .ok (.invokevirtual 199, 3) := by decide +kernel
theorem dX10_readBench_127 : decode cX10_readBench 127 = .ok (.ifCond .eq 13, 3) := by decide +kernel
theorem dX10_readBench_130 : decode cX10_readBench 130 = .ok (.aload_n 0, 1) := by decide +kernel
theorem dX10_readBench_131 : decode cX10_readBench 131 = .ok (.iconst 0, 1) := by decide +kernel
theorem dX10_readBench_132 : decode cX10_readBench 132 = .ok (.bipush 60, 2) := by decide +kernel
theorem dX10_readBench_134 : decode cX10_readBench 134 = .ok (.invokevirtual 195, 3) := by decide +kernel
theorem dX10_readBench_137 : decode cX10_readBench 137 = .ok (.goto 4, 3) := by decide +kernel
theorem dX10_readBench_140 : decode cX10_readBench 140 = .ok (.iconst 0, 1) := by decide +kernel
theorem dX10_readBench_141 : decode cX10_readBench 141 = .ok (.istore 4, 2) := by decide +kernel
theorem dX10_readBench_143 : decode cX10_readBench 143 = .ok (.iconst 0, 1) := by decide +kernel
theorem dX10_readBench_144 : decode cX10_readBench 144 = .ok (.istore 5, 2) := by decide +kernel
theorem dX10_readBench_146 : decode cX10_readBench 146 = .ok (.iconst 0, 1) := by decide +kernel
theorem dX10_readBench_147 : decode cX10_readBench 147 = .ok (.istore 6, 2) := by decide +kernel
theorem dX10_readBench_149 : decode cX10_readBench 149 = .ok (.aload_n 0, 1) := by decide +kernel
theorem dX10_readBench_150 : decode cX10_readBench 150 = .ok (.ldc 156, 2) := by decide +kernel
theorem dX10_readBench_152 : decode cX10_readBench 152 = .ok (.invokevirtual 199, 3) := by decide +kernel
theorem dX10_readBench_155 : decode cX10_readBench 155 = .ok (.ifCond .eq 27, 3) := by decide +kernel
theorem dX10_readBench_158 : decode cX10_readBench 158 = .ok (.aload_n 0, 1) := by decide +kernel
theorem dX10_readBench_159 : decode cX10_readBench 159 = .ok (.iconst 1, 1) := by decide +kernel
theorem dX10_readBench_160 : decode cX10_readBench 160 = .ok (.bipush 60, 2) := by decide +kernel
theorem dX10_readBench_162 : decode cX10_readBench 162 = .ok (.invokevirtual 195, 3) := by decide +kernel
theorem dX10_readBench_165 : decode cX10_readBench 165 = .ok (.istore 5, 2) := by decide +kernel
theorem dX10_readBench_167 : decode cX10_readBench 167 = .ok (.aload_n 0, 1) := by decide +kernel
theorem dX10_readBench_168 : decode cX10_readBench 168 = .ok (.ldc 157, 2) := by decide +kernel
theorem dX10_readBench_170 : decode cX10_readBench 170 = .ok (.invokevirtual 202, 3) := by decide +kernel
theorem dX10_readBench_173 : decode cX10_readBench 173 = .ok (.aload_n 0, 1) := by decide +kernel
theorem dX10_readBench_174 : decode cX10_readBench 174 = .ok (.iconst 1, 1) := by decide +kernel
theorem dX10_readBench_175 : decode cX10_readBench 175 = .ok (.bipush 99, 2) := by decide +kernel
theorem dX10_readBench_177 : decode cX10_readBench 177 = .ok (.invokevirtual 195, 3) := by decide +kernel
theorem dX10_readBench_180 : decode cX10_readBench 180 = .ok (.istore 6, 2) := by decide +kernel
theorem dX10_readBench_182 : decode cX10_readBench 182 = .ok (.aload_n 0, 1) := by decide +kernel
theorem dX10_readBench_183 : decode cX10_readBench 183 = .ok (.getfield 83, 3) := by decide +kernel
theorem dX10_readBench_186 : decode cX10_readBench 186 = .ok (.ifCond .le 4, 3) := by decide +kernel
theorem dX10_readBench_189 : decode cX10_readBench 189 = .ok (.return_, 1) := by decide +kernel
theorem dX10_readBench_190 : decode cX10_readBench 190 = .ok (.aload_n 0, 1) := by decide +kernel
theorem dX10_readBench_191 : decode cX10_readBench 191 = .ok (.getfield 21, 3) := by decide +kernel
theorem dX10_readBench_194 : decode cX10_readBench 194 = .ok (.bipush 6, 2) := by decide +kernel
theorem dX10_readBench_196 : decode cX10_readBench 196 = .ok (.iload_n 3, 1) := by decide +kernel
theorem dX10_readBench_197 : decode cX10_readBench 197 = .ok (.iadd, 1) := by decide +kernel
theorem dX10_readBench_198 : decode cX10_readBench 198 = .ok (.lload_n 1, 1) := by decide +kernel
theorem dX10_readBench_199 : decode cX10_readBench 199 = .ok (.lastore, 1) := by decide +kernel
theorem dX10_readBench_200 : decode cX10_readBench 200 = .ok (.aload_n 0, 1) := by decide +kernel
theorem dX10_readBench_201 : decode cX10_readBench 201 = .ok (.getfield 24, 3) := by decide +kernel
theorem dX10_readBench_204 : decode cX10_readBench 204 = .ok (.bipush 6, 2) := by decide +kernel
theorem dX10_readBench_206 : decode cX10_readBench 206 = .ok (.iload_n 3, 1) := by decide +kernel
theorem dX10_readBench_207 : decode cX10_readBench 207 = .ok (.iadd, 1) := by decide +kernel
theorem dX10_readBench_208 : decode cX10_readBench 208 = .ok (.iload 4, 2) := by decide +kernel
theorem dX10_readBench_210 : decode cX10_readBench 210 = .ok (.iastore, 1) := by decide +kernel
theorem dX10_readBench_211 : decode cX10_readBench 211 = .ok (.aload_n 0, 1) := by decide +kernel
theorem dX10_readBench_212 : decode cX10_readBench 212 = .ok (.getfield 27, 3) := by decide +kernel
theorem dX10_readBench_215 : decode cX10_readBench 215 = .ok (.bipush 6, 2) := by decide +kernel
theorem dX10_readBench_217 : decode cX10_readBench 217 = .ok (.iload_n 3, 1) := by decide +kernel
theorem dX10_readBench_218 : decode cX10_readBench 218 = .ok (.iadd, 1) := by decide +kernel
theorem dX10_readBench_219 : decode cX10_readBench 219 = .ok (.iload 5, 2) := by decide +kernel
theorem dX10_readBench_221 : decode cX10_readBench 221 = .ok (.iastore, 1) := by decide +kernel
theorem dX10_readBench_222 : decode cX10_readBench 222 = .ok (.aload_n 0, 1) := by decide +kernel
theorem dX10_readBench_223 : decode cX10_readBench 223 = .ok (.getfield 30, 3) := by decide +kernel
theorem dX10_readBench_226 : decode cX10_readBench 226 = .ok (.bipush 6, 2) := by decide +kernel
theorem dX10_readBench_228 : decode cX10_readBench 228 = .ok (.iload_n 3, 1) := by decide +kernel
theorem dX10_readBench_229 : decode cX10_readBench 229 = .ok (.iadd, 1) := by decide +kernel
theorem dX10_readBench_230 : decode cX10_readBench 230 = .ok (.iload 6, 2) := by decide +kernel
theorem dX10_readBench_232 : decode cX10_readBench 232 = .ok (.iastore, 1) := by decide +kernel
theorem dX10_readBench_233 : decode cX10_readBench 233 = .ok (.aload_n 0, 1) := by decide +kernel
theorem dX10_readBench_234 : decode cX10_readBench 234 = .ok (.dup, 1) := by decide +kernel
theorem dX10_readBench_235 : decode cX10_readBench 235 = .ok (.getfield 175, 3) := by decide +kernel
theorem dX10_readBench_238 : decode cX10_readBench 238 = .ok (.iconst 1, 1) := by decide +kernel
theorem dX10_readBench_239 : decode cX10_readBench 239 = .ok (.iadd, 1) := by decide +kernel
theorem dX10_readBench_240 : decode cX10_readBench 240 = .ok (.putfield 175, 3) := by decide +kernel
theorem dX10_readBench_243 : decode cX10_readBench 243 = .ok (.return_, 1) := by decide +kernel
theorem dX10_readCards_0 : decode cX10_readCards 0 = .ok (.aload_n 0, 1) := by decide +kernel
theorem dX10_readCards_1 : decode cX10_readCards 1 = .ok (.invokevirtual 144, 3) := by decide +kernel
theorem dX10_readCards_4 : decode cX10_readCards 4 = .ok (.aload_n 0, 1) := by decide +kernel
theorem dX10_readCards_5 : decode cX10_readCards 5 = .ok (.iconst 0, 1) := by decide +kernel
theorem dX10_readCards_6 : decode cX10_readCards 6 = .ok (.invokevirtual 206, 3) := by decide +kernel
theorem dX10_readCards_9 : decode cX10_readCards 9 = .ok (.istore_n 1, 1) := by decide +kernel
theorem dX10_readCards_10 : decode cX10_readCards 10 = .ok (.aload_n 0, 1) := by decide +kernel
theorem dX10_readCards_11 : decode cX10_readCards 11 = .ok (.iconst 1, 1) := by decide +kernel
theorem dX10_readCards_12 : decode cX10_readCards 12 = .ok (.invokevirtual 206, 3) := by decide +kernel
theorem dX10_readCards_15 : decode cX10_readCards 15 = .ok (.istore_n 2, 1) := by decide +kernel
theorem dX10_readCards_16 : decode cX10_readCards 16 = .ok (.aload_n 0, 1) := by decide +kernel
theorem dX10_readCards_17 : decode cX10_readCards 17 = .ok (.iconst 0, 1) := by decide +kernel
theorem dX10_readCards_18 : decode cX10_readCards 18 = .ok (.bipush 9, 2) := by decide +kernel
theorem dX10_readCards_20 : decode cX10_readCards 20 = .ok (.invokevirtual 195, 3) := by decide +kernel
theorem dX10_readCards_23 : decode cX10_readCards 23 = .ok (.istore_n 3, 1) := by decide +kernel
theorem dX10_readCards_24 : decode cX10_readCards 24 = .ok (.aload_n 0, 1) := by decide +kernel
theorem dX10_readCards_25 : decode cX10_readCards 25 = .ok (.getfield 83, 3) := by decide +kernel
theorem dX10_readCards_28 : decode cX10_readCards 28 = .ok (.ifCond .ne 14, 3) := by decide +kernel
theorem dX10_readCards_31 : decode cX10_readCards 31 = .ok (.aload_n 0, 1) := by decide +kernel
theorem dX10_readCards_32 : decode cX10_readCards 32 = .ok (.getfield 45, 3) := by decide +kernel
theorem dX10_readCards_35 : decode cX10_readCards 35 = .ok (.iconst 3, 1) := by decide +kernel
theorem dX10_readCards_36 : decode cX10_readCards 36 = .ok (.iload_n 1, 1) := by decide +kernel
theorem dX10_readCards_37 : decode cX10_readCards 37 = .ok (.imul, 1) := by decide +kernel
theorem dX10_readCards_38 : decode cX10_readCards 38 = .ok (.iload_n 2, 1) := by decide +kernel
theorem dX10_readCards_39 : decode cX10_readCards 39 = .ok (.iadd, 1) := by decide +kernel
theorem dX10_readCards_40 : decode cX10_readCards 40 = .ok (.iload_n 3, 1) := by decide +kernel
theorem dX10_readCards_41 : decode cX10_readCards 41 = .ok (.iastore, 1) := by decide +kernel
theorem dX10_readCards_42 : decode cX10_readCards 42 = .ok (.return_, 1) := by decide +kernel
theorem dX10_readOrder_0 : decode cX10_readOrder 0 = .ok (.aload_n 0, 1) := by decide +kernel
theorem dX10_readOrder_1 : decode cX10_readOrder 1 = .ok (.getfield 210, 3) := by decide +kernel
theorem dX10_readOrder_4 : decode cX10_readOrder 4 = .ok (.iconst 4, 1) := by decide +kernel
theorem dX10_readOrder_5 : decode cX10_readOrder 5 = .ok (.if_icmp .ne 8, 3) := by decide +kernel
theorem dX10_readOrder_8 : decode cX10_readOrder 8 = .ok (.aload_n 0, 1) := by decide +kernel
theorem dX10_readOrder_9 : decode cX10_readOrder 9 = .ok (.iconst 4, 1) := by decide +kernel
theorem dX10_readOrder_10 : decode cX10_readOrder 10 = .ok (.invokevirtual 147, 3) := by decide +kernel
theorem dX10_readOrder_13 : decode cX10_readOrder 13 = .ok (.aload_n 0, 1) := by decide +kernel
theorem dX10_readOrder_14 : decode cX10_readOrder 14 = .ok (.invokevirtual 144, 3) := by decide +kernel
theorem dX10_readOrder_17 : decode cX10_readOrder 17 = .ok (.aload_n 0, 1) := by decide +kernel
theorem dX10_readOrder_18 : decode cX10_readOrder 18 = .ok (.iconst 1, 1) := by decide +kernel
theorem dX10_readOrder_19 : decode cX10_readOrder 19 = .ok (.invokevirtual 206, 3) := by decide +kernel
theorem dX10_readOrder_22 : decode cX10_readOrder 22 = .ok (.istore_n 1, 1) := by decide +kernel
theorem dX10_readOrder_23 : decode cX10_readOrder 23 = .ok (.aload_n 0, 1) := by decide +kernel
theorem dX10_readOrder_24 : decode cX10_readOrder 24 = .ok (.ldc 157, 2) := by decide +kernel
theorem dX10_readOrder_26 : decode cX10_readOrder 26 = .ok (.invokevirtual 202, 3) := by decide +kernel
theorem dX10_readOrder_29 : decode cX10_readOrder 29 = .ok (.aload_n 0, 1) := by decide +kernel
theorem dX10_readOrder_30 : decode cX10_readOrder 30 = .ok (.iconst 1, 1) := by decide +kernel
theorem dX10_readOrder_31 : decode cX10_readOrder 31 = .ok (.bipush 99, 2) := by decide +kernel
theorem dX10_readOrder_33 : decode cX10_readOrder 33 = .ok (.invokevirtual 195, 3) := by decide +kernel
theorem dX10_readOrder_36 : decode cX10_readOrder 36 = .ok (.istore_n 2, 1) := by decide +kernel
theorem dX10_readOrder_37 : decode cX10_readOrder 37 = .ok (.aload_n 0, 1) := by decide +kernel
theorem dX10_readOrder_38 : decode cX10_readOrder 38 = .ok (.ldc 162, 2) := by decide +kernel
theorem dX10_readOrder_40 : decode cX10_readOrder 40 = .ok (.invokevirtual 202, 3) := by decide +kernel
theorem dX10_readOrder_43 : decode cX10_readOrder 43 = .ok (.aload_n 0, 1) := by decide +kernel
theorem dX10_readOrder_44 : decode cX10_readOrder 44 = .ok (.iconst 0, 1) := by decide +kernel
theorem dX10_readOrder_45 : decode cX10_readOrder 45 = .ok (.sipush 999, 3) := by decide +kernel
theorem dX10_readOrder_48 : decode cX10_readOrder 48 = .ok (.invokevirtual 195, 3) := by decide +kernel
theorem dX10_readOrder_51 : decode cX10_readOrder 51 = .ok (.istore_n 3, 1) := by decide +kernel
theorem dX10_readOrder_52 : decode cX10_readOrder 52 = .ok (.aload_n 0, 1) := by decide +kernel
theorem dX10_readOrder_53 : decode cX10_readOrder 53 = .ok (.getfield 83, 3) := by decide +kernel
theorem dX10_readOrder_56 : decode cX10_readOrder 56 = .ok (.ifCond .le 4, 3) := by decide +kernel
theorem dX10_readOrder_59 : decode cX10_readOrder 59 = .ok (.return_, 1) := by decide +kernel
theorem dX10_readOrder_60 : decode cX10_readOrder 60 = .ok (.aload_n 0, 1) := by decide +kernel
theorem dX10_readOrder_61 : decode cX10_readOrder 61 = .ok (.getfield 33, 3) := by decide +kernel
theorem dX10_readOrder_64 : decode cX10_readOrder 64 = .ok (.iconst 4, 1) := by decide +kernel
theorem dX10_readOrder_65 : decode cX10_readOrder 65 = .ok (.aload_n 0, 1) := by decide +kernel
theorem dX10_readOrder_66 : decode cX10_readOrder 66 = .ok (.getfield 210, 3) := by decide +kernel
theorem dX10_readOrder_69 : decode cX10_readOrder 69 = .ok (.iadd, 1) := by decide +kernel
theorem dX10_readOrder_70 : decode cX10_readOrder 70 = .ok (.iload_n 1, 1) := by decide +kernel
theorem dX10_readOrder_71 : decode cX10_readOrder 71 = .ok (.iastore, 1) := by decide +kernel
theorem dX10_readOrder_72 : decode cX10_readOrder 72 = .ok (.aload_n 0, 1) := by decide +kernel
theorem dX10_readOrder_73 : decode cX10_readOrder 73 = .ok (.getfield 36, 3) := by decide +kernel
theorem dX10_readOrder_76 : decode cX10_readOrder 76 = .ok (.iconst 4, 1) := by decide +kernel
theorem dX10_readOrder_77 : decode cX10_readOrder 77 = .ok (.aload_n 0, 1) := by decide +kernel
theorem dX10_readOrder_78 : decode cX10_readOrder 78 = .ok (.getfield 210, 3) := by decide +kernel
theorem dX10_readOrder_81 : decode cX10_readOrder 81 = .ok (.iadd, 1) := by decide +kernel
theorem dX10_readOrder_82 : decode cX10_readOrder 82 = .ok (.iload_n 2, 1) := by decide +kernel
theorem dX10_readOrder_83 : decode cX10_readOrder 83 = .ok (.iastore, 1) := by decide +kernel
theorem dX10_readOrder_84 : decode cX10_readOrder 84 = .ok (.aload_n 0, 1) := by decide +kernel
theorem dX10_readOrder_85 : decode cX10_readOrder 85 = .ok (.getfield 39, 3) := by decide +kernel
theorem dX10_readOrder_88 : decode cX10_readOrder 88 = .ok (.iconst 4, 1) := by decide +kernel
theorem dX10_readOrder_89 : decode cX10_readOrder 89 = .ok (.aload_n 0, 1) := by decide +kernel
theorem dX10_readOrder_90 : decode cX10_readOrder 90 = .ok (.getfield 210, 3) := by decide +kernel
theorem dX10_readOrder_93 : decode cX10_readOrder 93 = .ok (.iadd, 1) := by decide +kernel
theorem dX10_readOrder_94 : decode cX10_readOrder 94 = .ok (.iload_n 3, 1) := by decide +kernel
theorem dX10_readOrder_95 : decode cX10_readOrder 95 = .ok (.iastore, 1) := by decide +kernel
theorem dX10_readOrder_96 : decode cX10_readOrder 96 = .ok (.aload_n 0, 1) := by decide +kernel
theorem dX10_readOrder_97 : decode cX10_readOrder 97 = .ok (.dup, 1) := by decide +kernel
theorem dX10_readOrder_98 : decode cX10_readOrder 98 = .ok (.getfield 210, 3) := by decide +kernel
theorem dX10_readOrder_101 : decode cX10_readOrder 101 = .ok (.iconst 1, 1) := by decide +kernel
theorem dX10_readOrder_102 : decode cX10_readOrder 102 = .ok (.iadd, 1) := by decide +kernel
theorem dX10_readOrder_103 : decode cX10_readOrder 103 = .ok (.putfield 210, 3) := by decide +kernel
theorem dX10_readOrder_106 : decode cX10_readOrder 106 = .ok (.return_, 1) := by decide +kernel
theorem dX10_readRule_0 : decode cX10_readRule 0 = .ok (.aload_n 0, 1) := by decide +kernel
theorem dX10_readRule_1 : decode cX10_readRule 1 = .ok (.getfield 213, 3) := by decide +kernel
theorem dX10_readRule_4 : decode cX10_readRule 4 = .ok (.ifCond .eq 8, 3) := by decide +kernel
theorem dX10_readRule_7 : decode cX10_readRule 7 = .ok (.aload_n 0, 1) := by decide +kernel
theorem dX10_readRule_8 : decode cX10_readRule 8 = .ok (.iconst 3, 1) := by decide +kernel
theorem dX10_readRule_9 : decode cX10_readRule 9 = .ok (.invokevirtual 147, 3) := by decide +kernel
theorem dX10_readRule_12 : decode cX10_readRule 12 = .ok (.aload_n 0, 1) := by decide +kernel
theorem dX10_readRule_13 : decode cX10_readRule 13 = .ok (.iconst 1, 1) := by decide +kernel
theorem dX10_readRule_14 : decode cX10_readRule 14 = .ok (.putfield 213, 3) := by decide +kernel
theorem dX10_readRule_17 : decode cX10_readRule 17 = .ok (.aload_n 0, 1) := by decide +kernel
theorem dX10_readRule_18 : decode cX10_readRule 18 = .ok (.invokevirtual 144, 3) := by decide +kernel
theorem dX10_readRule_21 : decode cX10_readRule 21 = .ok (.aload_n 0, 1) := by decide +kernel
theorem dX10_readRule_22 : decode cX10_readRule 22 = .ok (.ldc 166, 2) := by decide +kernel
theorem dX10_readRule_24 : decode cX10_readRule 24 = .ok (.invokevirtual 140, 3) := by decide +kernel
theorem dX10_readRule_27 : decode cX10_readRule 27 = .ok (.ifCond .eq 7, 3) := by decide +kernel
theorem dX10_readRule_30 : decode cX10_readRule 30 = .ok (.iconst 0, 1) := by decide +kernel
theorem dX10_readRule_31 : decode cX10_readRule 31 = .ok (.goto 30, 3) := by decide +kernel
theorem dX10_readRule_34 : decode cX10_readRule 34 = .ok (.aload_n 0, 1) := by decide +kernel
theorem dX10_readRule_35 : decode cX10_readRule 35 = .ok (.ldc 168, 2) := by decide +kernel
theorem dX10_readRule_37 : decode cX10_readRule 37 = .ok (.invokevirtual 140, 3) := by decide +kernel
theorem dX10_readRule_40 : decode cX10_readRule 40 = .ok (.ifCond .eq 7, 3) := by decide +kernel
theorem dX10_readRule_43 : decode cX10_readRule 43 = .ok (.iconst 1, 1) := by decide +kernel
theorem dX10_readRule_44 : decode cX10_readRule 44 = .ok (.goto 17, 3) := by decide +kernel
theorem dX10_readRule_47 : decode cX10_readRule 47 = .ok (.aload_n 0, 1) := by decide +kernel
theorem dX10_readRule_48 : decode cX10_readRule 48 = .ok (.ldc 170, 2) := by decide +kernel
theorem dX10_readRule_50 : decode cX10_readRule 50 = .ok (.invokevirtual 140, 3) := by decide +kernel
theorem dX10_readRule_53 : decode cX10_readRule 53 = .ok (.ifCond .eq 7, 3) := by decide +kernel
theorem dX10_readRule_56 : decode cX10_readRule 56 = .ok (.iconst 2, 1) := by decide +kernel
theorem dX10_readRule_57 : decode cX10_readRule 57 = .ok (.goto 4, 3) := by decide +kernel
theorem dX10_readRule_60 : decode cX10_readRule 60 = .ok (.iconst (-1), 1) := by decide +kernel
theorem dX10_readRule_61 : decode cX10_readRule 61 = .ok (.istore_n 1, 1) := by decide +kernel
theorem dX10_readRule_62 : decode cX10_readRule 62 = .ok (.iload_n 1, 1) := by decide +kernel
theorem dX10_readRule_63 : decode cX10_readRule 63 = .ok (.iconst (-1), 1) := by decide +kernel
theorem dX10_readRule_64 : decode cX10_readRule 64 = .ok (.if_icmp .ne 8, 3) := by decide +kernel
theorem dX10_readRule_67 : decode cX10_readRule 67 = .ok (.aload_n 0, 1) := by decide +kernel
theorem dX10_readRule_68 : decode cX10_readRule 68 = .ok (.iconst 1, 1) := by decide +kernel
theorem dX10_readRule_69 : decode cX10_readRule 69 = .ok (.invokevirtual 147, 3) := by decide +kernel
theorem dX10_readRule_72 : decode cX10_readRule 72 = .ok (.aload_n 0, 1) := by decide +kernel
theorem dX10_readRule_73 : decode cX10_readRule 73 = .ok (.invokevirtual 144, 3) := by decide +kernel
theorem dX10_readRule_76 : decode cX10_readRule 76 = .ok (.aload_n 0, 1) := by decide +kernel
theorem dX10_readRule_77 : decode cX10_readRule 77 = .ok (.getfield 83, 3) := by decide +kernel
theorem dX10_readRule_80 : decode cX10_readRule 80 = .ok (.ifCond .ne 11, 3) := by decide +kernel
theorem dX10_readRule_83 : decode cX10_readRule 83 = .ok (.aload_n 0, 1) := by decide +kernel
theorem dX10_readRule_84 : decode cX10_readRule 84 = .ok (.getfield 45, 3) := by decide +kernel
theorem dX10_readRule_87 : decode cX10_readRule 87 = .ok (.bipush 36, 2) := by decide +kernel
theorem dX10_readRule_89 : decode cX10_readRule 89 = .ok (.iload_n 1, 1) := by decide +kernel
theorem dX10_readRule_90 : decode cX10_readRule 90 = .ok (.iastore, 1) := by decide +kernel
theorem dX10_readRule_91 : decode cX10_readRule 91 = .ok (.return_, 1) := by decide +kernel
theorem dX10_readLine_0 : decode cX10_readLine 0 = .ok (.aload_n 0, 1) := by decide +kernel
theorem dX10_readLine_1 : decode cX10_readLine 1 = .ok (.ldc 151, 2) := by decide +kernel
theorem dX10_readLine_3 : decode cX10_readLine 3 = .ok (.invokevirtual 140, 3) := by decide +kernel
theorem dX10_readLine_6 : decode cX10_readLine 6 = .ok (.ifCond .eq 10, 3) := by decide +kernel
theorem dX10_readLine_9 : decode cX10_readLine 9 = .ok (.aload_n 0, 1) := by decide +kernel
theorem dX10_readLine_10 : decode cX10_readLine 10 = .ok (.invokevirtual 217, 3) := by decide +kernel
theorem dX10_readLine_13 : decode cX10_readLine 13 = .ok (.goto 72, 3) := by decide +kernel
theorem dX10_readLine_16 : decode cX10_readLine 16 = .ok (.aload_n 0, 1) := by decide +kernel
theorem dX10_readLine_17 : decode cX10_readLine 17 = .ok (.ldc 153, 2) := by decide +kernel
theorem dX10_readLine_19 : decode cX10_readLine 19 = .ok (.invokevirtual 140, 3) := by decide +kernel
theorem dX10_readLine_22 : decode cX10_readLine 22 = .ok (.ifCond .eq 10, 3) := by decide +kernel
theorem dX10_readLine_25 : decode cX10_readLine 25 = .ok (.aload_n 0, 1) := by decide +kernel
theorem dX10_readLine_26 : decode cX10_readLine 26 = .ok (.invokevirtual 220, 3) := by decide +kernel
theorem dX10_readLine_29 : decode cX10_readLine 29 = .ok (.goto 56, 3) := by decide +kernel
theorem dX10_readLine_32 : decode cX10_readLine 32 = .ok (.aload_n 0, 1) := by decide +kernel
theorem dX10_readLine_33 : decode cX10_readLine 33 = .ok (.ldc 158, 2) := by decide +kernel
theorem dX10_readLine_35 : decode cX10_readLine 35 = .ok (.invokevirtual 140, 3) := by decide +kernel
theorem dX10_readLine_38 : decode cX10_readLine 38 = .ok (.ifCond .eq 10, 3) := by decide +kernel
theorem dX10_readLine_41 : decode cX10_readLine 41 = .ok (.aload_n 0, 1) := by decide +kernel
theorem dX10_readLine_42 : decode cX10_readLine 42 = .ok (.invokevirtual 223, 3) := by decide +kernel
theorem dX10_readLine_45 : decode cX10_readLine 45 = .ok (.goto 40, 3) := by decide +kernel
theorem dX10_readLine_48 : decode cX10_readLine 48 = .ok (.aload_n 0, 1) := by decide +kernel
theorem dX10_readLine_49 : decode cX10_readLine 49 = .ok (.ldc 160, 2) := by decide +kernel
theorem dX10_readLine_51 : decode cX10_readLine 51 = .ok (.invokevirtual 140, 3) := by decide +kernel
theorem dX10_readLine_54 : decode cX10_readLine 54 = .ok (.ifCond .eq 10, 3) := by decide +kernel
theorem dX10_readLine_57 : decode cX10_readLine 57 = .ok (.aload_n 0, 1) := by decide +kernel
theorem dX10_readLine_58 : decode cX10_readLine 58 = .ok (.invokevirtual 226, 3) := by decide +kernel
theorem dX10_readLine_61 : decode cX10_readLine 61 = .ok (.goto 24, 3) := by decide +kernel
theorem dX10_readLine_64 : decode cX10_readLine 64 = .ok (.aload_n 0, 1) := by decide +kernel
theorem dX10_readLine_65 : decode cX10_readLine 65 = .ok (.ldc 164, 2) := by decide +kernel
theorem dX10_readLine_67 : decode cX10_readLine 67 = .ok (.invokevirtual 140, 3) := by decide +kernel
theorem dX10_readLine_70 : decode cX10_readLine 70 = .ok (.ifCond .eq 10, 3) := by decide +kernel
theorem dX10_readLine_73 : decode cX10_readLine 73 = .ok (.aload_n 0, 1) := by decide +kernel
theorem dX10_readLine_74 : decode cX10_readLine 74 = .ok (.invokevirtual 229, 3) := by decide +kernel
theorem dX10_readLine_77 : decode cX10_readLine 77 = .ok (.goto 8, 3) := by decide +kernel
theorem dX10_readLine_80 : decode cX10_readLine 80 = .ok (.aload_n 0, 1) := by decide +kernel
theorem dX10_readLine_81 : decode cX10_readLine 81 = .ok (.iconst 1, 1) := by decide +kernel
theorem dX10_readLine_82 : decode cX10_readLine 82 = .ok (.invokevirtual 147, 3) := by decide +kernel
theorem dX10_readLine_85 : decode cX10_readLine 85 = .ok (.return_, 1) := by decide +kernel
theorem dX10_text_0 : decode cX10_text 0 = .ok (.aload_n 0, 1) := by decide +kernel
theorem dX10_text_1 : decode cX10_text 1 = .ok (.iconst 0, 1) := by decide +kernel
theorem dX10_text_2 : decode cX10_text 2 = .ok (.putfield 74, 3) := by decide +kernel
theorem dX10_text_5 : decode cX10_text 5 = .ok (.iload_n 1, 1) := by decide +kernel
theorem dX10_text_6 : decode cX10_text 6 = .ok (.iconst 0, 1) := by decide +kernel
theorem dX10_text_7 : decode cX10_text 7 = .ok (.aload_n 0, 1) := by decide +kernel
theorem dX10_text_8 : decode cX10_text 8 = .ok (.getfield 80, 3) := by decide +kernel
theorem dX10_text_11 : decode cX10_text 11 = .ok (.invokestatic 95, 3) := by decide +kernel
theorem dX10_text_14 : decode cX10_text 14 = .ok (.ifCond .ne 9, 3) := by decide +kernel
theorem dX10_text_17 : decode cX10_text 17 = .ok (.aload_n 0, 1) := by decide +kernel
theorem dX10_text_18 : decode cX10_text 18 = .ok (.iconst 2, 1) := by decide +kernel
theorem dX10_text_19 : decode cX10_text 19 = .ok (.invokevirtual 232, 3) := by decide +kernel
theorem dX10_text_22 : decode cX10_text 22 = .ok (.ireturn, 1) := by decide +kernel
theorem dX10_text_23 : decode cX10_text 23 = .ok (.aload_n 0, 1) := by decide +kernel
theorem dX10_text_24 : decode cX10_text 24 = .ok (.iload_n 1, 1) := by decide +kernel
theorem dX10_text_25 : decode cX10_text 25 = .ok (.putfield 92, 3) := by decide +kernel
theorem dX10_text_28 : decode cX10_text 28 = .ok (.aload_n 0, 1) := by decide +kernel
theorem dX10_text_29 : decode cX10_text 29 = .ok (.iconst 0, 1) := by decide +kernel
theorem dX10_text_30 : decode cX10_text 30 = .ok (.putfield 80, 3) := by decide +kernel
theorem dX10_text_33 : decode cX10_text 33 = .ok (.aload_n 0, 1) := by decide +kernel
theorem dX10_text_34 : decode cX10_text 34 = .ok (.iconst 0, 1) := by decide +kernel
theorem dX10_text_35 : decode cX10_text 35 = .ok (.putfield 99, 3) := by decide +kernel
theorem dX10_text_38 : decode cX10_text 38 = .ok (.aload_n 0, 1) := by decide +kernel
theorem dX10_text_39 : decode cX10_text 39 = .ok (.iconst 0, 1) := by decide +kernel
theorem dX10_text_40 : decode cX10_text 40 = .ok (.putfield 83, 3) := by decide +kernel
theorem dX10_text_43 : decode cX10_text 43 = .ok (.aload_n 0, 1) := by decide +kernel
theorem dX10_text_44 : decode cX10_text 44 = .ok (.iconst 0, 1) := by decide +kernel
theorem dX10_text_45 : decode cX10_text 45 = .ok (.putfield 172, 3) := by decide +kernel
theorem dX10_text_48 : decode cX10_text 48 = .ok (.aload_n 0, 1) := by decide +kernel
theorem dX10_text_49 : decode cX10_text 49 = .ok (.iconst 0, 1) := by decide +kernel
theorem dX10_text_50 : decode cX10_text 50 = .ok (.putfield 175, 3) := by decide +kernel
theorem dX10_text_53 : decode cX10_text 53 = .ok (.aload_n 0, 1) := by decide +kernel
theorem dX10_text_54 : decode cX10_text 54 = .ok (.iconst 0, 1) := by decide +kernel
theorem dX10_text_55 : decode cX10_text 55 = .ok (.putfield 210, 3) := by decide +kernel
theorem dX10_text_58 : decode cX10_text 58 = .ok (.aload_n 0, 1) := by decide +kernel
theorem dX10_text_59 : decode cX10_text 59 = .ok (.iconst 0, 1) := by decide +kernel
theorem dX10_text_60 : decode cX10_text 60 = .ok (.putfield 213, 3) := by decide +kernel
theorem dX10_text_63 : decode cX10_text 63 = .ok (.iconst 0, 1) := by decide +kernel
theorem dX10_text_64 : decode cX10_text 64 = .ok (.istore_n 2, 1) := by decide +kernel
theorem dX10_text_65 : decode cX10_text 65 = .ok (.iload_n 2, 1) := by decide +kernel
theorem dX10_text_66 : decode cX10_text 66 = .ok (.bipush 37, 2) := by decide +kernel
theorem dX10_text_68 : decode cX10_text 68 = .ok (.if_icmp .ge 16, 3) := by decide +kernel
theorem dX10_text_71 : decode cX10_text 71 = .ok (.aload_n 0, 1) := by decide +kernel
theorem dX10_text_72 : decode cX10_text 72 = .ok (.getfield 45, 3) := by decide +kernel
theorem dX10_text_75 : decode cX10_text 75 = .ok (.iload_n 2, 1) := by decide +kernel
theorem dX10_text_76 : decode cX10_text 76 = .ok (.iconst 0, 1) := by decide +kernel
theorem dX10_text_77 : decode cX10_text 77 = .ok (.iastore, 1) := by decide +kernel
theorem dX10_text_78 : decode cX10_text 78 = .ok (.iinc 2 1, 3) := by decide +kernel
theorem dX10_text_81 : decode cX10_text 81 = .ok (.goto (-16), 3) := by decide +kernel
theorem dX10_text_84 : decode cX10_text 84 = .ok (.aload_n 0, 1) := by decide +kernel
theorem dX10_text_85 : decode cX10_text 85 = .ok (.invokevirtual 144, 3) := by decide +kernel
theorem dX10_text_88 : decode cX10_text 88 = .ok (.aload_n 0, 1) := by decide +kernel
theorem dX10_text_89 : decode cX10_text 89 = .ok (.invokevirtual 236, 3) := by decide +kernel
theorem dX10_text_92 : decode cX10_text 92 = .ok (.aload_n 0, 1) := by decide +kernel
theorem dX10_text_93 : decode cX10_text 93 = .ok (.bipush 59, 2) := by decide +kernel
theorem dX10_text_95 : decode cX10_text 95 = .ok (.invokevirtual 192, 3) := by decide +kernel
theorem dX10_text_98 : decode cX10_text 98 = .ok (.ifCond .eq 14, 3) := by decide +kernel
theorem dX10_text_101 : decode cX10_text 101 = .ok (.aload_n 0, 1) := by decide +kernel
theorem dX10_text_102 : decode cX10_text 102 = .ok (.invokevirtual 144, 3) := by decide +kernel
theorem dX10_text_105 : decode cX10_text 105 = .ok (.aload_n 0, 1) := by decide +kernel
theorem dX10_text_106 : decode cX10_text 106 = .ok (.invokevirtual 236, 3) := by decide +kernel
theorem dX10_text_109 : decode cX10_text 109 = .ok (.goto (-17), 3) := by decide +kernel
theorem dX10_text_112 : decode cX10_text 112 = .ok (.aload_n 0, 1) := by decide +kernel
theorem dX10_text_113 : decode cX10_text 113 = .ok (.getfield 83, 3) := by decide +kernel
theorem dX10_text_116 : decode cX10_text 116 = .ok (.ifCond .ne 16, 3) := by decide +kernel
theorem dX10_text_119 : decode cX10_text 119 = .ok (.aload_n 0, 1) := by decide +kernel
theorem dX10_text_120 : decode cX10_text 120 = .ok (.getfield 102, 3) := by decide +kernel
theorem dX10_text_123 : decode cX10_text 123 = .ok (.iconst 1, 1) := by decide +kernel
theorem dX10_text_124 : decode cX10_text 124 = .ok (.if_icmp .eq 8, 3) := by decide +kernel
theorem dX10_text_127 : decode cX10_text 127 = .ok (.aload_n 0, 1) := by decide +kernel
theorem dX10_text_128 : decode cX10_text 128 = .ok (.iconst 1, 1) := by decide +kernel
theorem dX10_text_129 : decode cX10_text 129 = .ok (.invokevirtual 147, 3) := by decide +kernel
theorem dX10_text_132 : decode cX10_text 132 = .ok (.aload_n 0, 1) := by decide +kernel
theorem dX10_text_133 : decode cX10_text 133 = .ok (.getfield 83, 3) := by decide +kernel
theorem dX10_text_136 : decode cX10_text 136 = .ok (.ifCond .ne 22, 3) := by decide +kernel
theorem dX10_text_139 : decode cX10_text 139 = .ok (.aload_n 0, 1) := by decide +kernel
theorem dX10_text_140 : decode cX10_text 140 = .ok (.getfield 172, 3) := by decide +kernel
theorem dX10_text_143 : decode cX10_text 143 = .ok (.ifCond .eq 10, 3) := by decide +kernel
theorem dX10_text_146 : decode cX10_text 146 = .ok (.aload_n 0, 1) := by decide +kernel
theorem dX10_text_147 : decode cX10_text 147 = .ok (.getfield 175, 3) := by decide +kernel
theorem dX10_text_150 : decode cX10_text 150 = .ok (.ifCond .ne 8, 3) := by decide +kernel
theorem dX10_text_153 : decode cX10_text 153 = .ok (.aload_n 0, 1) := by decide +kernel
theorem dX10_text_154 : decode cX10_text 154 = .ok (.iconst 5, 1) := by decide +kernel
theorem dX10_text_155 : decode cX10_text 155 = .ok (.invokevirtual 147, 3) := by decide +kernel
theorem dX10_text_158 : decode cX10_text 158 = .ok (.aload_n 0, 1) := by decide +kernel
theorem dX10_text_159 : decode cX10_text 159 = .ok (.getfield 83, 3) := by decide +kernel
theorem dX10_text_162 : decode cX10_text 162 = .ok (.ifCond .le 18, 3) := by decide +kernel
theorem dX10_text_165 : decode cX10_text 165 = .ok (.aload_n 0, 1) := by decide +kernel
theorem dX10_text_166 : decode cX10_text 166 = .ok (.iconst 4, 1) := by decide +kernel
theorem dX10_text_167 : decode cX10_text 167 = .ok (.putfield 77, 3) := by decide +kernel
theorem dX10_text_170 : decode cX10_text 170 = .ok (.aload_n 0, 1) := by decide +kernel
theorem dX10_text_171 : decode cX10_text 171 = .ok (.aload_n 0, 1) := by decide +kernel
theorem dX10_text_172 : decode cX10_text 172 = .ok (.getfield 89, 3) := by decide +kernel
theorem dX10_text_175 : decode cX10_text 175 = .ok (.putfield 9, 3) := by decide +kernel
theorem dX10_text_178 : decode cX10_text 178 = .ok (.iconst (-1), 1) := by decide +kernel
theorem dX10_text_179 : decode cX10_text 179 = .ok (.ireturn, 1) := by decide +kernel
theorem dX10_text_180 : decode cX10_text 180 = .ok (.aload_n 0, 1) := by decide +kernel
theorem dX10_text_181 : decode cX10_text 181 = .ok (.invokevirtual 239, 3) := by decide +kernel
theorem dX10_text_184 : decode cX10_text 184 = .ok (.aload_n 0, 1) := by decide +kernel
theorem dX10_text_185 : decode cX10_text 185 = .ok (.aload_n 0, 1) := by decide +kernel
theorem dX10_text_186 : decode cX10_text 186 = .ok (.getfield 242, 3) := by decide +kernel
theorem dX10_text_189 : decode cX10_text 189 = .ok (.invokevirtual 245, 3) := by decide +kernel
theorem dX10_text_192 : decode cX10_text 192 = .ok (.ireturn, 1) := by decide +kernel
theorem dX10_becomes_0 : decode cX10_becomes 0 = .ok (.aload_n 0, 1) := by decide +kernel
theorem dX10_becomes_1 : decode cX10_becomes 1 = .ok (.aload_n 0, 1) := by decide +kernel
theorem dX10_becomes_2 : decode cX10_becomes 2 = .ok (.getfield 172, 3) := by decide +kernel
theorem dX10_becomes_5 : decode cX10_becomes 5 = .ok (.putfield 248, 3) := by decide +kernel
theorem dX10_becomes_8 : decode cX10_becomes 8 = .ok (.aload_n 0, 1) := by decide +kernel
theorem dX10_becomes_9 : decode cX10_becomes 9 = .ok (.aload_n 0, 1) := by decide +kernel
theorem dX10_becomes_10 : decode cX10_becomes 10 = .ok (.getfield 175, 3) := by decide +kernel
theorem dX10_becomes_13 : decode cX10_becomes 13 = .ok (.putfield 242, 3) := by decide +kernel
theorem dX10_becomes_16 : decode cX10_becomes 16 = .ok (.aload_n 0, 1) := by decide +kernel
theorem dX10_becomes_17 : decode cX10_becomes 17 = .ok (.aload_n 0, 1) := by decide +kernel
theorem dX10_becomes_18 : decode cX10_becomes 18 = .ok (.getfield 210, 3) := by decide +kernel
theorem dX10_becomes_21 : decode cX10_becomes 21 = .ok (.putfield 251, 3) := by decide +kernel
theorem dX10_becomes_24 : decode cX10_becomes 24 = .ok (.iconst 0, 1) := by decide +kernel
theorem dX10_becomes_25 : decode cX10_becomes 25 = .ok (.istore_n 1, 1) := by decide +kernel
theorem dX10_becomes_26 : decode cX10_becomes 26 = .ok (.iload_n 1, 1) := by decide +kernel
theorem dX10_becomes_27 : decode cX10_becomes 27 = .ok (.iconst 3, 1) := by decide +kernel
theorem dX10_becomes_28 : decode cX10_becomes 28 = .ok (.if_icmp .ge 23, 3) := by decide +kernel
theorem dX10_becomes_31 : decode cX10_becomes 31 = .ok (.aload_n 0, 1) := by decide +kernel
theorem dX10_becomes_32 : decode cX10_becomes 32 = .ok (.getfield 17, 3) := by decide +kernel
theorem dX10_becomes_35 : decode cX10_becomes 35 = .ok (.iload_n 1, 1) := by decide +kernel
theorem dX10_becomes_36 : decode cX10_becomes 36 = .ok (.aload_n 0, 1) := by decide +kernel
theorem dX10_becomes_37 : decode cX10_becomes 37 = .ok (.getfield 17, 3) := by decide +kernel
theorem dX10_becomes_40 : decode cX10_becomes 40 = .ok (.iconst 3, 1) := by decide +kernel
theorem dX10_becomes_41 : decode cX10_becomes 41 = .ok (.iload_n 1, 1) := by decide +kernel
theorem dX10_becomes_42 : decode cX10_becomes 42 = .ok (.iadd, 1) := by decide +kernel
theorem dX10_becomes_43 : decode cX10_becomes 43 = .ok (.laload, 1) := by decide +kernel
theorem dX10_becomes_44 : decode cX10_becomes 44 = .ok (.lastore, 1) := by decide +kernel
theorem dX10_becomes_45 : decode cX10_becomes 45 = .ok (.iinc 1 1, 3) := by decide +kernel
theorem dX10_becomes_48 : decode cX10_becomes 48 = .ok (.goto (-22), 3) := by decide +kernel
theorem dX10_becomes_51 : decode cX10_becomes 51 = .ok (.iconst 0, 1) := by decide +kernel
theorem dX10_becomes_52 : decode cX10_becomes 52 = .ok (.istore_n 1, 1) := by decide +kernel
theorem dX10_becomes_53 : decode cX10_becomes 53 = .ok (.iload_n 1, 1) := by decide +kernel
theorem dX10_becomes_54 : decode cX10_becomes 54 = .ok (.bipush 6, 2) := by decide +kernel
theorem dX10_becomes_56 : decode cX10_becomes 56 = .ok (.if_icmp .ge 69, 3) := by decide +kernel
theorem dX10_becomes_59 : decode cX10_becomes 59 = .ok (.aload_n 0, 1) := by decide +kernel
theorem dX10_becomes_60 : decode cX10_becomes 60 = .ok (.getfield 21, 3) := by decide +kernel
theorem dX10_becomes_63 : decode cX10_becomes 63 = .ok (.iload_n 1, 1) := by decide +kernel
theorem dX10_becomes_64 : decode cX10_becomes 64 = .ok (.aload_n 0, 1) := by decide +kernel
theorem dX10_becomes_65 : decode cX10_becomes 65 = .ok (.getfield 21, 3) := by decide +kernel
theorem dX10_becomes_68 : decode cX10_becomes 68 = .ok (.bipush 6, 2) := by decide +kernel
theorem dX10_becomes_70 : decode cX10_becomes 70 = .ok (.iload_n 1, 1) := by decide +kernel
theorem dX10_becomes_71 : decode cX10_becomes 71 = .ok (.iadd, 1) := by decide +kernel
theorem dX10_becomes_72 : decode cX10_becomes 72 = .ok (.laload, 1) := by decide +kernel
theorem dX10_becomes_73 : decode cX10_becomes 73 = .ok (.lastore, 1) := by decide +kernel
theorem dX10_becomes_74 : decode cX10_becomes 74 = .ok (.aload_n 0, 1) := by decide +kernel
theorem dX10_becomes_75 : decode cX10_becomes 75 = .ok (.getfield 24, 3) := by decide +kernel
theorem dX10_becomes_78 : decode cX10_becomes 78 = .ok (.iload_n 1, 1) := by decide +kernel
theorem dX10_becomes_79 : decode cX10_becomes 79 = .ok (.aload_n 0, 1) := by decide +kernel
theorem dX10_becomes_80 : decode cX10_becomes 80 = .ok (.getfield 24, 3) := by decide +kernel
theorem dX10_becomes_83 : decode cX10_becomes 83 = .ok (.bipush 6, 2) := by decide +kernel
theorem dX10_becomes_85 : decode cX10_becomes 85 = .ok (.iload_n 1, 1) := by decide +kernel
theorem dX10_becomes_86 : decode cX10_becomes 86 = .ok (.iadd, 1) := by decide +kernel
theorem dX10_becomes_87 : decode cX10_becomes 87 = .ok (.iaload, 1) := by decide +kernel
theorem dX10_becomes_88 : decode cX10_becomes 88 = .ok (.iastore, 1) := by decide +kernel
theorem dX10_becomes_89 : decode cX10_becomes 89 = .ok (.aload_n 0, 1) := by decide +kernel
theorem dX10_becomes_90 : decode cX10_becomes 90 = .ok (.getfield 27, 3) := by decide +kernel
theorem dX10_becomes_93 : decode cX10_becomes 93 = .ok (.iload_n 1, 1) := by decide +kernel
theorem dX10_becomes_94 : decode cX10_becomes 94 = .ok (.aload_n 0, 1) := by decide +kernel
theorem dX10_becomes_95 : decode cX10_becomes 95 = .ok (.getfield 27, 3) := by decide +kernel
theorem dX10_becomes_98 : decode cX10_becomes 98 = .ok (.bipush 6, 2) := by decide +kernel
theorem dX10_becomes_100 : decode cX10_becomes 100 = .ok (.iload_n 1, 1) := by decide +kernel
theorem dX10_becomes_101 : decode cX10_becomes 101 = .ok (.iadd, 1) := by decide +kernel
theorem dX10_becomes_102 : decode cX10_becomes 102 = .ok (.iaload, 1) := by decide +kernel
theorem dX10_becomes_103 : decode cX10_becomes 103 = .ok (.iastore, 1) := by decide +kernel
theorem dX10_becomes_104 : decode cX10_becomes 104 = .ok (.aload_n 0, 1) := by decide +kernel
theorem dX10_becomes_105 : decode cX10_becomes 105 = .ok (.getfield 30, 3) := by decide +kernel
theorem dX10_becomes_108 : decode cX10_becomes 108 = .ok (.iload_n 1, 1) := by decide +kernel
theorem dX10_becomes_109 : decode cX10_becomes 109 = .ok (.aload_n 0, 1) := by decide +kernel
theorem dX10_becomes_110 : decode cX10_becomes 110 = .ok (.getfield 30, 3) := by decide +kernel
theorem dX10_becomes_113 : decode cX10_becomes 113 = .ok (.bipush 6, 2) := by decide +kernel
theorem dX10_becomes_115 : decode cX10_becomes 115 = .ok (.iload_n 1, 1) := by decide +kernel
theorem dX10_becomes_116 : decode cX10_becomes 116 = .ok (.iadd, 1) := by decide +kernel
theorem dX10_becomes_117 : decode cX10_becomes 117 = .ok (.iaload, 1) := by decide +kernel
theorem dX10_becomes_118 : decode cX10_becomes 118 = .ok (.iastore, 1) := by decide +kernel
theorem dX10_becomes_119 : decode cX10_becomes 119 = .ok (.iinc 1 1, 3) := by decide +kernel
theorem dX10_becomes_122 : decode cX10_becomes 122 = .ok (.goto (-69), 3) := by decide +kernel
theorem dX10_becomes_125 : decode cX10_becomes 125 = .ok (.iconst 0, 1) := by decide +kernel
theorem dX10_becomes_126 : decode cX10_becomes 126 = .ok (.istore_n 1, 1) := by decide +kernel
theorem dX10_becomes_127 : decode cX10_becomes 127 = .ok (.iload_n 1, 1) := by decide +kernel
theorem dX10_becomes_128 : decode cX10_becomes 128 = .ok (.iconst 4, 1) := by decide +kernel
theorem dX10_becomes_129 : decode cX10_becomes 129 = .ok (.if_icmp .ge 51, 3) := by decide +kernel
theorem dX10_becomes_132 : decode cX10_becomes 132 = .ok (.aload_n 0, 1) := by decide +kernel
theorem dX10_becomes_133 : decode cX10_becomes 133 = .ok (.getfield 33, 3) := by decide +kernel
theorem dX10_becomes_136 : decode cX10_becomes 136 = .ok (.iload_n 1, 1) := by decide +kernel
theorem dX10_becomes_137 : decode cX10_becomes 137 = .ok (.aload_n 0, 1) := by decide +kernel
theorem dX10_becomes_138 : decode cX10_becomes 138 = .ok (.getfield 33, 3) := by decide +kernel
theorem dX10_becomes_141 : decode cX10_becomes 141 = .ok (.iconst 4, 1) := by decide +kernel
theorem dX10_becomes_142 : decode cX10_becomes 142 = .ok (.iload_n 1, 1) := by decide +kernel
theorem dX10_becomes_143 : decode cX10_becomes 143 = .ok (.iadd, 1) := by decide +kernel
theorem dX10_becomes_144 : decode cX10_becomes 144 = .ok (.iaload, 1) := by decide +kernel
theorem dX10_becomes_145 : decode cX10_becomes 145 = .ok (.iastore, 1) := by decide +kernel
theorem dX10_becomes_146 : decode cX10_becomes 146 = .ok (.aload_n 0, 1) := by decide +kernel
theorem dX10_becomes_147 : decode cX10_becomes 147 = .ok (.getfield 36, 3) := by decide +kernel
theorem dX10_becomes_150 : decode cX10_becomes 150 = .ok (.iload_n 1, 1) := by decide +kernel
theorem dX10_becomes_151 : decode cX10_becomes 151 = .ok (.aload_n 0, 1) := by decide +kernel
theorem dX10_becomes_152 : decode cX10_becomes 152 = .ok (.getfield 36, 3) := by decide +kernel
theorem dX10_becomes_155 : decode cX10_becomes 155 = .ok (.iconst 4, 1) := by decide +kernel
theorem dX10_becomes_156 : decode cX10_becomes 156 = .ok (.iload_n 1, 1) := by decide +kernel
theorem dX10_becomes_157 : decode cX10_becomes 157 = .ok (.iadd, 1) := by decide +kernel
theorem dX10_becomes_158 : decode cX10_becomes 158 = .ok (.iaload, 1) := by decide +kernel
theorem dX10_becomes_159 : decode cX10_becomes 159 = .ok (.iastore, 1) := by decide +kernel
theorem dX10_becomes_160 : decode cX10_becomes 160 = .ok (.aload_n 0, 1) := by decide +kernel
theorem dX10_becomes_161 : decode cX10_becomes 161 = .ok (.getfield 39, 3) := by decide +kernel
theorem dX10_becomes_164 : decode cX10_becomes 164 = .ok (.iload_n 1, 1) := by decide +kernel
theorem dX10_becomes_165 : decode cX10_becomes 165 = .ok (.aload_n 0, 1) := by decide +kernel
theorem dX10_becomes_166 : decode cX10_becomes 166 = .ok (.getfield 39, 3) := by decide +kernel
theorem dX10_becomes_169 : decode cX10_becomes 169 = .ok (.iconst 4, 1) := by decide +kernel
theorem dX10_becomes_170 : decode cX10_becomes 170 = .ok (.iload_n 1, 1) := by decide +kernel
theorem dX10_becomes_171 : decode cX10_becomes 171 = .ok (.iadd, 1) := by decide +kernel
theorem dX10_becomes_172 : decode cX10_becomes 172 = .ok (.iaload, 1) := by decide +kernel
theorem dX10_becomes_173 : decode cX10_becomes 173 = .ok (.iastore, 1) := by decide +kernel
theorem dX10_becomes_174 : decode cX10_becomes 174 = .ok (.iinc 1 1, 3) := by decide +kernel
theorem dX10_becomes_177 : decode cX10_becomes 177 = .ok (.goto (-50), 3) := by decide +kernel
theorem dX10_becomes_180 : decode cX10_becomes 180 = .ok (.iconst 0, 1) := by decide +kernel
theorem dX10_becomes_181 : decode cX10_becomes 181 = .ok (.istore_n 1, 1) := by decide +kernel
theorem dX10_becomes_182 : decode cX10_becomes 182 = .ok (.iload_n 1, 1) := by decide +kernel
theorem dX10_becomes_183 : decode cX10_becomes 183 = .ok (.bipush 37, 2) := by decide +kernel
theorem dX10_becomes_185 : decode cX10_becomes 185 = .ok (.if_icmp .ge 21, 3) := by decide +kernel
theorem dX10_becomes_188 : decode cX10_becomes 188 = .ok (.aload_n 0, 1) := by decide +kernel
theorem dX10_becomes_189 : decode cX10_becomes 189 = .ok (.getfield 42, 3) := by decide +kernel
theorem dX10_becomes_192 : decode cX10_becomes 192 = .ok (.iload_n 1, 1) := by decide +kernel
theorem dX10_becomes_193 : decode cX10_becomes 193 = .ok (.aload_n 0, 1) := by decide +kernel
theorem dX10_becomes_194 : decode cX10_becomes 194 = .ok (.getfield 45, 3) := by decide +kernel
theorem dX10_becomes_197 : decode cX10_becomes 197 = .ok (.iload_n 1, 1) := by decide +kernel
theorem dX10_becomes_198 : decode cX10_becomes 198 = .ok (.iaload, 1) := by decide +kernel
theorem dX10_becomes_199 : decode cX10_becomes 199 = .ok (.iastore, 1) := by decide +kernel
theorem dX10_becomes_200 : decode cX10_becomes 200 = .ok (.iinc 1 1, 3) := by decide +kernel
theorem dX10_becomes_203 : decode cX10_becomes 203 = .ok (.goto (-21), 3) := by decide +kernel
theorem dX10_becomes_206 : decode cX10_becomes 206 = .ok (.aload_n 0, 1) := by decide +kernel
theorem dX10_becomes_207 : decode cX10_becomes 207 = .ok (.iconst 0, 1) := by decide +kernel
theorem dX10_becomes_208 : decode cX10_becomes 208 = .ok (.putfield 254, 3) := by decide +kernel
theorem dX10_becomes_211 : decode cX10_becomes 211 = .ok (.aload_n 0, 1) := by decide +kernel
theorem dX10_becomes_212 : decode cX10_becomes 212 = .ok (.getfield 66, 3) := by decide +kernel
theorem dX10_becomes_215 : decode cX10_becomes 215 = .ok (.iconst 0, 1) := by decide +kernel
theorem dX10_becomes_216 : decode cX10_becomes 216 = .ok (.iconst 0, 1) := by decide +kernel
theorem dX10_becomes_217 : decode cX10_becomes 217 = .ok (.bastore, 1) := by decide +kernel
theorem dX10_becomes_218 : decode cX10_becomes 218 = .ok (.aload_n 0, 1) := by decide +kernel
theorem dX10_becomes_219 : decode cX10_becomes 219 = .ok (.getfield 66, 3) := by decide +kernel
theorem dX10_becomes_222 : decode cX10_becomes 222 = .ok (.iconst 1, 1) := by decide +kernel
theorem dX10_becomes_223 : decode cX10_becomes 223 = .ok (.iconst 0, 1) := by decide +kernel
theorem dX10_becomes_224 : decode cX10_becomes 224 = .ok (.bastore, 1) := by decide +kernel
theorem dX10_becomes_225 : decode cX10_becomes 225 = .ok (.aload_n 0, 1) := by decide +kernel
theorem dX10_becomes_226 : decode cX10_becomes 226 = .ok (.iconst 1, 1) := by decide +kernel
theorem dX10_becomes_227 : decode cX10_becomes 227 = .ok (.putfield 257, 3) := by decide +kernel
theorem dX10_becomes_230 : decode cX10_becomes 230 = .ok (.aload_n 0, 1) := by decide +kernel
theorem dX10_becomes_231 : decode cX10_becomes 231 = .ok (.aload_n 0, 1) := by decide +kernel
theorem dX10_becomes_232 : decode cX10_becomes 232 = .ok (.getfield 57, 3) := by decide +kernel
theorem dX10_becomes_235 : decode cX10_becomes 235 = .ok (.invokevirtual 260, 3) := by decide +kernel
theorem dX10_becomes_238 : decode cX10_becomes 238 = .ok (.return_, 1) := by decide +kernel
theorem dX10_of_0 : decode cX10_of 0 = .ok (.iconst 3, 1) := by decide +kernel
theorem dX10_of_1 : decode cX10_of 1 = .ok (.bipush 9, 2) := by decide +kernel
theorem dX10_of_3 : decode cX10_of 3 = .ok (.iload_n 0, 1) := by decide +kernel
theorem dX10_of_4 : decode cX10_of 4 = .ok (.imul, 1) := by decide +kernel
theorem dX10_of_5 : decode cX10_of 5 = .ok (.iadd, 1) := by decide +kernel
theorem dX10_of_6 : decode cX10_of 6 = .ok (.iload_n 1, 1) := by decide +kernel
theorem dX10_of_7 : decode cX10_of 7 = .ok (.iadd, 1) := by decide +kernel
theorem dX10_of_8 : decode cX10_of 8 = .ok (.ireturn, 1) := by decide +kernel
theorem dX10_ofKind_0 : decode cX10_ofKind 0 = .ok (.bipush 75, 2) := by decide +kernel
theorem dX10_ofKind_2 : decode cX10_ofKind 2 = .ok (.iconst 5, 1) := by decide +kernel
theorem dX10_ofKind_3 : decode cX10_ofKind 3 = .ok (.iload_n 0, 1) := by decide +kernel
theorem dX10_ofKind_4 : decode cX10_ofKind 4 = .ok (.imul, 1) := by decide +kernel
theorem dX10_ofKind_5 : decode cX10_ofKind 5 = .ok (.iadd, 1) := by decide +kernel
theorem dX10_ofKind_6 : decode cX10_ofKind 6 = .ok (.iload_n 1, 1) := by decide +kernel
theorem dX10_ofKind_7 : decode cX10_ofKind 7 = .ok (.iadd, 1) := by decide +kernel
theorem dX10_ofKind_8 : decode cX10_ofKind 8 = .ok (.ireturn, 1) := by decide +kernel
theorem dX10_store_0 : decode cX10_store 0 = .ok (.bipush 57, 2) := by decide +kernel
theorem dX10_store_2 : decode cX10_store 2 = .ok (.iconst 3, 1) := by decide +kernel
theorem dX10_store_3 : decode cX10_store 3 = .ok (.iload_n 0, 1) := by decide +kernel
theorem dX10_store_4 : decode cX10_store 4 = .ok (.imul, 1) := by decide +kernel
theorem dX10_store_5 : decode cX10_store 5 = .ok (.iadd, 1) := by decide +kernel
theorem dX10_store_6 : decode cX10_store 6 = .ok (.iload_n 1, 1) := by decide +kernel
theorem dX10_store_7 : decode cX10_store 7 = .ok (.iadd, 1) := by decide +kernel
theorem dX10_store_8 : decode cX10_store 8 = .ok (.ireturn, 1) := by decide +kernel
theorem dX10_begins_0 : decode cX10_begins 0 = .ok (.iconst 0, 1) := by decide +kernel
theorem dX10_begins_1 : decode cX10_begins 1 = .ok (.istore_n 2, 1) := by decide +kernel
theorem dX10_begins_2 : decode cX10_begins 2 = .ok (.iload_n 2, 1) := by decide +kernel
theorem dX10_begins_3 : decode cX10_begins 3 = .ok (.bipush 99, 2) := by decide +kernel
theorem dX10_begins_5 : decode cX10_begins 5 = .ok (.if_icmp .ge 13, 3) := by decide +kernel
theorem dX10_begins_8 : decode cX10_begins 8 = .ok (.aload_n 1, 1) := by decide +kernel
theorem dX10_begins_9 : decode cX10_begins 9 = .ok (.iload_n 2, 1) := by decide +kernel
theorem dX10_begins_10 : decode cX10_begins 10 = .ok (.iconst 0, 1) := by decide +kernel
theorem dX10_begins_11 : decode cX10_begins 11 = .ok (.iastore, 1) := by decide +kernel
theorem dX10_begins_12 : decode cX10_begins 12 = .ok (.iinc 2 1, 3) := by decide +kernel
theorem dX10_begins_15 : decode cX10_begins 15 = .ok (.goto (-13), 3) := by decide +kernel
theorem dX10_begins_18 : decode cX10_begins 18 = .ok (.aload_n 1, 1) := by decide +kernel
theorem dX10_begins_19 : decode cX10_begins 19 = .ok (.iconst 1, 1) := by decide +kernel
theorem dX10_begins_20 : decode cX10_begins 20 = .ok (.iconst (-1), 1) := by decide +kernel
theorem dX10_begins_21 : decode cX10_begins 21 = .ok (.iastore, 1) := by decide +kernel
theorem dX10_begins_22 : decode cX10_begins 22 = .ok (.iconst 0, 1) := by decide +kernel
theorem dX10_begins_23 : decode cX10_begins 23 = .ok (.istore_n 2, 1) := by decide +kernel
theorem dX10_begins_24 : decode cX10_begins 24 = .ok (.iload_n 2, 1) := by decide +kernel
theorem dX10_begins_25 : decode cX10_begins 25 = .ok (.iconst 3, 1) := by decide +kernel
theorem dX10_begins_26 : decode cX10_begins 26 = .ok (.if_icmp .ge 17, 3) := by decide +kernel
theorem dX10_begins_29 : decode cX10_begins 29 = .ok (.aload_n 1, 1) := by decide +kernel
theorem dX10_begins_30 : decode cX10_begins 30 = .ok (.bipush 96, 2) := by decide +kernel
theorem dX10_begins_32 : decode cX10_begins 32 = .ok (.iload_n 2, 1) := by decide +kernel
theorem dX10_begins_33 : decode cX10_begins 33 = .ok (.iadd, 1) := by decide +kernel
theorem dX10_begins_34 : decode cX10_begins 34 = .ok (.bipush (-2), 2) := by decide +kernel
theorem dX10_begins_36 : decode cX10_begins 36 = .ok (.iastore, 1) := by decide +kernel
theorem dX10_begins_37 : decode cX10_begins 37 = .ok (.iinc 2 1, 3) := by decide +kernel
theorem dX10_begins_40 : decode cX10_begins 40 = .ok (.goto (-16), 3) := by decide +kernel
theorem dX10_begins_43 : decode cX10_begins 43 = .ok (.iconst 0, 1) := by decide +kernel
theorem dX10_begins_44 : decode cX10_begins 44 = .ok (.istore_n 2, 1) := by decide +kernel
theorem dX10_begins_45 : decode cX10_begins 45 = .ok (.iload_n 2, 1) := by decide +kernel
theorem dX10_begins_46 : decode cX10_begins 46 = .ok (.bipush 6, 2) := by decide +kernel
theorem dX10_begins_48 : decode cX10_begins 48 = .ok (.if_icmp .ge 27, 3) := by decide +kernel
theorem dX10_begins_51 : decode cX10_begins 51 = .ok (.aload_n 1, 1) := by decide +kernel
theorem dX10_begins_52 : decode cX10_begins 52 = .ok (.iload_n 2, 1) := by decide +kernel
theorem dX10_begins_53 : decode cX10_begins 53 = .ok (.iconst 1, 1) := by decide +kernel
theorem dX10_begins_54 : decode cX10_begins 54 = .ok (.invokestatic 264, 3) := by decide +kernel
theorem dX10_begins_57 : decode cX10_begins 57 = .ok (.bipush (-2), 2) := by decide +kernel
theorem dX10_begins_59 : decode cX10_begins 59 = .ok (.iastore, 1) := by decide +kernel
theorem dX10_begins_60 : decode cX10_begins 60 = .ok (.aload_n 1, 1) := by decide +kernel
theorem dX10_begins_61 : decode cX10_begins 61 = .ok (.iload_n 2, 1) := by decide +kernel
theorem dX10_begins_62 : decode cX10_begins 62 = .ok (.iconst 3, 1) := by decide +kernel
theorem dX10_begins_63 : decode cX10_begins 63 = .ok (.invokestatic 264, 3) := by decide +kernel
theorem dX10_begins_66 : decode cX10_begins 66 = .ok (.bipush (-2), 2) := by decide +kernel
theorem dX10_begins_68 : decode cX10_begins 68 = .ok (.iastore, 1) := by decide +kernel
theorem dX10_begins_69 : decode cX10_begins 69 = .ok (.iinc 2 1, 3) := by decide +kernel
theorem dX10_begins_72 : decode cX10_begins 72 = .ok (.goto (-27), 3) := by decide +kernel
theorem dX10_begins_75 : decode cX10_begins 75 = .ok (.return_, 1) := by decide +kernel
theorem dX10_atWork_0 : decode cX10_atWork 0 = .ok (.aload_n 1, 1) := by decide +kernel
theorem dX10_atWork_1 : decode cX10_atWork 1 = .ok (.iload_n 2, 1) := by decide +kernel
theorem dX10_atWork_2 : decode cX10_atWork 2 = .ok (.iconst 0, 1) := by decide +kernel
theorem dX10_atWork_3 : decode cX10_atWork 3 = .ok (.invokestatic 264, 3) := by decide +kernel
theorem dX10_atWork_6 : decode cX10_atWork 6 = .ok (.iaload, 1) := by decide +kernel
theorem dX10_atWork_7 : decode cX10_atWork 7 = .ok (.iconst 1, 1) := by decide +kernel
theorem dX10_atWork_8 : decode cX10_atWork 8 = .ok (.if_icmp .ne 18, 3) := by decide +kernel
theorem dX10_atWork_11 : decode cX10_atWork 11 = .ok (.aload_n 1, 1) := by decide +kernel
theorem dX10_atWork_12 : decode cX10_atWork 12 = .ok (.iload_n 2, 1) := by decide +kernel
theorem dX10_atWork_13 : decode cX10_atWork 13 = .ok (.iconst 1, 1) := by decide +kernel
theorem dX10_atWork_14 : decode cX10_atWork 14 = .ok (.invokestatic 264, 3) := by decide +kernel
theorem dX10_atWork_17 : decode cX10_atWork 17 = .ok (.iaload, 1) := by decide +kernel
theorem dX10_atWork_18 : decode cX10_atWork 18 = .ok (.iload_n 3, 1) := by decide +kernel
theorem dX10_atWork_19 : decode cX10_atWork 19 = .ok (.if_icmp .ne 7, 3) := by decide +kernel
theorem dX10_atWork_22 : decode cX10_atWork 22 = .ok (.iconst 1, 1) := by decide +kernel
theorem dX10_atWork_23 : decode cX10_atWork 23 = .ok (.goto 4, 3) := by decide +kernel
theorem dX10_atWork_26 : decode cX10_atWork 26 = .ok (.iconst 0, 1) := by decide +kernel
theorem dX10_atWork_27 : decode cX10_atWork 27 = .ok (.ireturn, 1) := by decide +kernel
theorem dX10_free_0 : decode cX10_free 0 = .ok (.aload_n 2, 1) := by decide +kernel
theorem dX10_free_1 : decode cX10_free 1 = .ok (.iconst 3, 1) := by decide +kernel
theorem dX10_free_2 : decode cX10_free 2 = .ok (.iload_n 3, 1) := by decide +kernel
theorem dX10_free_3 : decode cX10_free 3 = .ok (.imul, 1) := by decide +kernel
theorem dX10_free_4 : decode cX10_free 4 = .ok (.iload 4, 2) := by decide +kernel
theorem dX10_free_6 : decode cX10_free 6 = .ok (.iadd, 1) := by decide +kernel
theorem dX10_free_7 : decode cX10_free 7 = .ok (.iaload, 1) := by decide +kernel
theorem dX10_free_8 : decode cX10_free 8 = .ok (.aload_n 1, 1) := by decide +kernel
theorem dX10_free_9 : decode cX10_free 9 = .ok (.iload_n 3, 1) := by decide +kernel
theorem dX10_free_10 : decode cX10_free 10 = .ok (.iload 4, 2) := by decide +kernel
theorem dX10_free_12 : decode cX10_free 12 = .ok (.invokestatic 267, 3) := by decide +kernel
theorem dX10_free_15 : decode cX10_free 15 = .ok (.iaload, 1) := by decide +kernel
theorem dX10_free_16 : decode cX10_free 16 = .ok (.isub, 1) := by decide +kernel
theorem dX10_free_17 : decode cX10_free 17 = .ok (.aload_n 0, 1) := by decide +kernel
theorem dX10_free_18 : decode cX10_free 18 = .ok (.aload_n 1, 1) := by decide +kernel
theorem dX10_free_19 : decode cX10_free 19 = .ok (.iload_n 3, 1) := by decide +kernel
theorem dX10_free_20 : decode cX10_free 20 = .ok (.iload 4, 2) := by decide +kernel
theorem dX10_free_22 : decode cX10_free 22 = .ok (.invokevirtual 270, 3) := by decide +kernel
theorem dX10_free_25 : decode cX10_free 25 = .ok (.isub, 1) := by decide +kernel
theorem dX10_free_26 : decode cX10_free 26 = .ok (.istore 5, 2) := by decide +kernel
theorem dX10_free_28 : decode cX10_free 28 = .ok (.iload 5, 2) := by decide +kernel
theorem dX10_free_30 : decode cX10_free 30 = .ok (.ifCond .le 8, 3) := by decide +kernel
theorem dX10_free_33 : decode cX10_free 33 = .ok (.iload 5, 2) := by decide +kernel
theorem dX10_free_35 : decode cX10_free 35 = .ok (.goto 4, 3) := by decide +kernel
theorem dX10_free_38 : decode cX10_free 38 = .ok (.iconst 0, 1) := by decide +kernel
theorem dX10_free_39 : decode cX10_free 39 = .ok (.ireturn, 1) := by decide +kernel
theorem dX10_comeIn_0 : decode cX10_comeIn 0 = .ok (.iconst 0, 1) := by decide +kernel
theorem dX10_comeIn_1 : decode cX10_comeIn 1 = .ok (.istore_n 3, 1) := by decide +kernel
theorem dX10_comeIn_2 : decode cX10_comeIn 2 = .ok (.iconst 0, 1) := by decide +kernel
theorem dX10_comeIn_3 : decode cX10_comeIn 3 = .ok (.istore 4, 2) := by decide +kernel
theorem dX10_comeIn_5 : decode cX10_comeIn 5 = .ok (.iload 4, 2) := by decide +kernel
theorem dX10_comeIn_7 : decode cX10_comeIn 7 = .ok (.aload_n 0, 1) := by decide +kernel
theorem dX10_comeIn_8 : decode cX10_comeIn 8 = .ok (.getfield 251, 3) := by decide +kernel
theorem dX10_comeIn_11 : decode cX10_comeIn 11 = .ok (.if_icmp .ge 59, 3) := by decide +kernel
theorem dX10_comeIn_14 : decode cX10_comeIn 14 = .ok (.iload_n 3, 1) := by decide +kernel
theorem dX10_comeIn_15 : decode cX10_comeIn 15 = .ok (.aload_n 0, 1) := by decide +kernel
theorem dX10_comeIn_16 : decode cX10_comeIn 16 = .ok (.getfield 33, 3) := by decide +kernel
theorem dX10_comeIn_19 : decode cX10_comeIn 19 = .ok (.iload 4, 2) := by decide +kernel
theorem dX10_comeIn_21 : decode cX10_comeIn 21 = .ok (.iaload, 1) := by decide +kernel
theorem dX10_comeIn_22 : decode cX10_comeIn 22 = .ok (.iload_n 1, 1) := by decide +kernel
theorem dX10_comeIn_23 : decode cX10_comeIn 23 = .ok (.if_icmp .ne 38, 3) := by decide +kernel
theorem dX10_comeIn_26 : decode cX10_comeIn 26 = .ok (.iload_n 2, 1) := by decide +kernel
theorem dX10_comeIn_27 : decode cX10_comeIn 27 = .ok (.aload_n 0, 1) := by decide +kernel
theorem dX10_comeIn_28 : decode cX10_comeIn 28 = .ok (.getfield 39, 3) := by decide +kernel
theorem dX10_comeIn_31 : decode cX10_comeIn 31 = .ok (.iload 4, 2) := by decide +kernel
theorem dX10_comeIn_33 : decode cX10_comeIn 33 = .ok (.iaload, 1) := by decide +kernel
theorem dX10_comeIn_34 : decode cX10_comeIn 34 = .ok (.if_icmp .lt 27, 3) := by decide +kernel
theorem dX10_comeIn_37 : decode cX10_comeIn 37 = .ok (.iload_n 2, 1) := by decide +kernel
theorem dX10_comeIn_38 : decode cX10_comeIn 38 = .ok (.aload_n 0, 1) := by decide +kernel
theorem dX10_comeIn_39 : decode cX10_comeIn 39 = .ok (.getfield 39, 3) := by decide +kernel
theorem dX10_comeIn_42 : decode cX10_comeIn 42 = .ok (.iload 4, 2) := by decide +kernel
theorem dX10_comeIn_44 : decode cX10_comeIn 44 = .ok (.iaload, 1) := by decide +kernel
theorem dX10_comeIn_45 : decode cX10_comeIn 45 = .ok (.isub, 1) := by decide +kernel
theorem dX10_comeIn_46 : decode cX10_comeIn 46 = .ok (.aload_n 0, 1) := by decide +kernel
theorem dX10_comeIn_47 : decode cX10_comeIn 47 = .ok (.getfield 36, 3) := by decide +kernel
theorem dX10_comeIn_50 : decode cX10_comeIn 50 = .ok (.iload 4, 2) := by decide +kernel
theorem dX10_comeIn_52 : decode cX10_comeIn 52 = .ok (.iaload, 1) := by decide +kernel
theorem dX10_comeIn_53 : decode cX10_comeIn 53 = .ok (.irem, 1) := by decide +kernel
theorem dX10_comeIn_54 : decode cX10_comeIn 54 = .ok (.ifCond .ne 7, 3) := by decide +kernel
theorem dX10_comeIn_57 : decode cX10_comeIn 57 = .ok (.iconst 1, 1) := by decide +kernel
theorem dX10_comeIn_58 : decode cX10_comeIn 58 = .ok (.goto 4, 3) := by decide +kernel
theorem dX10_comeIn_61 : decode cX10_comeIn 61 = .ok (.iconst 0, 1) := by decide +kernel
theorem dX10_comeIn_62 : decode cX10_comeIn 62 = .ok (.iadd, 1) := by decide +kernel
theorem dX10_comeIn_63 : decode cX10_comeIn 63 = .ok (.istore_n 3, 1) := by decide +kernel
theorem dX10_comeIn_64 : decode cX10_comeIn 64 = .ok (.iinc 4 1, 3) := by decide +kernel
theorem dX10_comeIn_67 : decode cX10_comeIn 67 = .ok (.goto (-62), 3) := by decide +kernel
theorem dX10_comeIn_70 : decode cX10_comeIn 70 = .ok (.iload_n 3, 1) := by decide +kernel
theorem dX10_comeIn_71 : decode cX10_comeIn 71 = .ok (.ireturn, 1) := by decide +kernel
theorem dX10_ends_0 : decode cX10_ends 0 = .ok (.aload_n 1, 1) := by decide +kernel
theorem dX10_ends_1 : decode cX10_ends 1 = .ok (.iload_n 2, 1) := by decide +kernel
theorem dX10_ends_2 : decode cX10_ends 2 = .ok (.iconst 0, 1) := by decide +kernel
theorem dX10_ends_3 : decode cX10_ends 3 = .ok (.invokestatic 264, 3) := by decide +kernel
theorem dX10_ends_6 : decode cX10_ends 6 = .ok (.iaload, 1) := by decide +kernel
theorem dX10_ends_7 : decode cX10_ends 7 = .ok (.ifCond .eq 14, 3) := by decide +kernel
theorem dX10_ends_10 : decode cX10_ends 10 = .ok (.aload_n 1, 1) := by decide +kernel
theorem dX10_ends_11 : decode cX10_ends 11 = .ok (.iload_n 2, 1) := by decide +kernel
theorem dX10_ends_12 : decode cX10_ends 12 = .ok (.iconst 2, 1) := by decide +kernel
theorem dX10_ends_13 : decode cX10_ends 13 = .ok (.invokestatic 264, 3) := by decide +kernel
theorem dX10_ends_16 : decode cX10_ends 16 = .ok (.iaload, 1) := by decide +kernel
theorem dX10_ends_17 : decode cX10_ends 17 = .ok (.iload_n 3, 1) := by decide +kernel
theorem dX10_ends_18 : decode cX10_ends 18 = .ok (.if_icmp .eq 4, 3) := by decide +kernel
theorem dX10_ends_21 : decode cX10_ends 21 = .ok (.return_, 1) := by decide +kernel
theorem dX10_ends_22 : decode cX10_ends 22 = .ok (.aload_n 1, 1) := by decide +kernel
theorem dX10_ends_23 : decode cX10_ends 23 = .ok (.iload_n 2, 1) := by decide +kernel
theorem dX10_ends_24 : decode cX10_ends 24 = .ok (.iconst 0, 1) := by decide +kernel
theorem dX10_ends_25 : decode cX10_ends 25 = .ok (.invokestatic 264, 3) := by decide +kernel
theorem dX10_ends_28 : decode cX10_ends 28 = .ok (.iaload, 1) := by decide +kernel
theorem dX10_ends_29 : decode cX10_ends 29 = .ok (.iconst 1, 1) := by decide +kernel
theorem dX10_ends_30 : decode cX10_ends 30 = .ok (.if_icmp .ne 7, 3) := by decide +kernel
theorem dX10_ends_33 : decode cX10_ends 33 = .ok (.iconst 1, 1) := by decide +kernel
theorem dX10_ends_34 : decode cX10_ends 34 = .ok (.goto 4, 3) := by decide +kernel
theorem dX10_ends_37 : decode cX10_ends 37 = .ok (.iconst 0, 1) := by decide +kernel
theorem dX10_ends_38 : decode cX10_ends 38 = .ok (.istore 4, 2) := by decide +kernel
theorem dX10_ends_40 : decode cX10_ends 40 = .ok (.aload_n 1, 1) := by decide +kernel
theorem dX10_ends_41 : decode cX10_ends 41 = .ok (.iload_n 2, 1) := by decide +kernel
theorem dX10_ends_42 : decode cX10_ends 42 = .ok (.iconst 0, 1) := by decide +kernel
theorem dX10_ends_43 : decode cX10_ends 43 = .ok (.invokestatic 264, 3) := by decide +kernel
theorem dX10_ends_46 : decode cX10_ends 46 = .ok (.iconst 0, 1) := by decide +kernel
theorem dX10_ends_47 : decode cX10_ends 47 = .ok (.iastore, 1) := by decide +kernel
theorem dX10_ends_48 : decode cX10_ends 48 = .ok (.iload 4, 2) := by decide +kernel
theorem dX10_ends_50 : decode cX10_ends 50 = .ok (.ifCond .ne 4, 3) := by decide +kernel
theorem dX10_ends_53 : decode cX10_ends 53 = .ok (.return_, 1) := by decide +kernel
theorem dX10_ends_54 : decode cX10_ends 54 = .ok (.aload_n 1, 1) := by decide +kernel
theorem dX10_ends_55 : decode cX10_ends 55 = .ok (.iload_n 2, 1) := by decide +kernel
theorem dX10_ends_56 : decode cX10_ends 56 = .ok (.aload_n 1, 1) := by decide +kernel
theorem dX10_ends_57 : decode cX10_ends 57 = .ok (.iload_n 2, 1) := by decide +kernel
theorem dX10_ends_58 : decode cX10_ends 58 = .ok (.iconst 1, 1) := by decide +kernel
theorem dX10_ends_59 : decode cX10_ends 59 = .ok (.invokestatic 264, 3) := by decide +kernel
theorem dX10_ends_62 : decode cX10_ends 62 = .ok (.iaload, 1) := by decide +kernel
theorem dX10_ends_63 : decode cX10_ends 63 = .ok (.invokestatic 267, 3) := by decide +kernel
theorem dX10_ends_66 : decode cX10_ends 66 = .ok (.dup2, 1) := by decide +kernel
theorem dX10_ends_67 : decode cX10_ends 67 = .ok (.iaload, 1) := by decide +kernel
theorem dX10_ends_68 : decode cX10_ends 68 = .ok (.iconst 1, 1) := by decide +kernel
theorem dX10_ends_69 : decode cX10_ends 69 = .ok (.iadd, 1) := by decide +kernel
theorem dX10_ends_70 : decode cX10_ends 70 = .ok (.iastore, 1) := by decide +kernel
theorem dX10_ends_71 : decode cX10_ends 71 = .ok (.aload_n 1, 1) := by decide +kernel
theorem dX10_ends_72 : decode cX10_ends 72 = .ok (.iload_n 2, 1) := by decide +kernel
theorem dX10_ends_73 : decode cX10_ends 73 = .ok (.iconst 1, 1) := by decide +kernel
theorem dX10_ends_74 : decode cX10_ends 74 = .ok (.invokestatic 264, 3) := by decide +kernel
theorem dX10_ends_77 : decode cX10_ends 77 = .ok (.bipush (-2), 2) := by decide +kernel
theorem dX10_ends_79 : decode cX10_ends 79 = .ok (.iastore, 1) := by decide +kernel
theorem dX10_ends_80 : decode cX10_ends 80 = .ok (.aload_n 1, 1) := by decide +kernel
theorem dX10_ends_81 : decode cX10_ends 81 = .ok (.iload_n 2, 1) := by decide +kernel
theorem dX10_ends_82 : decode cX10_ends 82 = .ok (.iconst 4, 1) := by decide +kernel
theorem dX10_ends_83 : decode cX10_ends 83 = .ok (.invokestatic 264, 3) := by decide +kernel
theorem dX10_ends_86 : decode cX10_ends 86 = .ok (.dup2, 1) := by decide +kernel
theorem dX10_ends_87 : decode cX10_ends 87 = .ok (.iaload, 1) := by decide +kernel
theorem dX10_ends_88 : decode cX10_ends 88 = .ok (.iconst 1, 1) := by decide +kernel
theorem dX10_ends_89 : decode cX10_ends 89 = .ok (.iadd, 1) := by decide +kernel
theorem dX10_ends_90 : decode cX10_ends 90 = .ok (.iastore, 1) := by decide +kernel
theorem dX10_ends_91 : decode cX10_ends 91 = .ok (.aload_n 0, 1) := by decide +kernel
theorem dX10_ends_92 : decode cX10_ends 92 = .ok (.getfield 30, 3) := by decide +kernel
theorem dX10_ends_95 : decode cX10_ends 95 = .ok (.iload_n 2, 1) := by decide +kernel
theorem dX10_ends_96 : decode cX10_ends 96 = .ok (.iaload, 1) := by decide +kernel
theorem dX10_ends_97 : decode cX10_ends 97 = .ok (.ifCond .eq 20, 3) := by decide +kernel
theorem dX10_ends_100 : decode cX10_ends 100 = .ok (.aload_n 1, 1) := by decide +kernel
theorem dX10_ends_101 : decode cX10_ends 101 = .ok (.iload_n 2, 1) := by decide +kernel
theorem dX10_ends_102 : decode cX10_ends 102 = .ok (.iconst 4, 1) := by decide +kernel
theorem dX10_ends_103 : decode cX10_ends 103 = .ok (.invokestatic 264, 3) := by decide +kernel
theorem dX10_ends_106 : decode cX10_ends 106 = .ok (.iaload, 1) := by decide +kernel
theorem dX10_ends_107 : decode cX10_ends 107 = .ok (.aload_n 0, 1) := by decide +kernel
theorem dX10_ends_108 : decode cX10_ends 108 = .ok (.getfield 30, 3) := by decide +kernel
theorem dX10_ends_111 : decode cX10_ends 111 = .ok (.iload_n 2, 1) := by decide +kernel
theorem dX10_ends_112 : decode cX10_ends 112 = .ok (.iaload, 1) := by decide +kernel
theorem dX10_ends_113 : decode cX10_ends 113 = .ok (.irem, 1) := by decide +kernel
theorem dX10_ends_114 : decode cX10_ends 114 = .ok (.ifCond .eq 4, 3) := by decide +kernel
theorem dX10_ends_117 : decode cX10_ends 117 = .ok (.return_, 1) := by decide +kernel
theorem dX10_ends_118 : decode cX10_ends 118 = .ok (.aload_n 1, 1) := by decide +kernel
theorem dX10_ends_119 : decode cX10_ends 119 = .ok (.iload_n 2, 1) := by decide +kernel
theorem dX10_ends_120 : decode cX10_ends 120 = .ok (.iconst 0, 1) := by decide +kernel
theorem dX10_ends_121 : decode cX10_ends 121 = .ok (.invokestatic 264, 3) := by decide +kernel
theorem dX10_ends_124 : decode cX10_ends 124 = .ok (.iconst 2, 1) := by decide +kernel
theorem dX10_ends_125 : decode cX10_ends 125 = .ok (.iastore, 1) := by decide +kernel
theorem dX10_ends_126 : decode cX10_ends 126 = .ok (.aload_n 1, 1) := by decide +kernel
theorem dX10_ends_127 : decode cX10_ends 127 = .ok (.iload_n 2, 1) := by decide +kernel
theorem dX10_ends_128 : decode cX10_ends 128 = .ok (.iconst 2, 1) := by decide +kernel
theorem dX10_ends_129 : decode cX10_ends 129 = .ok (.invokestatic 264, 3) := by decide +kernel
theorem dX10_ends_132 : decode cX10_ends 132 = .ok (.iload_n 3, 1) := by decide +kernel
theorem dX10_ends_133 : decode cX10_ends 133 = .ok (.aload_n 0, 1) := by decide +kernel
theorem dX10_ends_134 : decode cX10_ends 134 = .ok (.getfield 27, 3) := by decide +kernel
theorem dX10_ends_137 : decode cX10_ends 137 = .ok (.iload_n 2, 1) := by decide +kernel
theorem dX10_ends_138 : decode cX10_ends 138 = .ok (.iaload, 1) := by decide +kernel
theorem dX10_ends_139 : decode cX10_ends 139 = .ok (.iadd, 1) := by decide +kernel
theorem dX10_ends_140 : decode cX10_ends 140 = .ok (.iastore, 1) := by decide +kernel
theorem dX10_ends_141 : decode cX10_ends 141 = .ok (.return_, 1) := by decide +kernel
theorem dX10_serves_0 : decode cX10_serves 0 = .ok (.aload_n 1, 1) := by decide +kernel
theorem dX10_serves_1 : decode cX10_serves 1 = .ok (.iload_n 2, 1) := by decide +kernel
theorem dX10_serves_2 : decode cX10_serves 2 = .ok (.iconst 0, 1) := by decide +kernel
theorem dX10_serves_3 : decode cX10_serves 3 = .ok (.invokestatic 274, 3) := by decide +kernel
theorem dX10_serves_6 : decode cX10_serves 6 = .ok (.dup2, 1) := by decide +kernel
theorem dX10_serves_7 : decode cX10_serves 7 = .ok (.iaload, 1) := by decide +kernel
theorem dX10_serves_8 : decode cX10_serves 8 = .ok (.aload_n 0, 1) := by decide +kernel
theorem dX10_serves_9 : decode cX10_serves 9 = .ok (.iload_n 2, 1) := by decide +kernel
theorem dX10_serves_10 : decode cX10_serves 10 = .ok (.iload_n 3, 1) := by decide +kernel
theorem dX10_serves_11 : decode cX10_serves 11 = .ok (.invokevirtual 277, 3) := by decide +kernel
theorem dX10_serves_14 : decode cX10_serves 14 = .ok (.iadd, 1) := by decide +kernel
theorem dX10_serves_15 : decode cX10_serves 15 = .ok (.iastore, 1) := by decide +kernel
theorem dX10_serves_16 : decode cX10_serves 16 = .ok (.aload_n 0, 1) := by decide +kernel
theorem dX10_serves_17 : decode cX10_serves 17 = .ok (.getfield 242, 3) := by decide +kernel
theorem dX10_serves_20 : decode cX10_serves 20 = .ok (.iconst 1, 1) := by decide +kernel
theorem dX10_serves_21 : decode cX10_serves 21 = .ok (.isub, 1) := by decide +kernel
theorem dX10_serves_22 : decode cX10_serves 22 = .ok (.iload_n 2, 1) := by decide +kernel
theorem dX10_serves_23 : decode cX10_serves 23 = .ok (.invokestatic 267, 3) := by decide +kernel
theorem dX10_serves_26 : decode cX10_serves 26 = .ok (.istore 4, 2) := by decide +kernel
theorem dX10_serves_28 : decode cX10_serves 28 = .ok (.aload_n 1, 1) := by decide +kernel
theorem dX10_serves_29 : decode cX10_serves 29 = .ok (.iload_n 2, 1) := by decide +kernel
theorem dX10_serves_30 : decode cX10_serves 30 = .ok (.iconst 0, 1) := by decide +kernel
theorem dX10_serves_31 : decode cX10_serves 31 = .ok (.invokestatic 274, 3) := by decide +kernel
theorem dX10_serves_34 : decode cX10_serves 34 = .ok (.iaload, 1) := by decide +kernel
theorem dX10_serves_35 : decode cX10_serves 35 = .ok (.aload_n 1, 1) := by decide +kernel
theorem dX10_serves_36 : decode cX10_serves 36 = .ok (.iload_n 2, 1) := by decide +kernel
theorem dX10_serves_37 : decode cX10_serves 37 = .ok (.iconst 1, 1) := by decide +kernel
theorem dX10_serves_38 : decode cX10_serves 38 = .ok (.invokestatic 274, 3) := by decide +kernel
theorem dX10_serves_41 : decode cX10_serves 41 = .ok (.iaload, 1) := by decide +kernel
theorem dX10_serves_42 : decode cX10_serves 42 = .ok (.if_icmp .le 124, 3) := by decide +kernel
theorem dX10_serves_45 : decode cX10_serves 45 = .ok (.aload_n 1, 1) := by decide +kernel
theorem dX10_serves_46 : decode cX10_serves 46 = .ok (.iload 4, 2) := by decide +kernel
theorem dX10_serves_48 : decode cX10_serves 48 = .ok (.iaload, 1) := by decide +kernel
theorem dX10_serves_49 : decode cX10_serves 49 = .ok (.ifCond .le 117, 3) := by decide +kernel
theorem dX10_serves_52 : decode cX10_serves 52 = .ok (.aload_n 0, 1) := by decide +kernel
theorem dX10_serves_53 : decode cX10_serves 53 = .ok (.iload_n 2, 1) := by decide +kernel
theorem dX10_serves_54 : decode cX10_serves 54 = .ok (.aload_n 1, 1) := by decide +kernel
theorem dX10_serves_55 : decode cX10_serves 55 = .ok (.iload_n 2, 1) := by decide +kernel
theorem dX10_serves_56 : decode cX10_serves 56 = .ok (.iconst 3, 1) := by decide +kernel
theorem dX10_serves_57 : decode cX10_serves 57 = .ok (.invokestatic 274, 3) := by decide +kernel
theorem dX10_serves_60 : decode cX10_serves 60 = .ok (.iaload, 1) := by decide +kernel
theorem dX10_serves_61 : decode cX10_serves 61 = .ok (.invokevirtual 277, 3) := by decide +kernel
theorem dX10_serves_64 : decode cX10_serves 64 = .ok (.aload_n 1, 1) := by decide +kernel
theorem dX10_serves_65 : decode cX10_serves 65 = .ok (.iload_n 2, 1) := by decide +kernel
theorem dX10_serves_66 : decode cX10_serves 66 = .ok (.iconst 4, 1) := by decide +kernel
theorem dX10_serves_67 : decode cX10_serves 67 = .ok (.invokestatic 274, 3) := by decide +kernel
theorem dX10_serves_70 : decode cX10_serves 70 = .ok (.iaload, 1) := by decide +kernel
theorem dX10_serves_71 : decode cX10_serves 71 = .ok (.if_icmp .ne 25, 3) := by decide +kernel
theorem dX10_serves_74 : decode cX10_serves 74 = .ok (.aload_n 1, 1) := by decide +kernel
theorem dX10_serves_75 : decode cX10_serves 75 = .ok (.iload_n 2, 1) := by decide +kernel
theorem dX10_serves_76 : decode cX10_serves 76 = .ok (.iconst 3, 1) := by decide +kernel
theorem dX10_serves_77 : decode cX10_serves 77 = .ok (.invokestatic 274, 3) := by decide +kernel
theorem dX10_serves_80 : decode cX10_serves 80 = .ok (.dup2, 1) := by decide +kernel
theorem dX10_serves_81 : decode cX10_serves 81 = .ok (.iaload, 1) := by decide +kernel
theorem dX10_serves_82 : decode cX10_serves 82 = .ok (.iconst 1, 1) := by decide +kernel
theorem dX10_serves_83 : decode cX10_serves 83 = .ok (.iadd, 1) := by decide +kernel
theorem dX10_serves_84 : decode cX10_serves 84 = .ok (.iastore, 1) := by decide +kernel
theorem dX10_serves_85 : decode cX10_serves 85 = .ok (.aload_n 1, 1) := by decide +kernel
theorem dX10_serves_86 : decode cX10_serves 86 = .ok (.iload_n 2, 1) := by decide +kernel
theorem dX10_serves_87 : decode cX10_serves 87 = .ok (.iconst 4, 1) := by decide +kernel
theorem dX10_serves_88 : decode cX10_serves 88 = .ok (.invokestatic 274, 3) := by decide +kernel
theorem dX10_serves_91 : decode cX10_serves 91 = .ok (.iconst 0, 1) := by decide +kernel
theorem dX10_serves_92 : decode cX10_serves 92 = .ok (.iastore, 1) := by decide +kernel
theorem dX10_serves_93 : decode cX10_serves 93 = .ok (.goto (-41), 3) := by decide +kernel
theorem dX10_serves_96 : decode cX10_serves 96 = .ok (.aload_n 1, 1) := by decide +kernel
theorem dX10_serves_97 : decode cX10_serves 97 = .ok (.iload_n 2, 1) := by decide +kernel
theorem dX10_serves_98 : decode cX10_serves 98 = .ok (.iconst 4, 1) := by decide +kernel
theorem dX10_serves_99 : decode cX10_serves 99 = .ok (.invokestatic 274, 3) := by decide +kernel
theorem dX10_serves_102 : decode cX10_serves 102 = .ok (.dup2, 1) := by decide +kernel
theorem dX10_serves_103 : decode cX10_serves 103 = .ok (.iaload, 1) := by decide +kernel
theorem dX10_serves_104 : decode cX10_serves 104 = .ok (.iconst 1, 1) := by decide +kernel
theorem dX10_serves_105 : decode cX10_serves 105 = .ok (.iadd, 1) := by decide +kernel
theorem dX10_serves_106 : decode cX10_serves 106 = .ok (.iastore, 1) := by decide +kernel
theorem dX10_serves_107 : decode cX10_serves 107 = .ok (.aload_n 1, 1) := by decide +kernel
theorem dX10_serves_108 : decode cX10_serves 108 = .ok (.iload_n 2, 1) := by decide +kernel
theorem dX10_serves_109 : decode cX10_serves 109 = .ok (.iconst 1, 1) := by decide +kernel
theorem dX10_serves_110 : decode cX10_serves 110 = .ok (.invokestatic 274, 3) := by decide +kernel
theorem dX10_serves_113 : decode cX10_serves 113 = .ok (.dup2, 1) := by decide +kernel
theorem dX10_serves_114 : decode cX10_serves 114 = .ok (.iaload, 1) := by decide +kernel
theorem dX10_serves_115 : decode cX10_serves 115 = .ok (.iconst 1, 1) := by decide +kernel
theorem dX10_serves_116 : decode cX10_serves 116 = .ok (.iadd, 1) := by decide +kernel
theorem dX10_serves_117 : decode cX10_serves 117 = .ok (.iastore, 1) := by decide +kernel
theorem dX10_serves_118 : decode cX10_serves 118 = .ok (.aload_n 1, 1) := by decide +kernel
theorem dX10_serves_119 : decode cX10_serves 119 = .ok (.iload_n 2, 1) := by decide +kernel
theorem dX10_serves_120 : decode cX10_serves 120 = .ok (.iconst 2, 1) := by decide +kernel
theorem dX10_serves_121 : decode cX10_serves 121 = .ok (.invokestatic 274, 3) := by decide +kernel
theorem dX10_serves_124 : decode cX10_serves 124 = .ok (.dup2, 1) := by decide +kernel
theorem dX10_serves_125 : decode cX10_serves 125 = .ok (.iaload, 1) := by decide +kernel
theorem dX10_serves_126 : decode cX10_serves 126 = .ok (.iload_n 3, 1) := by decide +kernel
theorem dX10_serves_127 : decode cX10_serves 127 = .ok (.aload_n 1, 1) := by decide +kernel
theorem dX10_serves_128 : decode cX10_serves 128 = .ok (.iload_n 2, 1) := by decide +kernel
theorem dX10_serves_129 : decode cX10_serves 129 = .ok (.iconst 3, 1) := by decide +kernel
theorem dX10_serves_130 : decode cX10_serves 130 = .ok (.invokestatic 274, 3) := by decide +kernel
theorem dX10_serves_133 : decode cX10_serves 133 = .ok (.iaload, 1) := by decide +kernel
theorem dX10_serves_134 : decode cX10_serves 134 = .ok (.isub, 1) := by decide +kernel
theorem dX10_serves_135 : decode cX10_serves 135 = .ok (.iadd, 1) := by decide +kernel
theorem dX10_serves_136 : decode cX10_serves 136 = .ok (.iastore, 1) := by decide +kernel
theorem dX10_serves_137 : decode cX10_serves 137 = .ok (.aload_n 1, 1) := by decide +kernel
theorem dX10_serves_138 : decode cX10_serves 138 = .ok (.bipush 96, 2) := by decide +kernel
theorem dX10_serves_140 : decode cX10_serves 140 = .ok (.iload_n 2, 1) := by decide +kernel
theorem dX10_serves_141 : decode cX10_serves 141 = .ok (.iadd, 1) := by decide +kernel
theorem dX10_serves_142 : decode cX10_serves 142 = .ok (.iaload, 1) := by decide +kernel
theorem dX10_serves_143 : decode cX10_serves 143 = .ok (.bipush (-2), 2) := by decide +kernel
theorem dX10_serves_145 : decode cX10_serves 145 = .ok (.if_icmp .ne 10, 3) := by decide +kernel
theorem dX10_serves_148 : decode cX10_serves 148 = .ok (.aload_n 1, 1) := by decide +kernel
theorem dX10_serves_149 : decode cX10_serves 149 = .ok (.bipush 96, 2) := by decide +kernel
theorem dX10_serves_151 : decode cX10_serves 151 = .ok (.iload_n 2, 1) := by decide +kernel
theorem dX10_serves_152 : decode cX10_serves 152 = .ok (.iadd, 1) := by decide +kernel
theorem dX10_serves_153 : decode cX10_serves 153 = .ok (.iload_n 3, 1) := by decide +kernel
theorem dX10_serves_154 : decode cX10_serves 154 = .ok (.iastore, 1) := by decide +kernel
theorem dX10_serves_155 : decode cX10_serves 155 = .ok (.aload_n 1, 1) := by decide +kernel
theorem dX10_serves_156 : decode cX10_serves 156 = .ok (.iload 4, 2) := by decide +kernel
theorem dX10_serves_158 : decode cX10_serves 158 = .ok (.dup2, 1) := by decide +kernel
theorem dX10_serves_159 : decode cX10_serves 159 = .ok (.iaload, 1) := by decide +kernel
theorem dX10_serves_160 : decode cX10_serves 160 = .ok (.iconst 1, 1) := by decide +kernel
theorem dX10_serves_161 : decode cX10_serves 161 = .ok (.isub, 1) := by decide +kernel
theorem dX10_serves_162 : decode cX10_serves 162 = .ok (.iastore, 1) := by decide +kernel
theorem dX10_serves_163 : decode cX10_serves 163 = .ok (.goto (-135), 3) := by decide +kernel
theorem dX10_serves_166 : decode cX10_serves 166 = .ok (.return_, 1) := by decide +kernel
theorem dX10_can_0 : decode cX10_can 0 = .ok (.aload_n 0, 1) := by decide +kernel
theorem dX10_can_1 : decode cX10_can 1 = .ok (.aload_n 1, 1) := by decide +kernel
theorem dX10_can_2 : decode cX10_can 2 = .ok (.aload_n 2, 1) := by decide +kernel
theorem dX10_can_3 : decode cX10_can 3 = .ok (.iload_n 3, 1) := by decide +kernel
theorem dX10_can_4 : decode cX10_can 4 = .ok (.iload 4, 2) := by decide +kernel
theorem dX10_can_6 : decode cX10_can 6 = .ok (.invokevirtual 280, 3) := by decide +kernel
theorem dX10_can_9 : decode cX10_can 9 = .ok (.ifCond .le 24, 3) := by decide +kernel
theorem dX10_can_12 : decode cX10_can 12 = .ok (.iload_n 3, 1) := by decide +kernel
theorem dX10_can_13 : decode cX10_can 13 = .ok (.ifCond .eq 16, 3) := by decide +kernel
theorem dX10_can_16 : decode cX10_can 16 = .ok (.aload_n 1, 1) := by decide +kernel
theorem dX10_can_17 : decode cX10_can 17 = .ok (.iload_n 3, 1) := by decide +kernel
theorem dX10_can_18 : decode cX10_can 18 = .ok (.iconst 1, 1) := by decide +kernel
theorem dX10_can_19 : decode cX10_can 19 = .ok (.isub, 1) := by decide +kernel
theorem dX10_can_20 : decode cX10_can 20 = .ok (.iload 4, 2) := by decide +kernel
theorem dX10_can_22 : decode cX10_can 22 = .ok (.invokestatic 267, 3) := by decide +kernel
theorem dX10_can_25 : decode cX10_can 25 = .ok (.iaload, 1) := by decide +kernel
theorem dX10_can_26 : decode cX10_can 26 = .ok (.ifCond .le 7, 3) := by decide +kernel
theorem dX10_can_29 : decode cX10_can 29 = .ok (.iconst 1, 1) := by decide +kernel
theorem dX10_can_30 : decode cX10_can 30 = .ok (.goto 4, 3) := by decide +kernel
theorem dX10_can_33 : decode cX10_can 33 = .ok (.iconst 0, 1) := by decide +kernel
theorem dX10_can_34 : decode cX10_can 34 = .ok (.ireturn, 1) := by decide +kernel
theorem dX10_chosen_0 : decode cX10_chosen 0 = .ok (.iconst (-1), 1) := by decide +kernel
theorem dX10_chosen_1 : decode cX10_chosen 1 = .ok (.istore 4, 2) := by decide +kernel
theorem dX10_chosen_3 : decode cX10_chosen 3 = .ok (.iconst 1, 1) := by decide +kernel
theorem dX10_chosen_4 : decode cX10_chosen 4 = .ok (.istore 5, 2) := by decide +kernel
theorem dX10_chosen_6 : decode cX10_chosen 6 = .ok (.iload 5, 2) := by decide +kernel
theorem dX10_chosen_8 : decode cX10_chosen 8 = .ok (.aload_n 0, 1) := by decide +kernel
theorem dX10_chosen_9 : decode cX10_chosen 9 = .ok (.getfield 248, 3) := by decide +kernel
theorem dX10_chosen_12 : decode cX10_chosen 12 = .ok (.if_icmp .gt 106, 3) := by decide +kernel
theorem dX10_chosen_15 : decode cX10_chosen 15 = .ok (.aload_n 1, 1) := by decide +kernel
theorem dX10_chosen_16 : decode cX10_chosen 16 = .ok (.iload_n 3, 1) := by decide +kernel
theorem dX10_chosen_17 : decode cX10_chosen 17 = .ok (.iconst 3, 1) := by decide +kernel
theorem dX10_chosen_18 : decode cX10_chosen 18 = .ok (.invokestatic 264, 3) := by decide +kernel
theorem dX10_chosen_21 : decode cX10_chosen 21 = .ok (.iaload, 1) := by decide +kernel
theorem dX10_chosen_22 : decode cX10_chosen 22 = .ok (.istore 6, 2) := by decide +kernel
theorem dX10_chosen_24 : decode cX10_chosen 24 = .ok (.aload_n 2, 1) := by decide +kernel
theorem dX10_chosen_25 : decode cX10_chosen 25 = .ok (.bipush 36, 2) := by decide +kernel
theorem dX10_chosen_27 : decode cX10_chosen 27 = .ok (.iaload, 1) := by decide +kernel
theorem dX10_chosen_28 : decode cX10_chosen 28 = .ok (.iconst 2, 1) := by decide +kernel
theorem dX10_chosen_29 : decode cX10_chosen 29 = .ok (.if_icmp .ne 23, 3) := by decide +kernel
theorem dX10_chosen_32 : decode cX10_chosen 32 = .ok (.iload 6, 2) := by decide +kernel
theorem dX10_chosen_34 : decode cX10_chosen 34 = .ok (.bipush (-2), 2) := by decide +kernel
theorem dX10_chosen_36 : decode cX10_chosen 36 = .ok (.if_icmp .eq 16, 3) := by decide +kernel
theorem dX10_chosen_39 : decode cX10_chosen 39 = .ok (.iload 6, 2) := by decide +kernel
theorem dX10_chosen_41 : decode cX10_chosen 41 = .ok (.iload 5, 2) := by decide +kernel
theorem dX10_chosen_43 : decode cX10_chosen 43 = .ok (.iadd, 1) := by decide +kernel
theorem dX10_chosen_44 : decode cX10_chosen 44 = .ok (.aload_n 0, 1) := by decide +kernel
theorem dX10_chosen_45 : decode cX10_chosen 45 = .ok (.getfield 248, 3) := by decide +kernel
theorem dX10_chosen_48 : decode cX10_chosen 48 = .ok (.irem, 1) := by decide +kernel
theorem dX10_chosen_49 : decode cX10_chosen 49 = .ok (.goto 7, 3) := by decide +kernel
theorem dX10_chosen_52 : decode cX10_chosen 52 = .ok (.iload 5, 2) := by decide +kernel
theorem dX10_chosen_54 : decode cX10_chosen 54 = .ok (.iconst 1, 1) := by decide +kernel
theorem dX10_chosen_55 : decode cX10_chosen 55 = .ok (.isub, 1) := by decide +kernel
theorem dX10_chosen_56 : decode cX10_chosen 56 = .ok (.istore 7, 2) := by decide +kernel
theorem dX10_chosen_58 : decode cX10_chosen 58 = .ok (.aload_n 0, 1) := by decide +kernel
theorem dX10_chosen_59 : decode cX10_chosen 59 = .ok (.aload_n 1, 1) := by decide +kernel
theorem dX10_chosen_60 : decode cX10_chosen 60 = .ok (.aload_n 2, 1) := by decide +kernel
theorem dX10_chosen_61 : decode cX10_chosen 61 = .ok (.iload_n 3, 1) := by decide +kernel
theorem dX10_chosen_62 : decode cX10_chosen 62 = .ok (.iload 7, 2) := by decide +kernel
theorem dX10_chosen_64 : decode cX10_chosen 64 = .ok (.invokevirtual 284, 3) := by decide +kernel
theorem dX10_chosen_67 : decode cX10_chosen 67 = .ok (.ifCond .ne 6, 3) := by decide +kernel
theorem dX10_chosen_70 : decode cX10_chosen 70 = .ok (.goto 42, 3) := by decide +kernel
theorem dX10_chosen_73 : decode cX10_chosen 73 = .ok (.iload 4, 2) := by decide +kernel
theorem dX10_chosen_75 : decode cX10_chosen 75 = .ok (.iconst (-1), 1) := by decide +kernel
theorem dX10_chosen_76 : decode cX10_chosen 76 = .ok (.if_icmp .eq 32, 3) := by decide +kernel
theorem dX10_chosen_79 : decode cX10_chosen 79 = .ok (.aload_n 2, 1) := by decide +kernel
theorem dX10_chosen_80 : decode cX10_chosen 80 = .ok (.bipush 36, 2) := by decide +kernel
theorem dX10_chosen_82 : decode cX10_chosen 82 = .ok (.iaload, 1) := by decide +kernel
theorem dX10_chosen_83 : decode cX10_chosen 83 = .ok (.iconst 1, 1) := by decide +kernel
theorem dX10_chosen_84 : decode cX10_chosen 84 = .ok (.if_icmp .ne 28, 3) := by decide +kernel
theorem dX10_chosen_87 : decode cX10_chosen 87 = .ok (.aload_n 0, 1) := by decide +kernel
theorem dX10_chosen_88 : decode cX10_chosen 88 = .ok (.aload_n 1, 1) := by decide +kernel
theorem dX10_chosen_89 : decode cX10_chosen 89 = .ok (.aload_n 2, 1) := by decide +kernel
theorem dX10_chosen_90 : decode cX10_chosen 90 = .ok (.iload_n 3, 1) := by decide +kernel
theorem dX10_chosen_91 : decode cX10_chosen 91 = .ok (.iload 7, 2) := by decide +kernel
theorem dX10_chosen_93 : decode cX10_chosen 93 = .ok (.invokevirtual 280, 3) := by decide +kernel
theorem dX10_chosen_96 : decode cX10_chosen 96 = .ok (.aload_n 0, 1) := by decide +kernel
theorem dX10_chosen_97 : decode cX10_chosen 97 = .ok (.aload_n 1, 1) := by decide +kernel
theorem dX10_chosen_98 : decode cX10_chosen 98 = .ok (.aload_n 2, 1) := by decide +kernel
theorem dX10_chosen_99 : decode cX10_chosen 99 = .ok (.iload_n 3, 1) := by decide +kernel
theorem dX10_chosen_100 : decode cX10_chosen 100 = .ok (.iload 4, 2) := by decide +kernel
theorem dX10_chosen_102 : decode cX10_chosen 102 = .ok (.invokevirtual 280, 3) := by decide +kernel
theorem dX10_chosen_105 : decode cX10_chosen 105 = .ok (.if_icmp .le 7, 3) := by decide +kernel
theorem dX10_chosen_108 : decode cX10_chosen 108 = .ok (.iload 7, 2) := by decide +kernel
theorem dX10_chosen_110 : decode cX10_chosen 110 = .ok (.istore 4, 2) := by decide +kernel
theorem dX10_chosen_112 : decode cX10_chosen 112 = .ok (.iinc 5 1, 3) := by decide +kernel
theorem dX10_chosen_115 : decode cX10_chosen 115 = .ok (.goto (-109), 3) := by decide +kernel
theorem dX10_chosen_118 : decode cX10_chosen 118 = .ok (.iload 4, 2) := by decide +kernel
theorem dX10_chosen_120 : decode cX10_chosen 120 = .ok (.ireturn, 1) := by decide +kernel
theorem dX10_starts_0 : decode cX10_starts 0 = .ok (.aload_n 1, 1) := by decide +kernel
theorem dX10_starts_1 : decode cX10_starts 1 = .ok (.iload_n 3, 1) := by decide +kernel
theorem dX10_starts_2 : decode cX10_starts 2 = .ok (.iconst 0, 1) := by decide +kernel
theorem dX10_starts_3 : decode cX10_starts 3 = .ok (.invokestatic 264, 3) := by decide +kernel
theorem dX10_starts_6 : decode cX10_starts 6 = .ok (.iaload, 1) := by decide +kernel
theorem dX10_starts_7 : decode cX10_starts 7 = .ok (.ifCond .eq 4, 3) := by decide +kernel
theorem dX10_starts_10 : decode cX10_starts 10 = .ok (.return_, 1) := by decide +kernel
theorem dX10_starts_11 : decode cX10_starts 11 = .ok (.aload_n 0, 1) := by decide +kernel
theorem dX10_starts_12 : decode cX10_starts 12 = .ok (.aload_n 1, 1) := by decide +kernel
theorem dX10_starts_13 : decode cX10_starts 13 = .ok (.aload_n 2, 1) := by decide +kernel
theorem dX10_starts_14 : decode cX10_starts 14 = .ok (.iload_n 3, 1) := by decide +kernel
theorem dX10_starts_15 : decode cX10_starts 15 = .ok (.invokevirtual 288, 3) := by decide +kernel
theorem dX10_starts_18 : decode cX10_starts 18 = .ok (.istore 5, 2) := by decide +kernel
theorem dX10_starts_20 : decode cX10_starts 20 = .ok (.iload 5, 2) := by decide +kernel
theorem dX10_starts_22 : decode cX10_starts 22 = .ok (.iconst (-1), 1) := by decide +kernel
theorem dX10_starts_23 : decode cX10_starts 23 = .ok (.if_icmp .ne 4, 3) := by decide +kernel
theorem dX10_starts_26 : decode cX10_starts 26 = .ok (.return_, 1) := by decide +kernel
theorem dX10_starts_27 : decode cX10_starts 27 = .ok (.aload_n 1, 1) := by decide +kernel
theorem dX10_starts_28 : decode cX10_starts 28 = .ok (.iload_n 3, 1) := by decide +kernel
theorem dX10_starts_29 : decode cX10_starts 29 = .ok (.iconst 3, 1) := by decide +kernel
theorem dX10_starts_30 : decode cX10_starts 30 = .ok (.invokestatic 264, 3) := by decide +kernel
theorem dX10_starts_33 : decode cX10_starts 33 = .ok (.iaload, 1) := by decide +kernel
theorem dX10_starts_34 : decode cX10_starts 34 = .ok (.istore 6, 2) := by decide +kernel
theorem dX10_starts_36 : decode cX10_starts 36 = .ok (.iload_n 3, 1) := by decide +kernel
theorem dX10_starts_37 : decode cX10_starts 37 = .ok (.ifCond .le 17, 3) := by decide +kernel
theorem dX10_starts_40 : decode cX10_starts 40 = .ok (.aload_n 1, 1) := by decide +kernel
theorem dX10_starts_41 : decode cX10_starts 41 = .ok (.iload_n 3, 1) := by decide +kernel
theorem dX10_starts_42 : decode cX10_starts 42 = .ok (.iconst 1, 1) := by decide +kernel
theorem dX10_starts_43 : decode cX10_starts 43 = .ok (.isub, 1) := by decide +kernel
theorem dX10_starts_44 : decode cX10_starts 44 = .ok (.iload 5, 2) := by decide +kernel
theorem dX10_starts_46 : decode cX10_starts 46 = .ok (.invokestatic 267, 3) := by decide +kernel
theorem dX10_starts_49 : decode cX10_starts 49 = .ok (.dup2, 1) := by decide +kernel
theorem dX10_starts_50 : decode cX10_starts 50 = .ok (.iaload, 1) := by decide +kernel
theorem dX10_starts_51 : decode cX10_starts 51 = .ok (.iconst 1, 1) := by decide +kernel
theorem dX10_starts_52 : decode cX10_starts 52 = .ok (.isub, 1) := by decide +kernel
theorem dX10_starts_53 : decode cX10_starts 53 = .ok (.iastore, 1) := by decide +kernel
theorem dX10_starts_54 : decode cX10_starts 54 = .ok (.aload_n 1, 1) := by decide +kernel
theorem dX10_starts_55 : decode cX10_starts 55 = .ok (.iload_n 3, 1) := by decide +kernel
theorem dX10_starts_56 : decode cX10_starts 56 = .ok (.iconst 0, 1) := by decide +kernel
theorem dX10_starts_57 : decode cX10_starts 57 = .ok (.invokestatic 264, 3) := by decide +kernel
theorem dX10_starts_60 : decode cX10_starts 60 = .ok (.iconst 1, 1) := by decide +kernel
theorem dX10_starts_61 : decode cX10_starts 61 = .ok (.iastore, 1) := by decide +kernel
theorem dX10_starts_62 : decode cX10_starts 62 = .ok (.aload_n 1, 1) := by decide +kernel
theorem dX10_starts_63 : decode cX10_starts 63 = .ok (.iload_n 3, 1) := by decide +kernel
theorem dX10_starts_64 : decode cX10_starts 64 = .ok (.iconst 1, 1) := by decide +kernel
theorem dX10_starts_65 : decode cX10_starts 65 = .ok (.invokestatic 264, 3) := by decide +kernel
theorem dX10_starts_68 : decode cX10_starts 68 = .ok (.iload 5, 2) := by decide +kernel
theorem dX10_starts_70 : decode cX10_starts 70 = .ok (.iastore, 1) := by decide +kernel
theorem dX10_starts_71 : decode cX10_starts 71 = .ok (.aload_n 1, 1) := by decide +kernel
theorem dX10_starts_72 : decode cX10_starts 72 = .ok (.iload_n 3, 1) := by decide +kernel
theorem dX10_starts_73 : decode cX10_starts 73 = .ok (.iconst 3, 1) := by decide +kernel
theorem dX10_starts_74 : decode cX10_starts 74 = .ok (.invokestatic 264, 3) := by decide +kernel
theorem dX10_starts_77 : decode cX10_starts 77 = .ok (.iload 5, 2) := by decide +kernel
theorem dX10_starts_79 : decode cX10_starts 79 = .ok (.iastore, 1) := by decide +kernel
theorem dX10_starts_80 : decode cX10_starts 80 = .ok (.aload_n 1, 1) := by decide +kernel
theorem dX10_starts_81 : decode cX10_starts 81 = .ok (.iload_n 3, 1) := by decide +kernel
theorem dX10_starts_82 : decode cX10_starts 82 = .ok (.iconst 2, 1) := by decide +kernel
theorem dX10_starts_83 : decode cX10_starts 83 = .ok (.invokestatic 264, 3) := by decide +kernel
theorem dX10_starts_86 : decode cX10_starts 86 = .ok (.iload 4, 2) := by decide +kernel
theorem dX10_starts_88 : decode cX10_starts 88 = .ok (.aload_n 2, 1) := by decide +kernel
theorem dX10_starts_89 : decode cX10_starts 89 = .ok (.bipush 18, 2) := by decide +kernel
theorem dX10_starts_91 : decode cX10_starts 91 = .ok (.iconst 3, 1) := by decide +kernel
theorem dX10_starts_92 : decode cX10_starts 92 = .ok (.iload_n 3, 1) := by decide +kernel
theorem dX10_starts_93 : decode cX10_starts 93 = .ok (.imul, 1) := by decide +kernel
theorem dX10_starts_94 : decode cX10_starts 94 = .ok (.iadd, 1) := by decide +kernel
theorem dX10_starts_95 : decode cX10_starts 95 = .ok (.iload 5, 2) := by decide +kernel
theorem dX10_starts_97 : decode cX10_starts 97 = .ok (.iadd, 1) := by decide +kernel
theorem dX10_starts_98 : decode cX10_starts 98 = .ok (.iaload, 1) := by decide +kernel
theorem dX10_starts_99 : decode cX10_starts 99 = .ok (.iadd, 1) := by decide +kernel
theorem dX10_starts_100 : decode cX10_starts 100 = .ok (.iload 6, 2) := by decide +kernel
theorem dX10_starts_102 : decode cX10_starts 102 = .ok (.bipush (-2), 2) := by decide +kernel
theorem dX10_starts_104 : decode cX10_starts 104 = .ok (.if_icmp .eq 19, 3) := by decide +kernel
theorem dX10_starts_107 : decode cX10_starts 107 = .ok (.iload 6, 2) := by decide +kernel
theorem dX10_starts_109 : decode cX10_starts 109 = .ok (.iload 5, 2) := by decide +kernel
theorem dX10_starts_111 : decode cX10_starts 111 = .ok (.if_icmp .eq 12, 3) := by decide +kernel
theorem dX10_starts_114 : decode cX10_starts 114 = .ok (.aload_n 0, 1) := by decide +kernel
theorem dX10_starts_115 : decode cX10_starts 115 = .ok (.getfield 24, 3) := by decide +kernel
theorem dX10_starts_118 : decode cX10_starts 118 = .ok (.iload_n 3, 1) := by decide +kernel
theorem dX10_starts_119 : decode cX10_starts 119 = .ok (.iaload, 1) := by decide +kernel
theorem dX10_starts_120 : decode cX10_starts 120 = .ok (.goto 4, 3) := by decide +kernel
theorem dX10_starts_123 : decode cX10_starts 123 = .ok (.iconst 0, 1) := by decide +kernel
theorem dX10_starts_124 : decode cX10_starts 124 = .ok (.iadd, 1) := by decide +kernel
theorem dX10_starts_125 : decode cX10_starts 125 = .ok (.iastore, 1) := by decide +kernel
theorem dX10_starts_126 : decode cX10_starts 126 = .ok (.return_, 1) := by decide +kernel
theorem dX10_tallies_0 : decode cX10_tallies 0 = .ok (.aload_n 1, 1) := by decide +kernel
theorem dX10_tallies_1 : decode cX10_tallies 1 = .ok (.iload_n 3, 1) := by decide +kernel
theorem dX10_tallies_2 : decode cX10_tallies 2 = .ok (.iconst 0, 1) := by decide +kernel
theorem dX10_tallies_3 : decode cX10_tallies 3 = .ok (.invokestatic 264, 3) := by decide +kernel
theorem dX10_tallies_6 : decode cX10_tallies 6 = .ok (.iaload, 1) := by decide +kernel
theorem dX10_tallies_7 : decode cX10_tallies 7 = .ok (.istore 5, 2) := by decide +kernel
theorem dX10_tallies_9 : decode cX10_tallies 9 = .ok (.iload 5, 2) := by decide +kernel
theorem dX10_tallies_11 : decode cX10_tallies 11 = .ok (.ifCond .le 26, 3) := by decide +kernel
theorem dX10_tallies_14 : decode cX10_tallies 14 = .ok (.aload_n 1, 1) := by decide +kernel
theorem dX10_tallies_15 : decode cX10_tallies 15 = .ok (.iload_n 3, 1) := by decide +kernel
theorem dX10_tallies_16 : decode cX10_tallies 16 = .ok (.iload 5, 2) := by decide +kernel
theorem dX10_tallies_18 : decode cX10_tallies 18 = .ok (.iconst 1, 1) := by decide +kernel
theorem dX10_tallies_19 : decode cX10_tallies 19 = .ok (.if_icmp .ne 7, 3) := by decide +kernel
theorem dX10_tallies_22 : decode cX10_tallies 22 = .ok (.iconst 5, 1) := by decide +kernel
theorem dX10_tallies_23 : decode cX10_tallies 23 = .ok (.goto 5, 3) := by decide +kernel
theorem dX10_tallies_26 : decode cX10_tallies 26 = .ok (.bipush 6, 2) := by decide +kernel
theorem dX10_tallies_28 : decode cX10_tallies 28 = .ok (.invokestatic 264, 3) := by decide +kernel
theorem dX10_tallies_31 : decode cX10_tallies 31 = .ok (.dup2, 1) := by decide +kernel
theorem dX10_tallies_32 : decode cX10_tallies 32 = .ok (.iaload, 1) := by decide +kernel
theorem dX10_tallies_33 : decode cX10_tallies 33 = .ok (.iconst 1, 1) := by decide +kernel
theorem dX10_tallies_34 : decode cX10_tallies 34 = .ok (.iadd, 1) := by decide +kernel
theorem dX10_tallies_35 : decode cX10_tallies 35 = .ok (.iastore, 1) := by decide +kernel
theorem dX10_tallies_36 : decode cX10_tallies 36 = .ok (.return_, 1) := by decide +kernel
theorem dX10_tallies_37 : decode cX10_tallies 37 = .ok (.iconst 0, 1) := by decide +kernel
theorem dX10_tallies_38 : decode cX10_tallies 38 = .ok (.istore 6, 2) := by decide +kernel
theorem dX10_tallies_40 : decode cX10_tallies 40 = .ok (.iconst 0, 1) := by decide +kernel
theorem dX10_tallies_41 : decode cX10_tallies 41 = .ok (.istore 7, 2) := by decide +kernel
theorem dX10_tallies_43 : decode cX10_tallies 43 = .ok (.iload 7, 2) := by decide +kernel
theorem dX10_tallies_45 : decode cX10_tallies 45 = .ok (.aload_n 0, 1) := by decide +kernel
theorem dX10_tallies_46 : decode cX10_tallies 46 = .ok (.getfield 248, 3) := by decide +kernel
theorem dX10_tallies_49 : decode cX10_tallies 49 = .ok (.if_icmp .ge 33, 3) := by decide +kernel
theorem dX10_tallies_52 : decode cX10_tallies 52 = .ok (.iload 6, 2) := by decide +kernel
theorem dX10_tallies_54 : decode cX10_tallies 54 = .ok (.ifCond .ne 15, 3) := by decide +kernel
theorem dX10_tallies_57 : decode cX10_tallies 57 = .ok (.aload_n 0, 1) := by decide +kernel
theorem dX10_tallies_58 : decode cX10_tallies 58 = .ok (.aload_n 1, 1) := by decide +kernel
theorem dX10_tallies_59 : decode cX10_tallies 59 = .ok (.aload_n 2, 1) := by decide +kernel
theorem dX10_tallies_60 : decode cX10_tallies 60 = .ok (.iload_n 3, 1) := by decide +kernel
theorem dX10_tallies_61 : decode cX10_tallies 61 = .ok (.iload 7, 2) := by decide +kernel
theorem dX10_tallies_63 : decode cX10_tallies 63 = .ok (.invokevirtual 280, 3) := by decide +kernel
theorem dX10_tallies_66 : decode cX10_tallies 66 = .ok (.ifCond .le 7, 3) := by decide +kernel
theorem dX10_tallies_69 : decode cX10_tallies 69 = .ok (.iconst 1, 1) := by decide +kernel
theorem dX10_tallies_70 : decode cX10_tallies 70 = .ok (.goto 4, 3) := by decide +kernel
theorem dX10_tallies_73 : decode cX10_tallies 73 = .ok (.iconst 0, 1) := by decide +kernel
theorem dX10_tallies_74 : decode cX10_tallies 74 = .ok (.istore 6, 2) := by decide +kernel
theorem dX10_tallies_76 : decode cX10_tallies 76 = .ok (.iinc 7 1, 3) := by decide +kernel
theorem dX10_tallies_79 : decode cX10_tallies 79 = .ok (.goto (-36), 3) := by decide +kernel
theorem dX10_tallies_82 : decode cX10_tallies 82 = .ok (.aload_n 1, 1) := by decide +kernel
theorem dX10_tallies_83 : decode cX10_tallies 83 = .ok (.iload_n 3, 1) := by decide +kernel
theorem dX10_tallies_84 : decode cX10_tallies 84 = .ok (.iload 6, 2) := by decide +kernel
theorem dX10_tallies_86 : decode cX10_tallies 86 = .ok (.ifCond .eq 8, 3) := by decide +kernel
theorem dX10_tallies_89 : decode cX10_tallies 89 = .ok (.bipush 7, 2) := by decide +kernel
theorem dX10_tallies_91 : decode cX10_tallies 91 = .ok (.goto 5, 3) := by decide +kernel
theorem dX10_tallies_94 : decode cX10_tallies 94 = .ok (.bipush 8, 2) := by decide +kernel
theorem dX10_tallies_96 : decode cX10_tallies 96 = .ok (.invokestatic 264, 3) := by decide +kernel
theorem dX10_tallies_99 : decode cX10_tallies 99 = .ok (.dup2, 1) := by decide +kernel
theorem dX10_tallies_100 : decode cX10_tallies 100 = .ok (.iaload, 1) := by decide +kernel
theorem dX10_tallies_101 : decode cX10_tallies 101 = .ok (.iconst 1, 1) := by decide +kernel
theorem dX10_tallies_102 : decode cX10_tallies 102 = .ok (.iadd, 1) := by decide +kernel
theorem dX10_tallies_103 : decode cX10_tallies 103 = .ok (.iastore, 1) := by decide +kernel
theorem dX10_tallies_104 : decode cX10_tallies 104 = .ok (.iload 6, 2) := by decide +kernel
theorem dX10_tallies_106 : decode cX10_tallies 106 = .ok (.ifCond .eq 30, 3) := by decide +kernel
theorem dX10_tallies_109 : decode cX10_tallies 109 = .ok (.aload_n 1, 1) := by decide +kernel
theorem dX10_tallies_110 : decode cX10_tallies 110 = .ok (.iload_n 3, 1) := by decide +kernel
theorem dX10_tallies_111 : decode cX10_tallies 111 = .ok (.iconst 3, 1) := by decide +kernel
theorem dX10_tallies_112 : decode cX10_tallies 112 = .ok (.invokestatic 264, 3) := by decide +kernel
theorem dX10_tallies_115 : decode cX10_tallies 115 = .ok (.iaload, 1) := by decide +kernel
theorem dX10_tallies_116 : decode cX10_tallies 116 = .ok (.bipush (-2), 2) := by decide +kernel
theorem dX10_tallies_118 : decode cX10_tallies 118 = .ok (.if_icmp .eq 18, 3) := by decide +kernel
theorem dX10_tallies_121 : decode cX10_tallies 121 = .ok (.aload_n 1, 1) := by decide +kernel
theorem dX10_tallies_122 : decode cX10_tallies 122 = .ok (.iconst 1, 1) := by decide +kernel
theorem dX10_tallies_123 : decode cX10_tallies 123 = .ok (.iaload, 1) := by decide +kernel
theorem dX10_tallies_124 : decode cX10_tallies 124 = .ok (.iconst (-1), 1) := by decide +kernel
theorem dX10_tallies_125 : decode cX10_tallies 125 = .ok (.if_icmp .eq 12, 3) := by decide +kernel
theorem dX10_tallies_128 : decode cX10_tallies 128 = .ok (.aload_n 1, 1) := by decide +kernel
theorem dX10_tallies_129 : decode cX10_tallies 129 = .ok (.iconst 1, 1) := by decide +kernel
theorem dX10_tallies_130 : decode cX10_tallies 130 = .ok (.iaload, 1) := by decide +kernel
theorem dX10_tallies_131 : decode cX10_tallies 131 = .ok (.iload 4, 2) := by decide +kernel
theorem dX10_tallies_133 : decode cX10_tallies 133 = .ok (.if_icmp .eq 4, 3) := by decide +kernel
theorem dX10_tallies_136 : decode cX10_tallies 136 = .ok (.return_, 1) := by decide +kernel
theorem dX10_tallies_137 : decode cX10_tallies 137 = .ok (.aload_n 1, 1) := by decide +kernel
theorem dX10_tallies_138 : decode cX10_tallies 138 = .ok (.iconst 1, 1) := by decide +kernel
theorem dX10_tallies_139 : decode cX10_tallies 139 = .ok (.iload 4, 2) := by decide +kernel
theorem dX10_tallies_141 : decode cX10_tallies 141 = .ok (.iastore, 1) := by decide +kernel
theorem dX10_tallies_142 : decode cX10_tallies 142 = .ok (.aload_n 1, 1) := by decide +kernel
theorem dX10_tallies_143 : decode cX10_tallies 143 = .ok (.iconst 2, 1) := by decide +kernel
theorem dX10_tallies_144 : decode cX10_tallies 144 = .ok (.iload_n 3, 1) := by decide +kernel
theorem dX10_tallies_145 : decode cX10_tallies 145 = .ok (.iastore, 1) := by decide +kernel
theorem dX10_tallies_146 : decode cX10_tallies 146 = .ok (.return_, 1) := by decide +kernel
theorem dX10_minute_0 : decode cX10_minute 0 = .ok (.aload_n 1, 1) := by decide +kernel
theorem dX10_minute_1 : decode cX10_minute 1 = .ok (.iconst 0, 1) := by decide +kernel
theorem dX10_minute_2 : decode cX10_minute 2 = .ok (.iaload, 1) := by decide +kernel
theorem dX10_minute_3 : decode cX10_minute 3 = .ok (.istore_n 3, 1) := by decide +kernel
theorem dX10_minute_4 : decode cX10_minute 4 = .ok (.iconst 0, 1) := by decide +kernel
theorem dX10_minute_5 : decode cX10_minute 5 = .ok (.istore 4, 2) := by decide +kernel
theorem dX10_minute_7 : decode cX10_minute 7 = .ok (.iload 4, 2) := by decide +kernel
theorem dX10_minute_9 : decode cX10_minute 9 = .ok (.aload_n 0, 1) := by decide +kernel
theorem dX10_minute_10 : decode cX10_minute 10 = .ok (.getfield 242, 3) := by decide +kernel
theorem dX10_minute_13 : decode cX10_minute 13 = .ok (.if_icmp .ge 17, 3) := by decide +kernel
theorem dX10_minute_16 : decode cX10_minute 16 = .ok (.aload_n 0, 1) := by decide +kernel
theorem dX10_minute_17 : decode cX10_minute 17 = .ok (.aload_n 1, 1) := by decide +kernel
theorem dX10_minute_18 : decode cX10_minute 18 = .ok (.iload 4, 2) := by decide +kernel
theorem dX10_minute_20 : decode cX10_minute 20 = .ok (.iload_n 3, 1) := by decide +kernel
theorem dX10_minute_21 : decode cX10_minute 21 = .ok (.invokevirtual 292, 3) := by decide +kernel
theorem dX10_minute_24 : decode cX10_minute 24 = .ok (.iinc 4 1, 3) := by decide +kernel
theorem dX10_minute_27 : decode cX10_minute 27 = .ok (.goto (-20), 3) := by decide +kernel
theorem dX10_minute_30 : decode cX10_minute 30 = .ok (.iconst 0, 1) := by decide +kernel
theorem dX10_minute_31 : decode cX10_minute 31 = .ok (.istore 4, 2) := by decide +kernel
theorem dX10_minute_33 : decode cX10_minute 33 = .ok (.iload 4, 2) := by decide +kernel
theorem dX10_minute_35 : decode cX10_minute 35 = .ok (.aload_n 0, 1) := by decide +kernel
theorem dX10_minute_36 : decode cX10_minute 36 = .ok (.getfield 248, 3) := by decide +kernel
theorem dX10_minute_39 : decode cX10_minute 39 = .ok (.if_icmp .ge 17, 3) := by decide +kernel
theorem dX10_minute_42 : decode cX10_minute 42 = .ok (.aload_n 0, 1) := by decide +kernel
theorem dX10_minute_43 : decode cX10_minute 43 = .ok (.aload_n 1, 1) := by decide +kernel
theorem dX10_minute_44 : decode cX10_minute 44 = .ok (.iload 4, 2) := by decide +kernel
theorem dX10_minute_46 : decode cX10_minute 46 = .ok (.iload_n 3, 1) := by decide +kernel
theorem dX10_minute_47 : decode cX10_minute 47 = .ok (.invokevirtual 296, 3) := by decide +kernel
theorem dX10_minute_50 : decode cX10_minute 50 = .ok (.iinc 4 1, 3) := by decide +kernel
theorem dX10_minute_53 : decode cX10_minute 53 = .ok (.goto (-20), 3) := by decide +kernel
theorem dX10_minute_56 : decode cX10_minute 56 = .ok (.aload_n 0, 1) := by decide +kernel
theorem dX10_minute_57 : decode cX10_minute 57 = .ok (.getfield 242, 3) := by decide +kernel
theorem dX10_minute_60 : decode cX10_minute 60 = .ok (.iconst 1, 1) := by decide +kernel
theorem dX10_minute_61 : decode cX10_minute 61 = .ok (.isub, 1) := by decide +kernel
theorem dX10_minute_62 : decode cX10_minute 62 = .ok (.istore 4, 2) := by decide +kernel
theorem dX10_minute_64 : decode cX10_minute 64 = .ok (.iload 4, 2) := by decide +kernel
theorem dX10_minute_66 : decode cX10_minute 66 = .ok (.ifCond .lt 18, 3) := by decide +kernel
theorem dX10_minute_69 : decode cX10_minute 69 = .ok (.aload_n 0, 1) := by decide +kernel
theorem dX10_minute_70 : decode cX10_minute 70 = .ok (.aload_n 1, 1) := by decide +kernel
theorem dX10_minute_71 : decode cX10_minute 71 = .ok (.aload_n 2, 1) := by decide +kernel
theorem dX10_minute_72 : decode cX10_minute 72 = .ok (.iload 4, 2) := by decide +kernel
theorem dX10_minute_74 : decode cX10_minute 74 = .ok (.iload_n 3, 1) := by decide +kernel
theorem dX10_minute_75 : decode cX10_minute 75 = .ok (.invokevirtual 299, 3) := by decide +kernel
theorem dX10_minute_78 : decode cX10_minute 78 = .ok (.iinc 4 (-1), 3) := by decide +kernel
theorem dX10_minute_81 : decode cX10_minute 81 = .ok (.goto (-17), 3) := by decide +kernel
theorem dX10_minute_84 : decode cX10_minute 84 = .ok (.iconst 0, 1) := by decide +kernel
theorem dX10_minute_85 : decode cX10_minute 85 = .ok (.istore 4, 2) := by decide +kernel
theorem dX10_minute_87 : decode cX10_minute 87 = .ok (.iload 4, 2) := by decide +kernel
theorem dX10_minute_89 : decode cX10_minute 89 = .ok (.aload_n 0, 1) := by decide +kernel
theorem dX10_minute_90 : decode cX10_minute 90 = .ok (.getfield 242, 3) := by decide +kernel
theorem dX10_minute_93 : decode cX10_minute 93 = .ok (.if_icmp .ge 18, 3) := by decide +kernel
theorem dX10_minute_96 : decode cX10_minute 96 = .ok (.aload_n 0, 1) := by decide +kernel
theorem dX10_minute_97 : decode cX10_minute 97 = .ok (.aload_n 1, 1) := by decide +kernel
theorem dX10_minute_98 : decode cX10_minute 98 = .ok (.aload_n 2, 1) := by decide +kernel
theorem dX10_minute_99 : decode cX10_minute 99 = .ok (.iload 4, 2) := by decide +kernel
theorem dX10_minute_101 : decode cX10_minute 101 = .ok (.iload_n 3, 1) := by decide +kernel
theorem dX10_minute_102 : decode cX10_minute 102 = .ok (.invokevirtual 303, 3) := by decide +kernel
theorem dX10_minute_105 : decode cX10_minute 105 = .ok (.iinc 4 1, 3) := by decide +kernel
theorem dX10_minute_108 : decode cX10_minute 108 = .ok (.goto (-21), 3) := by decide +kernel
theorem dX10_minute_111 : decode cX10_minute 111 = .ok (.iconst 0, 1) := by decide +kernel
theorem dX10_minute_112 : decode cX10_minute 112 = .ok (.istore 4, 2) := by decide +kernel
theorem dX10_minute_114 : decode cX10_minute 114 = .ok (.iload 4, 2) := by decide +kernel
theorem dX10_minute_116 : decode cX10_minute 116 = .ok (.aload_n 0, 1) := by decide +kernel
theorem dX10_minute_117 : decode cX10_minute 117 = .ok (.getfield 242, 3) := by decide +kernel
theorem dX10_minute_120 : decode cX10_minute 120 = .ok (.if_icmp .ge 16, 3) := by decide +kernel
theorem dX10_minute_123 : decode cX10_minute 123 = .ok (.aload_n 0, 1) := by decide +kernel
theorem dX10_minute_124 : decode cX10_minute 124 = .ok (.aload_n 1, 1) := by decide +kernel
theorem dX10_minute_125 : decode cX10_minute 125 = .ok (.iload 4, 2) := by decide +kernel
theorem dX10_minute_127 : decode cX10_minute 127 = .ok (.invokevirtual 306, 3) := by decide +kernel
theorem dX10_minute_130 : decode cX10_minute 130 = .ok (.iinc 4 1, 3) := by decide +kernel
theorem dX10_minute_133 : decode cX10_minute 133 = .ok (.goto (-19), 3) := by decide +kernel
theorem dX10_minute_136 : decode cX10_minute 136 = .ok (.aload_n 1, 1) := by decide +kernel
theorem dX10_minute_137 : decode cX10_minute 137 = .ok (.iconst 0, 1) := by decide +kernel
theorem dX10_minute_138 : decode cX10_minute 138 = .ok (.dup2, 1) := by decide +kernel
theorem dX10_minute_139 : decode cX10_minute 139 = .ok (.iaload, 1) := by decide +kernel
theorem dX10_minute_140 : decode cX10_minute 140 = .ok (.iconst 1, 1) := by decide +kernel
theorem dX10_minute_141 : decode cX10_minute 141 = .ok (.iadd, 1) := by decide +kernel
theorem dX10_minute_142 : decode cX10_minute 142 = .ok (.iastore, 1) := by decide +kernel
theorem dX10_minute_143 : decode cX10_minute 143 = .ok (.return_, 1) := by decide +kernel
theorem dX10_peaks_0 : decode cX10_peaks 0 = .ok (.iconst 0, 1) := by decide +kernel
theorem dX10_peaks_1 : decode cX10_peaks 1 = .ok (.istore_n 3, 1) := by decide +kernel
theorem dX10_peaks_2 : decode cX10_peaks 2 = .ok (.iconst 0, 1) := by decide +kernel
theorem dX10_peaks_3 : decode cX10_peaks 3 = .ok (.istore 4, 2) := by decide +kernel
theorem dX10_peaks_5 : decode cX10_peaks 5 = .ok (.iload 4, 2) := by decide +kernel
theorem dX10_peaks_7 : decode cX10_peaks 7 = .ok (.aload_n 0, 1) := by decide +kernel
theorem dX10_peaks_8 : decode cX10_peaks 8 = .ok (.getfield 248, 3) := by decide +kernel
theorem dX10_peaks_11 : decode cX10_peaks 11 = .ok (.if_icmp .ge 20, 3) := by decide +kernel
theorem dX10_peaks_14 : decode cX10_peaks 14 = .ok (.iload_n 3, 1) := by decide +kernel
theorem dX10_peaks_15 : decode cX10_peaks 15 = .ok (.aload_n 1, 1) := by decide +kernel
theorem dX10_peaks_16 : decode cX10_peaks 16 = .ok (.iload_n 2, 1) := by decide +kernel
theorem dX10_peaks_17 : decode cX10_peaks 17 = .ok (.iload 4, 2) := by decide +kernel
theorem dX10_peaks_19 : decode cX10_peaks 19 = .ok (.invokestatic 267, 3) := by decide +kernel
theorem dX10_peaks_22 : decode cX10_peaks 22 = .ok (.iaload, 1) := by decide +kernel
theorem dX10_peaks_23 : decode cX10_peaks 23 = .ok (.iadd, 1) := by decide +kernel
theorem dX10_peaks_24 : decode cX10_peaks 24 = .ok (.istore_n 3, 1) := by decide +kernel
theorem dX10_peaks_25 : decode cX10_peaks 25 = .ok (.iinc 4 1, 3) := by decide +kernel
theorem dX10_peaks_28 : decode cX10_peaks 28 = .ok (.goto (-23), 3) := by decide +kernel
theorem dX10_peaks_31 : decode cX10_peaks 31 = .ok (.iload_n 3, 1) := by decide +kernel
theorem dX10_peaks_32 : decode cX10_peaks 32 = .ok (.aload_n 1, 1) := by decide +kernel
theorem dX10_peaks_33 : decode cX10_peaks 33 = .ok (.bipush 90, 2) := by decide +kernel
theorem dX10_peaks_35 : decode cX10_peaks 35 = .ok (.iload_n 2, 1) := by decide +kernel
theorem dX10_peaks_36 : decode cX10_peaks 36 = .ok (.iadd, 1) := by decide +kernel
theorem dX10_peaks_37 : decode cX10_peaks 37 = .ok (.iaload, 1) := by decide +kernel
theorem dX10_peaks_38 : decode cX10_peaks 38 = .ok (.if_icmp .le 10, 3) := by decide +kernel
theorem dX10_peaks_41 : decode cX10_peaks 41 = .ok (.aload_n 1, 1) := by decide +kernel
theorem dX10_peaks_42 : decode cX10_peaks 42 = .ok (.bipush 90, 2) := by decide +kernel
theorem dX10_peaks_44 : decode cX10_peaks 44 = .ok (.iload_n 2, 1) := by decide +kernel
theorem dX10_peaks_45 : decode cX10_peaks 45 = .ok (.iadd, 1) := by decide +kernel
theorem dX10_peaks_46 : decode cX10_peaks 46 = .ok (.iload_n 3, 1) := by decide +kernel
theorem dX10_peaks_47 : decode cX10_peaks 47 = .ok (.iastore, 1) := by decide +kernel
theorem dX10_peaks_48 : decode cX10_peaks 48 = .ok (.return_, 1) := by decide +kernel
theorem dX10_delivered_0 : decode cX10_delivered 0 = .ok (.iconst 0, 1) := by decide +kernel
theorem dX10_delivered_1 : decode cX10_delivered 1 = .ok (.istore_n 2, 1) := by decide +kernel
theorem dX10_delivered_2 : decode cX10_delivered 2 = .ok (.iconst 0, 1) := by decide +kernel
theorem dX10_delivered_3 : decode cX10_delivered 3 = .ok (.istore_n 3, 1) := by decide +kernel
theorem dX10_delivered_4 : decode cX10_delivered 4 = .ok (.iload_n 3, 1) := by decide +kernel
theorem dX10_delivered_5 : decode cX10_delivered 5 = .ok (.aload_n 0, 1) := by decide +kernel
theorem dX10_delivered_6 : decode cX10_delivered 6 = .ok (.getfield 248, 3) := by decide +kernel
theorem dX10_delivered_9 : decode cX10_delivered 9 = .ok (.if_icmp .ge 19, 3) := by decide +kernel
theorem dX10_delivered_12 : decode cX10_delivered 12 = .ok (.iload_n 2, 1) := by decide +kernel
theorem dX10_delivered_13 : decode cX10_delivered 13 = .ok (.aload_n 1, 1) := by decide +kernel
theorem dX10_delivered_14 : decode cX10_delivered 14 = .ok (.iload_n 3, 1) := by decide +kernel
theorem dX10_delivered_15 : decode cX10_delivered 15 = .ok (.iconst 1, 1) := by decide +kernel
theorem dX10_delivered_16 : decode cX10_delivered 16 = .ok (.invokestatic 274, 3) := by decide +kernel
theorem dX10_delivered_19 : decode cX10_delivered 19 = .ok (.iaload, 1) := by decide +kernel
theorem dX10_delivered_20 : decode cX10_delivered 20 = .ok (.iadd, 1) := by decide +kernel
theorem dX10_delivered_21 : decode cX10_delivered 21 = .ok (.istore_n 2, 1) := by decide +kernel
theorem dX10_delivered_22 : decode cX10_delivered 22 = .ok (.iinc 3 1, 3) := by decide +kernel
theorem dX10_delivered_25 : decode cX10_delivered 25 = .ok (.goto (-21), 3) := by decide +kernel
theorem dX10_delivered_28 : decode cX10_delivered 28 = .ok (.iload_n 2, 1) := by decide +kernel
theorem dX10_delivered_29 : decode cX10_delivered 29 = .ok (.ireturn, 1) := by decide +kernel
theorem dX10_isBench_0 : decode cX10_isBench 0 = .ok (.aload_n 0, 1) := by decide +kernel
theorem dX10_isBench_1 : decode cX10_isBench 1 = .ok (.getfield 257, 3) := by decide +kernel
theorem dX10_isBench_4 : decode cX10_isBench 4 = .ok (.ifCond .eq 21, 3) := by decide +kernel
theorem dX10_isBench_7 : decode cX10_isBench 7 = .ok (.iload_n 1, 1) := by decide +kernel
theorem dX10_isBench_8 : decode cX10_isBench 8 = .ok (.iconst 0, 1) := by decide +kernel
theorem dX10_isBench_9 : decode cX10_isBench 9 = .ok (.aload_n 0, 1) := by decide +kernel
theorem dX10_isBench_10 : decode cX10_isBench 10 = .ok (.getfield 242, 3) := by decide +kernel
theorem dX10_isBench_13 : decode cX10_isBench 13 = .ok (.iconst 1, 1) := by decide +kernel
theorem dX10_isBench_14 : decode cX10_isBench 14 = .ok (.isub, 1) := by decide +kernel
theorem dX10_isBench_15 : decode cX10_isBench 15 = .ok (.invokestatic 95, 3) := by decide +kernel
theorem dX10_isBench_18 : decode cX10_isBench 18 = .ok (.ifCond .eq 7, 3) := by decide +kernel
theorem dX10_isBench_21 : decode cX10_isBench 21 = .ok (.iconst 1, 1) := by decide +kernel
theorem dX10_isBench_22 : decode cX10_isBench 22 = .ok (.goto 4, 3) := by decide +kernel
theorem dX10_isBench_25 : decode cX10_isBench 25 = .ok (.iconst 0, 1) := by decide +kernel
theorem dX10_isBench_26 : decode cX10_isBench 26 = .ok (.ireturn, 1) := by decide +kernel
theorem dX10_isKind_0 : decode cX10_isKind 0 = .ok (.aload_n 0, 1) := by decide +kernel
theorem dX10_isKind_1 : decode cX10_isKind 1 = .ok (.getfield 257, 3) := by decide +kernel
theorem dX10_isKind_4 : decode cX10_isKind 4 = .ok (.ifCond .eq 21, 3) := by decide +kernel
theorem dX10_isKind_7 : decode cX10_isKind 7 = .ok (.iload_n 1, 1) := by decide +kernel
theorem dX10_isKind_8 : decode cX10_isKind 8 = .ok (.iconst 0, 1) := by decide +kernel
theorem dX10_isKind_9 : decode cX10_isKind 9 = .ok (.aload_n 0, 1) := by decide +kernel
theorem dX10_isKind_10 : decode cX10_isKind 10 = .ok (.getfield 248, 3) := by decide +kernel
theorem dX10_isKind_13 : decode cX10_isKind 13 = .ok (.iconst 1, 1) := by decide +kernel
theorem dX10_isKind_14 : decode cX10_isKind 14 = .ok (.isub, 1) := by decide +kernel
theorem dX10_isKind_15 : decode cX10_isKind 15 = .ok (.invokestatic 95, 3) := by decide +kernel
theorem dX10_isKind_18 : decode cX10_isKind 18 = .ok (.ifCond .eq 7, 3) := by decide +kernel
theorem dX10_isKind_21 : decode cX10_isKind 21 = .ok (.iconst 1, 1) := by decide +kernel
theorem dX10_isKind_22 : decode cX10_isKind 22 = .ok (.goto 4, 3) := by decide +kernel
theorem dX10_isKind_25 : decode cX10_isKind 25 = .ok (.iconst 0, 1) := by decide +kernel
theorem dX10_isKind_26 : decode cX10_isKind 26 = .ok (.ireturn, 1) := by decide +kernel
theorem dX10_toldCards_0 : decode cX10_toldCards 0 = .ok (.iconst 0, 1) := by decide +kernel
theorem dX10_toldCards_1 : decode cX10_toldCards 1 = .ok (.istore_n 1, 1) := by decide +kernel
theorem dX10_toldCards_2 : decode cX10_toldCards 2 = .ok (.iconst 0, 1) := by decide +kernel
theorem dX10_toldCards_3 : decode cX10_toldCards 3 = .ok (.istore_n 2, 1) := by decide +kernel
theorem dX10_toldCards_4 : decode cX10_toldCards 4 = .ok (.iload_n 2, 1) := by decide +kernel
theorem dX10_toldCards_5 : decode cX10_toldCards 5 = .ok (.aload_n 0, 1) := by decide +kernel
theorem dX10_toldCards_6 : decode cX10_toldCards 6 = .ok (.getfield 242, 3) := by decide +kernel
theorem dX10_toldCards_9 : decode cX10_toldCards 9 = .ok (.if_icmp .ge 38, 3) := by decide +kernel
theorem dX10_toldCards_12 : decode cX10_toldCards 12 = .ok (.iconst 0, 1) := by decide +kernel
theorem dX10_toldCards_13 : decode cX10_toldCards 13 = .ok (.istore_n 3, 1) := by decide +kernel
theorem dX10_toldCards_14 : decode cX10_toldCards 14 = .ok (.iload_n 3, 1) := by decide +kernel
theorem dX10_toldCards_15 : decode cX10_toldCards 15 = .ok (.aload_n 0, 1) := by decide +kernel
theorem dX10_toldCards_16 : decode cX10_toldCards 16 = .ok (.getfield 248, 3) := by decide +kernel
theorem dX10_toldCards_19 : decode cX10_toldCards 19 = .ok (.if_icmp .ge 22, 3) := by decide +kernel
theorem dX10_toldCards_22 : decode cX10_toldCards 22 = .ok (.iload_n 1, 1) := by decide +kernel
theorem dX10_toldCards_23 : decode cX10_toldCards 23 = .ok (.aload_n 0, 1) := by decide +kernel
theorem dX10_toldCards_24 : decode cX10_toldCards 24 = .ok (.getfield 42, 3) := by decide +kernel
