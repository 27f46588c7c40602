theorem dX10_toldCards_27 : decode cX10_toldCards 27 = .ok (.iconst 3, 1) := by decide +kernel
theorem dX10_toldCards_28 : decode cX10_toldCards 28 = .ok (.iload_n 2, 1) := by decide +kernel
theorem dX10_toldCards_29 : decode cX10_toldCards 29 = .ok (.imul, 1) := by decide +kernel
theorem dX10_toldCards_30 : decode cX10_toldCards 30 = .ok (.iload_n 3, 1) := by decide +kernel
theorem dX10_toldCards_31 : decode cX10_toldCards 31 = .ok (.iadd, 1) := by decide +kernel
theorem dX10_toldCards_32 : decode cX10_toldCards 32 = .ok (.iaload, 1) := by decide +kernel
theorem dX10_toldCards_33 : decode cX10_toldCards 33 = .ok (.iadd, 1) := by decide +kernel
theorem dX10_toldCards_34 : decode cX10_toldCards 34 = .ok (.istore_n 1, 1) := by decide +kernel
theorem dX10_toldCards_35 : decode cX10_toldCards 35 = .ok (.iinc 3 1, 3) := by decide +kernel
theorem dX10_toldCards_38 : decode cX10_toldCards 38 = .ok (.goto (-24), 3) := by decide +kernel
theorem dX10_toldCards_41 : decode cX10_toldCards 41 = .ok (.iinc 2 1, 3) := by decide +kernel
theorem dX10_toldCards_44 : decode cX10_toldCards 44 = .ok (.goto (-40), 3) := by decide +kernel
theorem dX10_toldCards_47 : decode cX10_toldCards 47 = .ok (.iload_n 1, 1) := by decide +kernel
theorem dX10_toldCards_48 : decode cX10_toldCards 48 = .ok (.ireturn, 1) := by decide +kernel
theorem dX10_heldCards_0 : decode cX10_heldCards 0 = .ok (.iconst 0, 1) := by decide +kernel
theorem dX10_heldCards_1 : decode cX10_heldCards 1 = .ok (.istore_n 1, 1) := by decide +kernel
theorem dX10_heldCards_2 : decode cX10_heldCards 2 = .ok (.iconst 0, 1) := by decide +kernel
theorem dX10_heldCards_3 : decode cX10_heldCards 3 = .ok (.istore_n 2, 1) := by decide +kernel
theorem dX10_heldCards_4 : decode cX10_heldCards 4 = .ok (.iload_n 2, 1) := by decide +kernel
theorem dX10_heldCards_5 : decode cX10_heldCards 5 = .ok (.aload_n 0, 1) := by decide +kernel
theorem dX10_heldCards_6 : decode cX10_heldCards 6 = .ok (.getfield 242, 3) := by decide +kernel
theorem dX10_heldCards_9 : decode cX10_heldCards 9 = .ok (.if_icmp .ge 49, 3) := by decide +kernel
theorem dX10_heldCards_12 : decode cX10_heldCards 12 = .ok (.iconst 0, 1) := by decide +kernel
theorem dX10_heldCards_13 : decode cX10_heldCards 13 = .ok (.istore_n 3, 1) := by decide +kernel
theorem dX10_heldCards_14 : decode cX10_heldCards 14 = .ok (.iload_n 3, 1) := by decide +kernel
theorem dX10_heldCards_15 : decode cX10_heldCards 15 = .ok (.aload_n 0, 1) := by decide +kernel
theorem dX10_heldCards_16 : decode cX10_heldCards 16 = .ok (.getfield 248, 3) := by decide +kernel
theorem dX10_heldCards_19 : decode cX10_heldCards 19 = .ok (.if_icmp .ge 33, 3) := by decide +kernel
theorem dX10_heldCards_22 : decode cX10_heldCards 22 = .ok (.iload_n 1, 1) := by decide +kernel
theorem dX10_heldCards_23 : decode cX10_heldCards 23 = .ok (.aload_n 0, 1) := by decide +kernel
theorem dX10_heldCards_24 : decode cX10_heldCards 24 = .ok (.getfield 57, 3) := by decide +kernel
theorem dX10_heldCards_27 : decode cX10_heldCards 27 = .ok (.iload_n 2, 1) := by decide +kernel
theorem dX10_heldCards_28 : decode cX10_heldCards 28 = .ok (.iload_n 3, 1) := by decide +kernel
theorem dX10_heldCards_29 : decode cX10_heldCards 29 = .ok (.invokestatic 267, 3) := by decide +kernel
theorem dX10_heldCards_32 : decode cX10_heldCards 32 = .ok (.iaload, 1) := by decide +kernel
theorem dX10_heldCards_33 : decode cX10_heldCards 33 = .ok (.aload_n 0, 1) := by decide +kernel
theorem dX10_heldCards_34 : decode cX10_heldCards 34 = .ok (.aload_n 0, 1) := by decide +kernel
theorem dX10_heldCards_35 : decode cX10_heldCards 35 = .ok (.getfield 57, 3) := by decide +kernel
theorem dX10_heldCards_38 : decode cX10_heldCards 38 = .ok (.iload_n 2, 1) := by decide +kernel
theorem dX10_heldCards_39 : decode cX10_heldCards 39 = .ok (.iload_n 3, 1) := by decide +kernel
theorem dX10_heldCards_40 : decode cX10_heldCards 40 = .ok (.invokevirtual 270, 3) := by decide +kernel
theorem dX10_heldCards_43 : decode cX10_heldCards 43 = .ok (.iadd, 1) := by decide +kernel
theorem dX10_heldCards_44 : decode cX10_heldCards 44 = .ok (.iadd, 1) := by decide +kernel
theorem dX10_heldCards_45 : decode cX10_heldCards 45 = .ok (.istore_n 1, 1) := by decide +kernel
theorem dX10_heldCards_46 : decode cX10_heldCards 46 = .ok (.iinc 3 1, 3) := by decide +kernel
theorem dX10_heldCards_49 : decode cX10_heldCards 49 = .ok (.goto (-35), 3) := by decide +kernel
theorem dX10_heldCards_52 : decode cX10_heldCards 52 = .ok (.iinc 2 1, 3) := by decide +kernel
theorem dX10_heldCards_55 : decode cX10_heldCards 55 = .ok (.goto (-51), 3) := by decide +kernel
theorem dX10_heldCards_58 : decode cX10_heldCards 58 = .ok (.iload_n 1, 1) := by decide +kernel
theorem dX10_heldCards_59 : decode cX10_heldCards 59 = .ok (.ireturn, 1) := by decide +kernel
theorem dX10_about_0 : decode cX10_about 0 = .ok (.aload_n 0, 1) := by decide +kernel
theorem dX10_about_1 : decode cX10_about 1 = .ok (.iconst 0, 1) := by decide +kernel
theorem dX10_about_2 : decode cX10_about 2 = .ok (.putfield 74, 3) := by decide +kernel
theorem dX10_about_5 : decode cX10_about 5 = .ok (.aload_n 0, 1) := by decide +kernel
theorem dX10_about_6 : decode cX10_about 6 = .ok (.getfield 257, 3) := by decide +kernel
theorem dX10_about_9 : decode cX10_about 9 = .ok (.ifCond .ne 9, 3) := by decide +kernel
theorem dX10_about_12 : decode cX10_about 12 = .ok (.aload_n 0, 1) := by decide +kernel
theorem dX10_about_13 : decode cX10_about 13 = .ok (.iconst 1, 1) := by decide +kernel
theorem dX10_about_14 : decode cX10_about 14 = .ok (.invokevirtual 232, 3) := by decide +kernel
theorem dX10_about_17 : decode cX10_about 17 = .ok (.ireturn, 1) := by decide +kernel
theorem dX10_about_18 : decode cX10_about 18 = .ok (.iload_n 1, 1) := by decide +kernel
theorem dX10_about_19 : decode cX10_about 19 = .ok (.tableswitch 122 0 7 #[45, 54, 63, 72, 84, 95, 104, 113], 45) := by decide +kernel
theorem dX10_about_64 : decode cX10_about 64 = .ok (.aload_n 0, 1) := by decide +kernel
theorem dX10_about_65 : decode cX10_about 65 = .ok (.aload_n 0, 1) := by decide +kernel
theorem dX10_about_66 : decode cX10_about 66 = .ok (.getfield 248, 3) := by decide +kernel
theorem dX10_about_69 : decode cX10_about 69 = .ok (.invokevirtual 245, 3) := by decide +kernel
theorem dX10_about_72 : decode cX10_about 72 = .ok (.ireturn, 1) := by decide +kernel
theorem dX10_about_73 : decode cX10_about 73 = .ok (.aload_n 0, 1) := by decide +kernel
theorem dX10_about_74 : decode cX10_about 74 = .ok (.aload_n 0, 1) := by decide +kernel
theorem dX10_about_75 : decode cX10_about 75 = .ok (.getfield 242, 3) := by decide +kernel
theorem dX10_about_78 : decode cX10_about 78 = .ok (.invokevirtual 245, 3) := by decide +kernel
theorem dX10_about_81 : decode cX10_about 81 = .ok (.ireturn, 1) := by decide +kernel
theorem dX10_about_82 : decode cX10_about 82 = .ok (.aload_n 0, 1) := by decide +kernel
theorem dX10_about_83 : decode cX10_about 83 = .ok (.aload_n 0, 1) := by decide +kernel
theorem dX10_about_84 : decode cX10_about 84 = .ok (.getfield 251, 3) := by decide +kernel
theorem dX10_about_87 : decode cX10_about 87 = .ok (.invokevirtual 245, 3) := by decide +kernel
theorem dX10_about_90 : decode cX10_about 90 = .ok (.ireturn, 1) := by decide +kernel
theorem dX10_about_91 : decode cX10_about 91 = .ok (.aload_n 0, 1) := by decide +kernel
theorem dX10_about_92 : decode cX10_about 92 = .ok (.aload_n 0, 1) := by decide +kernel
theorem dX10_about_93 : decode cX10_about 93 = .ok (.getfield 42, 3) := by decide +kernel
theorem dX10_about_96 : decode cX10_about 96 = .ok (.bipush 36, 2) := by decide +kernel
theorem dX10_about_98 : decode cX10_about 98 = .ok (.iaload, 1) := by decide +kernel
theorem dX10_about_99 : decode cX10_about 99 = .ok (.invokevirtual 245, 3) := by decide +kernel
theorem dX10_about_102 : decode cX10_about 102 = .ok (.ireturn, 1) := by decide +kernel
theorem dX10_about_103 : decode cX10_about 103 = .ok (.aload_n 0, 1) := by decide +kernel
theorem dX10_about_104 : decode cX10_about 104 = .ok (.aload_n 0, 1) := by decide +kernel
theorem dX10_about_105 : decode cX10_about 105 = .ok (.getfield 57, 3) := by decide +kernel
theorem dX10_about_108 : decode cX10_about 108 = .ok (.iconst 0, 1) := by decide +kernel
theorem dX10_about_109 : decode cX10_about 109 = .ok (.iaload, 1) := by decide +kernel
theorem dX10_about_110 : decode cX10_about 110 = .ok (.invokevirtual 245, 3) := by decide +kernel
theorem dX10_about_113 : decode cX10_about 113 = .ok (.ireturn, 1) := by decide +kernel
theorem dX10_about_114 : decode cX10_about 114 = .ok (.aload_n 0, 1) := by decide +kernel
theorem dX10_about_115 : decode cX10_about 115 = .ok (.aload_n 0, 1) := by decide +kernel
theorem dX10_about_116 : decode cX10_about 116 = .ok (.invokevirtual 310, 3) := by decide +kernel
theorem dX10_about_119 : decode cX10_about 119 = .ok (.invokevirtual 245, 3) := by decide +kernel
theorem dX10_about_122 : decode cX10_about 122 = .ok (.ireturn, 1) := by decide +kernel
theorem dX10_about_123 : decode cX10_about 123 = .ok (.aload_n 0, 1) := by decide +kernel
theorem dX10_about_124 : decode cX10_about 124 = .ok (.aload_n 0, 1) := by decide +kernel
theorem dX10_about_125 : decode cX10_about 125 = .ok (.invokevirtual 313, 3) := by decide +kernel
theorem dX10_about_128 : decode cX10_about 128 = .ok (.invokevirtual 245, 3) := by decide +kernel
theorem dX10_about_131 : decode cX10_about 131 = .ok (.ireturn, 1) := by decide +kernel
theorem dX10_about_132 : decode cX10_about 132 = .ok (.aload_n 0, 1) := by decide +kernel
theorem dX10_about_133 : decode cX10_about 133 = .ok (.aload_n 0, 1) := by decide +kernel
theorem dX10_about_134 : decode cX10_about 134 = .ok (.getfield 254, 3) := by decide +kernel
theorem dX10_about_137 : decode cX10_about 137 = .ok (.invokevirtual 245, 3) := by decide +kernel
theorem dX10_about_140 : decode cX10_about 140 = .ok (.ireturn, 1) := by decide +kernel
theorem dX10_about_141 : decode cX10_about 141 = .ok (.aload_n 0, 1) := by decide +kernel
theorem dX10_about_142 : decode cX10_about 142 = .ok (.iconst 1, 1) := by decide +kernel
theorem dX10_about_143 : decode cX10_about 143 = .ok (.invokevirtual 232, 3) := by decide +kernel
theorem dX10_about_146 : decode cX10_about 146 = .ok (.ireturn, 1) := by decide +kernel
theorem dX10_bench_0 : decode cX10_bench 0 = .ok (.aload_n 0, 1) := by decide +kernel
theorem dX10_bench_1 : decode cX10_bench 1 = .ok (.iconst 0, 1) := by decide +kernel
theorem dX10_bench_2 : decode cX10_bench 2 = .ok (.putfield 74, 3) := by decide +kernel
theorem dX10_bench_5 : decode cX10_bench 5 = .ok (.aload_n 0, 1) := by decide +kernel
theorem dX10_bench_6 : decode cX10_bench 6 = .ok (.iload_n 1, 1) := by decide +kernel
theorem dX10_bench_7 : decode cX10_bench 7 = .ok (.invokevirtual 316, 3) := by decide +kernel
theorem dX10_bench_10 : decode cX10_bench 10 = .ok (.ifCond .eq 12, 3) := by decide +kernel
theorem dX10_bench_13 : decode cX10_bench 13 = .ok (.iload_n 2, 1) := by decide +kernel
theorem dX10_bench_14 : decode cX10_bench 14 = .ok (.iconst 0, 1) := by decide +kernel
theorem dX10_bench_15 : decode cX10_bench 15 = .ok (.iconst 3, 1) := by decide +kernel
theorem dX10_bench_16 : decode cX10_bench 16 = .ok (.invokestatic 95, 3) := by decide +kernel
theorem dX10_bench_19 : decode cX10_bench 19 = .ok (.ifCond .ne 9, 3) := by decide +kernel
theorem dX10_bench_22 : decode cX10_bench 22 = .ok (.aload_n 0, 1) := by decide +kernel
theorem dX10_bench_23 : decode cX10_bench 23 = .ok (.iconst 1, 1) := by decide +kernel
theorem dX10_bench_24 : decode cX10_bench 24 = .ok (.invokevirtual 232, 3) := by decide +kernel
theorem dX10_bench_27 : decode cX10_bench 27 = .ok (.ireturn, 1) := by decide +kernel
theorem dX10_bench_28 : decode cX10_bench 28 = .ok (.iconst 0, 1) := by decide +kernel
theorem dX10_bench_29 : decode cX10_bench 29 = .ok (.istore_n 3, 1) := by decide +kernel
theorem dX10_bench_30 : decode cX10_bench 30 = .ok (.iconst 0, 1) := by decide +kernel
theorem dX10_bench_31 : decode cX10_bench 31 = .ok (.istore 4, 2) := by decide +kernel
theorem dX10_bench_33 : decode cX10_bench 33 = .ok (.iload 4, 2) := by decide +kernel
theorem dX10_bench_35 : decode cX10_bench 35 = .ok (.aload_n 0, 1) := by decide +kernel
theorem dX10_bench_36 : decode cX10_bench 36 = .ok (.getfield 248, 3) := by decide +kernel
theorem dX10_bench_39 : decode cX10_bench 39 = .ok (.if_icmp .ge 26, 3) := by decide +kernel
theorem dX10_bench_42 : decode cX10_bench 42 = .ok (.iload_n 3, 1) := by decide +kernel
theorem dX10_bench_43 : decode cX10_bench 43 = .ok (.aload_n 0, 1) := by decide +kernel
theorem dX10_bench_44 : decode cX10_bench 44 = .ok (.getfield 42, 3) := by decide +kernel
theorem dX10_bench_47 : decode cX10_bench 47 = .ok (.bipush 18, 2) := by decide +kernel
theorem dX10_bench_49 : decode cX10_bench 49 = .ok (.iconst 3, 1) := by decide +kernel
theorem dX10_bench_50 : decode cX10_bench 50 = .ok (.iload_n 1, 1) := by decide +kernel
theorem dX10_bench_51 : decode cX10_bench 51 = .ok (.imul, 1) := by decide +kernel
theorem dX10_bench_52 : decode cX10_bench 52 = .ok (.iadd, 1) := by decide +kernel
theorem dX10_bench_53 : decode cX10_bench 53 = .ok (.iload 4, 2) := by decide +kernel
theorem dX10_bench_55 : decode cX10_bench 55 = .ok (.iadd, 1) := by decide +kernel
theorem dX10_bench_56 : decode cX10_bench 56 = .ok (.iaload, 1) := by decide +kernel
theorem dX10_bench_57 : decode cX10_bench 57 = .ok (.iadd, 1) := by decide +kernel
theorem dX10_bench_58 : decode cX10_bench 58 = .ok (.istore_n 3, 1) := by decide +kernel
theorem dX10_bench_59 : decode cX10_bench 59 = .ok (.iinc 4 1, 3) := by decide +kernel
theorem dX10_bench_62 : decode cX10_bench 62 = .ok (.goto (-29), 3) := by decide +kernel
theorem dX10_bench_65 : decode cX10_bench 65 = .ok (.aload_n 0, 1) := by decide +kernel
theorem dX10_bench_66 : decode cX10_bench 66 = .ok (.iload_n 2, 1) := by decide +kernel
theorem dX10_bench_67 : decode cX10_bench 67 = .ok (.ifCond .ne 12, 3) := by decide +kernel
theorem dX10_bench_70 : decode cX10_bench 70 = .ok (.aload_n 0, 1) := by decide +kernel
theorem dX10_bench_71 : decode cX10_bench 71 = .ok (.getfield 24, 3) := by decide +kernel
theorem dX10_bench_74 : decode cX10_bench 74 = .ok (.iload_n 1, 1) := by decide +kernel
theorem dX10_bench_75 : decode cX10_bench 75 = .ok (.iaload, 1) := by decide +kernel
theorem dX10_bench_76 : decode cX10_bench 76 = .ok (.goto 32, 3) := by decide +kernel
theorem dX10_bench_79 : decode cX10_bench 79 = .ok (.iload_n 2, 1) := by decide +kernel
theorem dX10_bench_80 : decode cX10_bench 80 = .ok (.iconst 1, 1) := by decide +kernel
theorem dX10_bench_81 : decode cX10_bench 81 = .ok (.if_icmp .ne 12, 3) := by decide +kernel
theorem dX10_bench_84 : decode cX10_bench 84 = .ok (.aload_n 0, 1) := by decide +kernel
theorem dX10_bench_85 : decode cX10_bench 85 = .ok (.getfield 27, 3) := by decide +kernel
theorem dX10_bench_88 : decode cX10_bench 88 = .ok (.iload_n 1, 1) := by decide +kernel
theorem dX10_bench_89 : decode cX10_bench 89 = .ok (.iaload, 1) := by decide +kernel
theorem dX10_bench_90 : decode cX10_bench 90 = .ok (.goto 18, 3) := by decide +kernel
theorem dX10_bench_93 : decode cX10_bench 93 = .ok (.iload_n 2, 1) := by decide +kernel
theorem dX10_bench_94 : decode cX10_bench 94 = .ok (.iconst 2, 1) := by decide +kernel
theorem dX10_bench_95 : decode cX10_bench 95 = .ok (.if_icmp .ne 12, 3) := by decide +kernel
theorem dX10_bench_98 : decode cX10_bench 98 = .ok (.aload_n 0, 1) := by decide +kernel
theorem dX10_bench_99 : decode cX10_bench 99 = .ok (.getfield 30, 3) := by decide +kernel
theorem dX10_bench_102 : decode cX10_bench 102 = .ok (.iload_n 1, 1) := by decide +kernel
theorem dX10_bench_103 : decode cX10_bench 103 = .ok (.iaload, 1) := by decide +kernel
theorem dX10_bench_104 : decode cX10_bench 104 = .ok (.goto 4, 3) := by decide +kernel
theorem dX10_bench_107 : decode cX10_bench 107 = .ok (.iload_n 3, 1) := by decide +kernel
theorem dX10_bench_108 : decode cX10_bench 108 = .ok (.invokevirtual 245, 3) := by decide +kernel
theorem dX10_bench_111 : decode cX10_bench 111 = .ok (.ireturn, 1) := by decide +kernel
theorem dX10_timeOf_0 : decode cX10_timeOf 0 = .ok (.aload_n 0, 1) := by decide +kernel
theorem dX10_timeOf_1 : decode cX10_timeOf 1 = .ok (.iconst 0, 1) := by decide +kernel
theorem dX10_timeOf_2 : decode cX10_timeOf 2 = .ok (.putfield 74, 3) := by decide +kernel
theorem dX10_timeOf_5 : decode cX10_timeOf 5 = .ok (.aload_n 0, 1) := by decide +kernel
theorem dX10_timeOf_6 : decode cX10_timeOf 6 = .ok (.iload_n 1, 1) := by decide +kernel
theorem dX10_timeOf_7 : decode cX10_timeOf 7 = .ok (.invokevirtual 316, 3) := by decide +kernel
theorem dX10_timeOf_10 : decode cX10_timeOf 10 = .ok (.ifCond .eq 31, 3) := by decide +kernel
theorem dX10_timeOf_13 : decode cX10_timeOf 13 = .ok (.aload_n 0, 1) := by decide +kernel
theorem dX10_timeOf_14 : decode cX10_timeOf 14 = .ok (.iload_n 2, 1) := by decide +kernel
theorem dX10_timeOf_15 : decode cX10_timeOf 15 = .ok (.invokevirtual 319, 3) := by decide +kernel
theorem dX10_timeOf_18 : decode cX10_timeOf 18 = .ok (.ifCond .eq 23, 3) := by decide +kernel
theorem dX10_timeOf_21 : decode cX10_timeOf 21 = .ok (.aload_n 0, 1) := by decide +kernel
theorem dX10_timeOf_22 : decode cX10_timeOf 22 = .ok (.aload_n 0, 1) := by decide +kernel
theorem dX10_timeOf_23 : decode cX10_timeOf 23 = .ok (.getfield 42, 3) := by decide +kernel
theorem dX10_timeOf_26 : decode cX10_timeOf 26 = .ok (.bipush 18, 2) := by decide +kernel
theorem dX10_timeOf_28 : decode cX10_timeOf 28 = .ok (.iconst 3, 1) := by decide +kernel
theorem dX10_timeOf_29 : decode cX10_timeOf 29 = .ok (.iload_n 1, 1) := by decide +kernel
theorem dX10_timeOf_30 : decode cX10_timeOf 30 = .ok (.imul, 1) := by decide +kernel
theorem dX10_timeOf_31 : decode cX10_timeOf 31 = .ok (.iadd, 1) := by decide +kernel
theorem dX10_timeOf_32 : decode cX10_timeOf 32 = .ok (.iload_n 2, 1) := by decide +kernel
theorem dX10_timeOf_33 : decode cX10_timeOf 33 = .ok (.iadd, 1) := by decide +kernel
theorem dX10_timeOf_34 : decode cX10_timeOf 34 = .ok (.iaload, 1) := by decide +kernel
theorem dX10_timeOf_35 : decode cX10_timeOf 35 = .ok (.invokevirtual 245, 3) := by decide +kernel
theorem dX10_timeOf_38 : decode cX10_timeOf 38 = .ok (.goto 8, 3) := by decide +kernel
theorem dX10_timeOf_41 : decode cX10_timeOf 41 = .ok (.aload_n 0, 1) := by decide +kernel
theorem dX10_timeOf_42 : decode cX10_timeOf 42 = .ok (.iconst 1, 1) := by decide +kernel
theorem dX10_timeOf_43 : decode cX10_timeOf 43 = .ok (.invokevirtual 232, 3) := by decide +kernel
theorem dX10_timeOf_46 : decode cX10_timeOf 46 = .ok (.ireturn, 1) := by decide +kernel
theorem dX10_stream_0 : decode cX10_stream 0 = .ok (.aload_n 0, 1) := by decide +kernel
theorem dX10_stream_1 : decode cX10_stream 1 = .ok (.iconst 0, 1) := by decide +kernel
theorem dX10_stream_2 : decode cX10_stream 2 = .ok (.putfield 74, 3) := by decide +kernel
theorem dX10_stream_5 : decode cX10_stream 5 = .ok (.aload_n 0, 1) := by decide +kernel
theorem dX10_stream_6 : decode cX10_stream 6 = .ok (.getfield 257, 3) := by decide +kernel
theorem dX10_stream_9 : decode cX10_stream 9 = .ok (.ifCond .eq 26, 3) := by decide +kernel
theorem dX10_stream_12 : decode cX10_stream 12 = .ok (.iload_n 1, 1) := by decide +kernel
theorem dX10_stream_13 : decode cX10_stream 13 = .ok (.iconst 0, 1) := by decide +kernel
theorem dX10_stream_14 : decode cX10_stream 14 = .ok (.aload_n 0, 1) := by decide +kernel
theorem dX10_stream_15 : decode cX10_stream 15 = .ok (.getfield 251, 3) := by decide +kernel
theorem dX10_stream_18 : decode cX10_stream 18 = .ok (.iconst 1, 1) := by decide +kernel
theorem dX10_stream_19 : decode cX10_stream 19 = .ok (.isub, 1) := by decide +kernel
theorem dX10_stream_20 : decode cX10_stream 20 = .ok (.invokestatic 95, 3) := by decide +kernel
theorem dX10_stream_23 : decode cX10_stream 23 = .ok (.ifCond .eq 12, 3) := by decide +kernel
theorem dX10_stream_26 : decode cX10_stream 26 = .ok (.iload_n 2, 1) := by decide +kernel
theorem dX10_stream_27 : decode cX10_stream 27 = .ok (.iconst 0, 1) := by decide +kernel
theorem dX10_stream_28 : decode cX10_stream 28 = .ok (.iconst 2, 1) := by decide +kernel
theorem dX10_stream_29 : decode cX10_stream 29 = .ok (.invokestatic 95, 3) := by decide +kernel
theorem dX10_stream_32 : decode cX10_stream 32 = .ok (.ifCond .ne 9, 3) := by decide +kernel
theorem dX10_stream_35 : decode cX10_stream 35 = .ok (.aload_n 0, 1) := by decide +kernel
theorem dX10_stream_36 : decode cX10_stream 36 = .ok (.iconst 1, 1) := by decide +kernel
theorem dX10_stream_37 : decode cX10_stream 37 = .ok (.invokevirtual 232, 3) := by decide +kernel
theorem dX10_stream_40 : decode cX10_stream 40 = .ok (.ireturn, 1) := by decide +kernel
theorem dX10_stream_41 : decode cX10_stream 41 = .ok (.aload_n 0, 1) := by decide +kernel
theorem dX10_stream_42 : decode cX10_stream 42 = .ok (.iload_n 2, 1) := by decide +kernel
theorem dX10_stream_43 : decode cX10_stream 43 = .ok (.ifCond .ne 12, 3) := by decide +kernel
theorem dX10_stream_46 : decode cX10_stream 46 = .ok (.aload_n 0, 1) := by decide +kernel
theorem dX10_stream_47 : decode cX10_stream 47 = .ok (.getfield 33, 3) := by decide +kernel
theorem dX10_stream_50 : decode cX10_stream 50 = .ok (.iload_n 1, 1) := by decide +kernel
theorem dX10_stream_51 : decode cX10_stream 51 = .ok (.iaload, 1) := by decide +kernel
theorem dX10_stream_52 : decode cX10_stream 52 = .ok (.goto 23, 3) := by decide +kernel
theorem dX10_stream_55 : decode cX10_stream 55 = .ok (.iload_n 2, 1) := by decide +kernel
theorem dX10_stream_56 : decode cX10_stream 56 = .ok (.iconst 1, 1) := by decide +kernel
theorem dX10_stream_57 : decode cX10_stream 57 = .ok (.if_icmp .ne 12, 3) := by decide +kernel
theorem dX10_stream_60 : decode cX10_stream 60 = .ok (.aload_n 0, 1) := by decide +kernel
theorem dX10_stream_61 : decode cX10_stream 61 = .ok (.getfield 36, 3) := by decide +kernel
theorem dX10_stream_64 : decode cX10_stream 64 = .ok (.iload_n 1, 1) := by decide +kernel
theorem dX10_stream_65 : decode cX10_stream 65 = .ok (.iaload, 1) := by decide +kernel
theorem dX10_stream_66 : decode cX10_stream 66 = .ok (.goto 9, 3) := by decide +kernel
theorem dX10_stream_69 : decode cX10_stream 69 = .ok (.aload_n 0, 1) := by decide +kernel
theorem dX10_stream_70 : decode cX10_stream 70 = .ok (.getfield 39, 3) := by decide +kernel
theorem dX10_stream_73 : decode cX10_stream 73 = .ok (.iload_n 1, 1) := by decide +kernel
theorem dX10_stream_74 : decode cX10_stream 74 = .ok (.iaload, 1) := by decide +kernel
theorem dX10_stream_75 : decode cX10_stream 75 = .ok (.invokevirtual 245, 3) := by decide +kernel
theorem dX10_stream_78 : decode cX10_stream 78 = .ok (.ireturn, 1) := by decide +kernel
theorem dX10_cardsOf_0 : decode cX10_cardsOf 0 = .ok (.aload_n 0, 1) := by decide +kernel
theorem dX10_cardsOf_1 : decode cX10_cardsOf 1 = .ok (.iconst 0, 1) := by decide +kernel
theorem dX10_cardsOf_2 : decode cX10_cardsOf 2 = .ok (.putfield 74, 3) := by decide +kernel
theorem dX10_cardsOf_5 : decode cX10_cardsOf 5 = .ok (.aload_n 0, 1) := by decide +kernel
theorem dX10_cardsOf_6 : decode cX10_cardsOf 6 = .ok (.iload_n 1, 1) := by decide +kernel
theorem dX10_cardsOf_7 : decode cX10_cardsOf 7 = .ok (.invokevirtual 316, 3) := by decide +kernel
theorem dX10_cardsOf_10 : decode cX10_cardsOf 10 = .ok (.ifCond .eq 20, 3) := by decide +kernel
theorem dX10_cardsOf_13 : decode cX10_cardsOf 13 = .ok (.aload_n 0, 1) := by decide +kernel
theorem dX10_cardsOf_14 : decode cX10_cardsOf 14 = .ok (.iload_n 2, 1) := by decide +kernel
theorem dX10_cardsOf_15 : decode cX10_cardsOf 15 = .ok (.invokevirtual 319, 3) := by decide +kernel
theorem dX10_cardsOf_18 : decode cX10_cardsOf 18 = .ok (.ifCond .eq 12, 3) := by decide +kernel
theorem dX10_cardsOf_21 : decode cX10_cardsOf 21 = .ok (.iload_n 3, 1) := by decide +kernel
theorem dX10_cardsOf_22 : decode cX10_cardsOf 22 = .ok (.iconst 0, 1) := by decide +kernel
theorem dX10_cardsOf_23 : decode cX10_cardsOf 23 = .ok (.iconst 3, 1) := by decide +kernel
theorem dX10_cardsOf_24 : decode cX10_cardsOf 24 = .ok (.invokestatic 95, 3) := by decide +kernel
theorem dX10_cardsOf_27 : decode cX10_cardsOf 27 = .ok (.ifCond .ne 9, 3) := by decide +kernel
theorem dX10_cardsOf_30 : decode cX10_cardsOf 30 = .ok (.aload_n 0, 1) := by decide +kernel
theorem dX10_cardsOf_31 : decode cX10_cardsOf 31 = .ok (.iconst 1, 1) := by decide +kernel
theorem dX10_cardsOf_32 : decode cX10_cardsOf 32 = .ok (.invokevirtual 232, 3) := by decide +kernel
theorem dX10_cardsOf_35 : decode cX10_cardsOf 35 = .ok (.ireturn, 1) := by decide +kernel
theorem dX10_cardsOf_36 : decode cX10_cardsOf 36 = .ok (.aload_n 0, 1) := by decide +kernel
theorem dX10_cardsOf_37 : decode cX10_cardsOf 37 = .ok (.iload_n 3, 1) := by decide +kernel
theorem dX10_cardsOf_38 : decode cX10_cardsOf 38 = .ok (.ifCond .ne 16, 3) := by decide +kernel
theorem dX10_cardsOf_41 : decode cX10_cardsOf 41 = .ok (.aload_n 0, 1) := by decide +kernel
theorem dX10_cardsOf_42 : decode cX10_cardsOf 42 = .ok (.getfield 42, 3) := by decide +kernel
theorem dX10_cardsOf_45 : decode cX10_cardsOf 45 = .ok (.iconst 3, 1) := by decide +kernel
theorem dX10_cardsOf_46 : decode cX10_cardsOf 46 = .ok (.iload_n 1, 1) := by decide +kernel
theorem dX10_cardsOf_47 : decode cX10_cardsOf 47 = .ok (.imul, 1) := by decide +kernel
theorem dX10_cardsOf_48 : decode cX10_cardsOf 48 = .ok (.iload_n 2, 1) := by decide +kernel
theorem dX10_cardsOf_49 : decode cX10_cardsOf 49 = .ok (.iadd, 1) := by decide +kernel
theorem dX10_cardsOf_50 : decode cX10_cardsOf 50 = .ok (.iaload, 1) := by decide +kernel
theorem dX10_cardsOf_51 : decode cX10_cardsOf 51 = .ok (.goto 53, 3) := by decide +kernel
theorem dX10_cardsOf_54 : decode cX10_cardsOf 54 = .ok (.iload_n 3, 1) := by decide +kernel
theorem dX10_cardsOf_55 : decode cX10_cardsOf 55 = .ok (.iconst 1, 1) := by decide +kernel
theorem dX10_cardsOf_56 : decode cX10_cardsOf 56 = .ok (.if_icmp .ne 16, 3) := by decide +kernel
theorem dX10_cardsOf_59 : decode cX10_cardsOf 59 = .ok (.aload_n 0, 1) := by decide +kernel
theorem dX10_cardsOf_60 : decode cX10_cardsOf 60 = .ok (.getfield 57, 3) := by decide +kernel
theorem dX10_cardsOf_63 : decode cX10_cardsOf 63 = .ok (.iload_n 1, 1) := by decide +kernel
theorem dX10_cardsOf_64 : decode cX10_cardsOf 64 = .ok (.iload_n 2, 1) := by decide +kernel
theorem dX10_cardsOf_65 : decode cX10_cardsOf 65 = .ok (.invokestatic 267, 3) := by decide +kernel
theorem dX10_cardsOf_68 : decode cX10_cardsOf 68 = .ok (.iaload, 1) := by decide +kernel
theorem dX10_cardsOf_69 : decode cX10_cardsOf 69 = .ok (.goto 35, 3) := by decide +kernel
theorem dX10_cardsOf_72 : decode cX10_cardsOf 72 = .ok (.iload_n 3, 1) := by decide +kernel
theorem dX10_cardsOf_73 : decode cX10_cardsOf 73 = .ok (.iconst 2, 1) := by decide +kernel
theorem dX10_cardsOf_74 : decode cX10_cardsOf 74 = .ok (.if_icmp .ne 16, 3) := by decide +kernel
theorem dX10_cardsOf_77 : decode cX10_cardsOf 77 = .ok (.aload_n 0, 1) := by decide +kernel
theorem dX10_cardsOf_78 : decode cX10_cardsOf 78 = .ok (.aload_n 0, 1) := by decide +kernel
theorem dX10_cardsOf_79 : decode cX10_cardsOf 79 = .ok (.getfield 57, 3) := by decide +kernel
theorem dX10_cardsOf_82 : decode cX10_cardsOf 82 = .ok (.iload_n 1, 1) := by decide +kernel
theorem dX10_cardsOf_83 : decode cX10_cardsOf 83 = .ok (.iload_n 2, 1) := by decide +kernel
theorem dX10_cardsOf_84 : decode cX10_cardsOf 84 = .ok (.invokevirtual 270, 3) := by decide +kernel
theorem dX10_cardsOf_87 : decode cX10_cardsOf 87 = .ok (.goto 17, 3) := by decide +kernel
theorem dX10_cardsOf_90 : decode cX10_cardsOf 90 = .ok (.aload_n 0, 1) := by decide +kernel
theorem dX10_cardsOf_91 : decode cX10_cardsOf 91 = .ok (.aload_n 0, 1) := by decide +kernel
theorem dX10_cardsOf_92 : decode cX10_cardsOf 92 = .ok (.getfield 57, 3) := by decide +kernel
theorem dX10_cardsOf_95 : decode cX10_cardsOf 95 = .ok (.aload_n 0, 1) := by decide +kernel
theorem dX10_cardsOf_96 : decode cX10_cardsOf 96 = .ok (.getfield 42, 3) := by decide +kernel
theorem dX10_cardsOf_99 : decode cX10_cardsOf 99 = .ok (.iload_n 1, 1) := by decide +kernel
theorem dX10_cardsOf_100 : decode cX10_cardsOf 100 = .ok (.iload_n 2, 1) := by decide +kernel
theorem dX10_cardsOf_101 : decode cX10_cardsOf 101 = .ok (.invokevirtual 280, 3) := by decide +kernel
theorem dX10_cardsOf_104 : decode cX10_cardsOf 104 = .ok (.invokevirtual 245, 3) := by decide +kernel
theorem dX10_cardsOf_107 : decode cX10_cardsOf 107 = .ok (.ireturn, 1) := by decide +kernel
theorem dX10_begin_0 : decode cX10_begin 0 = .ok (.aload_n 0, 1) := by decide +kernel
theorem dX10_begin_1 : decode cX10_begin 1 = .ok (.iconst 0, 1) := by decide +kernel
theorem dX10_begin_2 : decode cX10_begin 2 = .ok (.putfield 74, 3) := by decide +kernel
theorem dX10_begin_5 : decode cX10_begin 5 = .ok (.aload_n 0, 1) := by decide +kernel
theorem dX10_begin_6 : decode cX10_begin 6 = .ok (.getfield 257, 3) := by decide +kernel
theorem dX10_begin_9 : decode cX10_begin 9 = .ok (.ifCond .ne 9, 3) := by decide +kernel
theorem dX10_begin_12 : decode cX10_begin 12 = .ok (.aload_n 0, 1) := by decide +kernel
theorem dX10_begin_13 : decode cX10_begin 13 = .ok (.iconst 1, 1) := by decide +kernel
theorem dX10_begin_14 : decode cX10_begin 14 = .ok (.invokevirtual 322, 3) := by decide +kernel
theorem dX10_begin_17 : decode cX10_begin 17 = .ok (.ireturn, 1) := by decide +kernel
theorem dX10_begin_18 : decode cX10_begin 18 = .ok (.aload_n 0, 1) := by decide +kernel
theorem dX10_begin_19 : decode cX10_begin 19 = .ok (.aload_n 0, 1) := by decide +kernel
theorem dX10_begin_20 : decode cX10_begin 20 = .ok (.getfield 57, 3) := by decide +kernel
theorem dX10_begin_23 : decode cX10_begin 23 = .ok (.invokevirtual 260, 3) := by decide +kernel
theorem dX10_begin_26 : decode cX10_begin 26 = .ok (.iconst 0, 1) := by decide +kernel
theorem dX10_begin_27 : decode cX10_begin 27 = .ok (.istore_n 2, 1) := by decide +kernel
theorem dX10_begin_28 : decode cX10_begin 28 = .ok (.iload_n 2, 1) := by decide +kernel
theorem dX10_begin_29 : decode cX10_begin 29 = .ok (.aload_n 0, 1) := by decide +kernel
theorem dX10_begin_30 : decode cX10_begin 30 = .ok (.getfield 242, 3) := by decide +kernel
theorem dX10_begin_33 : decode cX10_begin 33 = .ok (.if_icmp .ge 58, 3) := by decide +kernel
theorem dX10_begin_36 : decode cX10_begin 36 = .ok (.iload_n 1, 1) := by decide +kernel
theorem dX10_begin_37 : decode cX10_begin 37 = .ok (.ifCond .eq 54, 3) := by decide +kernel
theorem dX10_begin_40 : decode cX10_begin 40 = .ok (.iconst 0, 1) := by decide +kernel
theorem dX10_begin_41 : decode cX10_begin 41 = .ok (.istore_n 3, 1) := by decide +kernel
theorem dX10_begin_42 : decode cX10_begin 42 = .ok (.iload_n 3, 1) := by decide +kernel
theorem dX10_begin_43 : decode cX10_begin 43 = .ok (.aload_n 0, 1) := by decide +kernel
theorem dX10_begin_44 : decode cX10_begin 44 = .ok (.getfield 248, 3) := by decide +kernel
theorem dX10_begin_47 : decode cX10_begin 47 = .ok (.if_icmp .ge 29, 3) := by decide +kernel
theorem dX10_begin_50 : decode cX10_begin 50 = .ok (.aload_n 0, 1) := by decide +kernel
theorem dX10_begin_51 : decode cX10_begin 51 = .ok (.getfield 57, 3) := by decide +kernel
theorem dX10_begin_54 : decode cX10_begin 54 = .ok (.iload_n 2, 1) := by decide +kernel
theorem dX10_begin_55 : decode cX10_begin 55 = .ok (.iload_n 3, 1) := by decide +kernel
theorem dX10_begin_56 : decode cX10_begin 56 = .ok (.invokestatic 267, 3) := by decide +kernel
theorem dX10_begin_59 : decode cX10_begin 59 = .ok (.aload_n 0, 1) := by decide +kernel
theorem dX10_begin_60 : decode cX10_begin 60 = .ok (.getfield 42, 3) := by decide +kernel
theorem dX10_begin_63 : decode cX10_begin 63 = .ok (.iconst 3, 1) := by decide +kernel
theorem dX10_begin_64 : decode cX10_begin 64 = .ok (.iload_n 2, 1) := by decide +kernel
theorem dX10_begin_65 : decode cX10_begin 65 = .ok (.imul, 1) := by decide +kernel
theorem dX10_begin_66 : decode cX10_begin 66 = .ok (.iload_n 3, 1) := by decide +kernel
theorem dX10_begin_67 : decode cX10_begin 67 = .ok (.iadd, 1) := by decide +kernel
theorem dX10_begin_68 : decode cX10_begin 68 = .ok (.iaload, 1) := by decide +kernel
theorem dX10_begin_69 : decode cX10_begin 69 = .ok (.iastore, 1) := by decide +kernel
theorem dX10_begin_70 : decode cX10_begin 70 = .ok (.iinc 3 1, 3) := by decide +kernel
theorem dX10_begin_73 : decode cX10_begin 73 = .ok (.goto (-31), 3) := by decide +kernel
theorem dX10_begin_76 : decode cX10_begin 76 = .ok (.aload_n 0, 1) := by decide +kernel
theorem dX10_begin_77 : decode cX10_begin 77 = .ok (.aload_n 0, 1) := by decide +kernel
theorem dX10_begin_78 : decode cX10_begin 78 = .ok (.getfield 57, 3) := by decide +kernel
theorem dX10_begin_81 : decode cX10_begin 81 = .ok (.iload_n 2, 1) := by decide +kernel
theorem dX10_begin_82 : decode cX10_begin 82 = .ok (.invokevirtual 306, 3) := by decide +kernel
theorem dX10_begin_85 : decode cX10_begin 85 = .ok (.iinc 2 1, 3) := by decide +kernel
theorem dX10_begin_88 : decode cX10_begin 88 = .ok (.goto (-60), 3) := by decide +kernel
theorem dX10_begin_91 : decode cX10_begin 91 = .ok (.aload_n 0, 1) := by decide +kernel
theorem dX10_begin_92 : decode cX10_begin 92 = .ok (.iconst 0, 1) := by decide +kernel
theorem dX10_begin_93 : decode cX10_begin 93 = .ok (.invokevirtual 322, 3) := by decide +kernel
theorem dX10_begin_96 : decode cX10_begin 96 = .ok (.ireturn, 1) := by decide +kernel
theorem dX10_run_0 : decode cX10_run 0 = .ok (.aload_n 0, 1) := by decide +kernel
theorem dX10_run_1 : decode cX10_run 1 = .ok (.iconst 0, 1) := by decide +kernel
theorem dX10_run_2 : decode cX10_run 2 = .ok (.putfield 74, 3) := by decide +kernel
theorem dX10_run_5 : decode cX10_run 5 = .ok (.aload_n 0, 1) := by decide +kernel
theorem dX10_run_6 : decode cX10_run 6 = .ok (.getfield 257, 3) := by decide +kernel
theorem dX10_run_9 : decode cX10_run 9 = .ok (.ifCond .ne 9, 3) := by decide +kernel
theorem dX10_run_12 : decode cX10_run 12 = .ok (.aload_n 0, 1) := by decide +kernel
theorem dX10_run_13 : decode cX10_run 13 = .ok (.iconst 1, 1) := by decide +kernel
theorem dX10_run_14 : decode cX10_run 14 = .ok (.invokevirtual 232, 3) := by decide +kernel
theorem dX10_run_17 : decode cX10_run 17 = .ok (.ireturn, 1) := by decide +kernel
theorem dX10_run_18 : decode cX10_run 18 = .ok (.iload_n 1, 1) := by decide +kernel
theorem dX10_run_19 : decode cX10_run 19 = .ok (.iconst 1, 1) := by decide +kernel
theorem dX10_run_20 : decode cX10_run 20 = .ok (.sipush 500, 3) := by decide +kernel
theorem dX10_run_23 : decode cX10_run 23 = .ok (.invokestatic 95, 3) := by decide +kernel
theorem dX10_run_26 : decode cX10_run 26 = .ok (.ifCond .ne 9, 3) := by decide +kernel
theorem dX10_run_29 : decode cX10_run 29 = .ok (.aload_n 0, 1) := by decide +kernel
theorem dX10_run_30 : decode cX10_run 30 = .ok (.iconst 2, 1) := by decide +kernel
theorem dX10_run_31 : decode cX10_run 31 = .ok (.invokevirtual 232, 3) := by decide +kernel
theorem dX10_run_34 : decode cX10_run 34 = .ok (.ireturn, 1) := by decide +kernel
theorem dX10_run_35 : decode cX10_run 35 = .ok (.aload_n 0, 1) := by decide +kernel
theorem dX10_run_36 : decode cX10_run 36 = .ok (.getfield 57, 3) := by decide +kernel
theorem dX10_run_39 : decode cX10_run 39 = .ok (.iconst 0, 1) := by decide +kernel
theorem dX10_run_40 : decode cX10_run 40 = .ok (.iaload, 1) := by decide +kernel
theorem dX10_run_41 : decode cX10_run 41 = .ok (.iload_n 1, 1) := by decide +kernel
theorem dX10_run_42 : decode cX10_run 42 = .ok (.iadd, 1) := by decide +kernel
theorem dX10_run_43 : decode cX10_run 43 = .ok (.sipush 9999, 3) := by decide +kernel
theorem dX10_run_46 : decode cX10_run 46 = .ok (.if_icmp .le 9, 3) := by decide +kernel
theorem dX10_run_49 : decode cX10_run 49 = .ok (.aload_n 0, 1) := by decide +kernel
theorem dX10_run_50 : decode cX10_run 50 = .ok (.iconst 5, 1) := by decide +kernel
theorem dX10_run_51 : decode cX10_run 51 = .ok (.invokevirtual 232, 3) := by decide +kernel
theorem dX10_run_54 : decode cX10_run 54 = .ok (.ireturn, 1) := by decide +kernel
theorem dX10_run_55 : decode cX10_run 55 = .ok (.aload_n 0, 1) := by decide +kernel
theorem dX10_run_56 : decode cX10_run 56 = .ok (.aload_n 0, 1) := by decide +kernel
theorem dX10_run_57 : decode cX10_run 57 = .ok (.getfield 57, 3) := by decide +kernel
theorem dX10_run_60 : decode cX10_run 60 = .ok (.invokevirtual 325, 3) := by decide +kernel
theorem dX10_run_63 : decode cX10_run 63 = .ok (.istore_n 2, 1) := by decide +kernel
theorem dX10_run_64 : decode cX10_run 64 = .ok (.iconst 0, 1) := by decide +kernel
theorem dX10_run_65 : decode cX10_run 65 = .ok (.istore_n 3, 1) := by decide +kernel
theorem dX10_run_66 : decode cX10_run 66 = .ok (.iload_n 3, 1) := by decide +kernel
theorem dX10_run_67 : decode cX10_run 67 = .ok (.iload_n 1, 1) := by decide +kernel
theorem dX10_run_68 : decode cX10_run 68 = .ok (.if_icmp .ge 21, 3) := by decide +kernel
theorem dX10_run_71 : decode cX10_run 71 = .ok (.aload_n 0, 1) := by decide +kernel
theorem dX10_run_72 : decode cX10_run 72 = .ok (.aload_n 0, 1) := by decide +kernel
theorem dX10_run_73 : decode cX10_run 73 = .ok (.getfield 57, 3) := by decide +kernel
theorem dX10_run_76 : decode cX10_run 76 = .ok (.aload_n 0, 1) := by decide +kernel
theorem dX10_run_77 : decode cX10_run 77 = .ok (.getfield 42, 3) := by decide +kernel
theorem dX10_run_80 : decode cX10_run 80 = .ok (.invokevirtual 329, 3) := by decide +kernel
theorem dX10_run_83 : decode cX10_run 83 = .ok (.iinc 3 1, 3) := by decide +kernel
theorem dX10_run_86 : decode cX10_run 86 = .ok (.goto (-20), 3) := by decide +kernel
theorem dX10_run_89 : decode cX10_run 89 = .ok (.aload_n 0, 1) := by decide +kernel
theorem dX10_run_90 : decode cX10_run 90 = .ok (.aload_n 0, 1) := by decide +kernel
theorem dX10_run_91 : decode cX10_run 91 = .ok (.aload_n 0, 1) := by decide +kernel
theorem dX10_run_92 : decode cX10_run 92 = .ok (.getfield 57, 3) := by decide +kernel
theorem dX10_run_95 : decode cX10_run 95 = .ok (.invokevirtual 325, 3) := by decide +kernel
theorem dX10_run_98 : decode cX10_run 98 = .ok (.iload_n 2, 1) := by decide +kernel
theorem dX10_run_99 : decode cX10_run 99 = .ok (.isub, 1) := by decide +kernel
theorem dX10_run_100 : decode cX10_run 100 = .ok (.invokevirtual 245, 3) := by decide +kernel
theorem dX10_run_103 : decode cX10_run 103 = .ok (.ireturn, 1) := by decide +kernel
theorem dX10_does_0 : decode cX10_does 0 = .ok (.aload_n 0, 1) := by decide +kernel
theorem dX10_does_1 : decode cX10_does 1 = .ok (.iconst 0, 1) := by decide +kernel
theorem dX10_does_2 : decode cX10_does 2 = .ok (.putfield 74, 3) := by decide +kernel
theorem dX10_does_5 : decode cX10_does 5 = .ok (.aload_n 0, 1) := by decide +kernel
theorem dX10_does_6 : decode cX10_does 6 = .ok (.iload_n 1, 1) := by decide +kernel
theorem dX10_does_7 : decode cX10_does 7 = .ok (.invokevirtual 316, 3) := by decide +kernel
theorem dX10_does_10 : decode cX10_does 10 = .ok (.ifCond .eq 12, 3) := by decide +kernel
theorem dX10_does_13 : decode cX10_does 13 = .ok (.iload_n 2, 1) := by decide +kernel
theorem dX10_does_14 : decode cX10_does 14 = .ok (.iconst 0, 1) := by decide +kernel
theorem dX10_does_15 : decode cX10_does 15 = .ok (.iconst 3, 1) := by decide +kernel
theorem dX10_does_16 : decode cX10_does 16 = .ok (.invokestatic 95, 3) := by decide +kernel
theorem dX10_does_19 : decode cX10_does 19 = .ok (.ifCond .ne 9, 3) := by decide +kernel
theorem dX10_does_22 : decode cX10_does 22 = .ok (.aload_n 0, 1) := by decide +kernel
theorem dX10_does_23 : decode cX10_does 23 = .ok (.iconst 1, 1) := by decide +kernel
theorem dX10_does_24 : decode cX10_does 24 = .ok (.invokevirtual 232, 3) := by decide +kernel
theorem dX10_does_27 : decode cX10_does 27 = .ok (.ireturn, 1) := by decide +kernel
theorem dX10_does_28 : decode cX10_does 28 = .ok (.aload_n 0, 1) := by decide +kernel
theorem dX10_does_29 : decode cX10_does 29 = .ok (.getfield 57, 3) := by decide +kernel
theorem dX10_does_32 : decode cX10_does 32 = .ok (.iload_n 1, 1) := by decide +kernel
theorem dX10_does_33 : decode cX10_does 33 = .ok (.iconst 0, 1) := by decide +kernel
theorem dX10_does_34 : decode cX10_does 34 = .ok (.invokestatic 264, 3) := by decide +kernel
theorem dX10_does_37 : decode cX10_does 37 = .ok (.iaload, 1) := by decide +kernel
theorem dX10_does_38 : decode cX10_does 38 = .ok (.istore_n 3, 1) := by decide +kernel
theorem dX10_does_39 : decode cX10_does 39 = .ok (.iload_n 2, 1) := by decide +kernel
theorem dX10_does_40 : decode cX10_does 40 = .ok (.tableswitch 79 0 2 #[28, 34, 49], 28) := by decide +kernel
theorem dX10_does_68 : decode cX10_does 68 = .ok (.aload_n 0, 1) := by decide +kernel
theorem dX10_does_69 : decode cX10_does 69 = .ok (.iload_n 3, 1) := by decide +kernel
theorem dX10_does_70 : decode cX10_does 70 = .ok (.invokevirtual 245, 3) := by decide +kernel
theorem dX10_does_73 : decode cX10_does 73 = .ok (.ireturn, 1) := by decide +kernel
theorem dX10_does_74 : decode cX10_does 74 = .ok (.aload_n 0, 1) := by decide +kernel
theorem dX10_does_75 : decode cX10_does 75 = .ok (.aload_n 0, 1) := by decide +kernel
theorem dX10_does_76 : decode cX10_does 76 = .ok (.getfield 57, 3) := by decide +kernel
theorem dX10_does_79 : decode cX10_does 79 = .ok (.iload_n 1, 1) := by decide +kernel
theorem dX10_does_80 : decode cX10_does 80 = .ok (.iconst 1, 1) := by decide +kernel
theorem dX10_does_81 : decode cX10_does 81 = .ok (.invokestatic 264, 3) := by decide +kernel
theorem dX10_does_84 : decode cX10_does 84 = .ok (.iaload, 1) := by decide +kernel
theorem dX10_does_85 : decode cX10_does 85 = .ok (.invokevirtual 245, 3) := by decide +kernel
theorem dX10_does_88 : decode cX10_does 88 = .ok (.ireturn, 1) := by decide +kernel
theorem dX10_does_89 : decode cX10_does 89 = .ok (.aload_n 0, 1) := by decide +kernel
theorem dX10_does_90 : decode cX10_does 90 = .ok (.iload_n 3, 1) := by decide +kernel
theorem dX10_does_91 : decode cX10_does 91 = .ok (.ifCond .ne 7, 3) := by decide +kernel
theorem dX10_does_94 : decode cX10_does 94 = .ok (.iconst 0, 1) := by decide +kernel
theorem dX10_does_95 : decode cX10_does 95 = .ok (.goto 20, 3) := by decide +kernel
theorem dX10_does_98 : decode cX10_does 98 = .ok (.aload_n 0, 1) := by decide +kernel
theorem dX10_does_99 : decode cX10_does 99 = .ok (.getfield 57, 3) := by decide +kernel
theorem dX10_does_102 : decode cX10_does 102 = .ok (.iload_n 1, 1) := by decide +kernel
theorem dX10_does_103 : decode cX10_does 103 = .ok (.iconst 2, 1) := by decide +kernel
theorem dX10_does_104 : decode cX10_does 104 = .ok (.invokestatic 264, 3) := by decide +kernel
theorem dX10_does_107 : decode cX10_does 107 = .ok (.iaload, 1) := by decide +kernel
theorem dX10_does_108 : decode cX10_does 108 = .ok (.aload_n 0, 1) := by decide +kernel
theorem dX10_does_109 : decode cX10_does 109 = .ok (.getfield 57, 3) := by decide +kernel
theorem dX10_does_112 : decode cX10_does 112 = .ok (.iconst 0, 1) := by decide +kernel
theorem dX10_does_113 : decode cX10_does 113 = .ok (.iaload, 1) := by decide +kernel
theorem dX10_does_114 : decode cX10_does 114 = .ok (.isub, 1) := by decide +kernel
theorem dX10_does_115 : decode cX10_does 115 = .ok (.invokevirtual 245, 3) := by decide +kernel
theorem dX10_does_118 : decode cX10_does 118 = .ok (.ireturn, 1) := by decide +kernel
theorem dX10_does_119 : decode cX10_does 119 = .ok (.aload_n 0, 1) := by decide +kernel
theorem dX10_does_120 : decode cX10_does 120 = .ok (.aload_n 0, 1) := by decide +kernel
theorem dX10_does_121 : decode cX10_does 121 = .ok (.getfield 57, 3) := by decide +kernel
theorem dX10_does_124 : decode cX10_does 124 = .ok (.iload_n 1, 1) := by decide +kernel
theorem dX10_does_125 : decode cX10_does 125 = .ok (.iconst 3, 1) := by decide +kernel
theorem dX10_does_126 : decode cX10_does 126 = .ok (.invokestatic 264, 3) := by decide +kernel
theorem dX10_does_129 : decode cX10_does 129 = .ok (.iaload, 1) := by decide +kernel
theorem dX10_does_130 : decode cX10_does 130 = .ok (.invokevirtual 245, 3) := by decide +kernel
theorem dX10_does_133 : decode cX10_does 133 = .ok (.ireturn, 1) := by decide +kernel
theorem dX10_counts_0 : decode cX10_counts 0 = .ok (.aload_n 0, 1) := by decide +kernel
theorem dX10_counts_1 : decode cX10_counts 1 = .ok (.iconst 0, 1) := by decide +kernel
theorem dX10_counts_2 : decode cX10_counts 2 = .ok (.putfield 74, 3) := by decide +kernel
theorem dX10_counts_5 : decode cX10_counts 5 = .ok (.aload_n 0, 1) := by decide +kernel
theorem dX10_counts_6 : decode cX10_counts 6 = .ok (.iload_n 1, 1) := by decide +kernel
theorem dX10_counts_7 : decode cX10_counts 7 = .ok (.invokevirtual 316, 3) := by decide +kernel
theorem dX10_counts_10 : decode cX10_counts 10 = .ok (.ifCond .eq 31, 3) := by decide +kernel
theorem dX10_counts_13 : decode cX10_counts 13 = .ok (.iload_n 2, 1) := by decide +kernel
theorem dX10_counts_14 : decode cX10_counts 14 = .ok (.iconst 0, 1) := by decide +kernel
theorem dX10_counts_15 : decode cX10_counts 15 = .ok (.iconst 4, 1) := by decide +kernel
theorem dX10_counts_16 : decode cX10_counts 16 = .ok (.invokestatic 95, 3) := by decide +kernel
theorem dX10_counts_19 : decode cX10_counts 19 = .ok (.ifCond .eq 22, 3) := by decide +kernel
theorem dX10_counts_22 : decode cX10_counts 22 = .ok (.aload_n 0, 1) := by decide +kernel
theorem dX10_counts_23 : decode cX10_counts 23 = .ok (.aload_n 0, 1) := by decide +kernel
theorem dX10_counts_24 : decode cX10_counts 24 = .ok (.getfield 57, 3) := by decide +kernel
theorem dX10_counts_27 : decode cX10_counts 27 = .ok (.iload_n 1, 1) := by decide +kernel
theorem dX10_counts_28 : decode cX10_counts 28 = .ok (.iconst 4, 1) := by decide +kernel
theorem dX10_counts_29 : decode cX10_counts 29 = .ok (.iload_n 2, 1) := by decide +kernel
theorem dX10_counts_30 : decode cX10_counts 30 = .ok (.iadd, 1) := by decide +kernel
theorem dX10_counts_31 : decode cX10_counts 31 = .ok (.invokestatic 264, 3) := by decide +kernel
theorem dX10_counts_34 : decode cX10_counts 34 = .ok (.iaload, 1) := by decide +kernel
theorem dX10_counts_35 : decode cX10_counts 35 = .ok (.invokevirtual 245, 3) := by decide +kernel
theorem dX10_counts_38 : decode cX10_counts 38 = .ok (.goto 8, 3) := by decide +kernel
theorem dX10_counts_41 : decode cX10_counts 41 = .ok (.aload_n 0, 1) := by decide +kernel
theorem dX10_counts_42 : decode cX10_counts 42 = .ok (.iconst 1, 1) := by decide +kernel
theorem dX10_counts_43 : decode cX10_counts 43 = .ok (.invokevirtual 232, 3) := by decide +kernel
theorem dX10_counts_46 : decode cX10_counts 46 = .ok (.ireturn, 1) := by decide +kernel
theorem dX10_waits_0 : decode cX10_waits 0 = .ok (.aload_n 0, 1) := by decide +kernel
theorem dX10_waits_1 : decode cX10_waits 1 = .ok (.getfield 57, 3) := by decide +kernel
theorem dX10_waits_4 : decode cX10_waits 4 = .ok (.iload_n 1, 1) := by decide +kernel
theorem dX10_waits_5 : decode cX10_waits 5 = .ok (.iconst 0, 1) := by decide +kernel
theorem dX10_waits_6 : decode cX10_waits 6 = .ok (.invokestatic 274, 3) := by decide +kernel
theorem dX10_waits_9 : decode cX10_waits 9 = .ok (.iaload, 1) := by decide +kernel
theorem dX10_waits_10 : decode cX10_waits 10 = .ok (.aload_n 0, 1) := by decide +kernel
theorem dX10_waits_11 : decode cX10_waits 11 = .ok (.getfield 57, 3) := by decide +kernel
theorem dX10_waits_14 : decode cX10_waits 14 = .ok (.iload_n 1, 1) := by decide +kernel
theorem dX10_waits_15 : decode cX10_waits 15 = .ok (.iconst 1, 1) := by decide +kernel
theorem dX10_waits_16 : decode cX10_waits 16 = .ok (.invokestatic 274, 3) := by decide +kernel
theorem dX10_waits_19 : decode cX10_waits 19 = .ok (.iaload, 1) := by decide +kernel
theorem dX10_waits_20 : decode cX10_waits 20 = .ok (.isub, 1) := by decide +kernel
theorem dX10_waits_21 : decode cX10_waits 21 = .ok (.ireturn, 1) := by decide +kernel
theorem dX10_waited_0 : decode cX10_waited 0 = .ok (.aload_n 0, 1) := by decide +kernel
theorem dX10_waited_1 : decode cX10_waited 1 = .ok (.getfield 57, 3) := by decide +kernel
theorem dX10_waited_4 : decode cX10_waited 4 = .ok (.iload_n 1, 1) := by decide +kernel
theorem dX10_waited_5 : decode cX10_waited 5 = .ok (.iconst 2, 1) := by decide +kernel
theorem dX10_waited_6 : decode cX10_waited 6 = .ok (.invokestatic 274, 3) := by decide +kernel
theorem dX10_waited_9 : decode cX10_waited 9 = .ok (.iaload, 1) := by decide +kernel
theorem dX10_waited_10 : decode cX10_waited 10 = .ok (.istore_n 2, 1) := by decide +kernel
theorem dX10_waited_11 : decode cX10_waited 11 = .ok (.aload_n 0, 1) := by decide +kernel
theorem dX10_waited_12 : decode cX10_waited 12 = .ok (.iload_n 1, 1) := by decide +kernel
theorem dX10_waited_13 : decode cX10_waited 13 = .ok (.invokevirtual 333, 3) := by decide +kernel
theorem dX10_waited_16 : decode cX10_waited 16 = .ok (.istore_n 3, 1) := by decide +kernel
theorem dX10_waited_17 : decode cX10_waited 17 = .ok (.aload_n 0, 1) := by decide +kernel
theorem dX10_waited_18 : decode cX10_waited 18 = .ok (.getfield 57, 3) := by decide +kernel
theorem dX10_waited_21 : decode cX10_waited 21 = .ok (.iload_n 1, 1) := by decide +kernel
theorem dX10_waited_22 : decode cX10_waited 22 = .ok (.iconst 4, 1) := by decide +kernel
theorem dX10_waited_23 : decode cX10_waited 23 = .ok (.invokestatic 274, 3) := by decide +kernel
theorem dX10_waited_26 : decode cX10_waited 26 = .ok (.iaload, 1) := by decide +kernel
theorem dX10_waited_27 : decode cX10_waited 27 = .ok (.istore 4, 2) := by decide +kernel
theorem dX10_waited_29 : decode cX10_waited 29 = .ok (.aload_n 0, 1) := by decide +kernel
theorem dX10_waited_30 : decode cX10_waited 30 = .ok (.getfield 57, 3) := by decide +kernel
theorem dX10_waited_33 : decode cX10_waited 33 = .ok (.iload_n 1, 1) := by decide +kernel
theorem dX10_waited_34 : decode cX10_waited 34 = .ok (.iconst 3, 1) := by decide +kernel
theorem dX10_waited_35 : decode cX10_waited 35 = .ok (.invokestatic 274, 3) := by decide +kernel
theorem dX10_waited_38 : decode cX10_waited 38 = .ok (.iaload, 1) := by decide +kernel
theorem dX10_waited_39 : decode cX10_waited 39 = .ok (.istore 5, 2) := by decide +kernel
theorem dX10_waited_41 : decode cX10_waited 41 = .ok (.iload_n 3, 1) := by decide +kernel
theorem dX10_waited_42 : decode cX10_waited 42 = .ok (.ifCond .le 46, 3) := by decide +kernel
theorem dX10_waited_45 : decode cX10_waited 45 = .ok (.aload_n 0, 1) := by decide +kernel
theorem dX10_waited_46 : decode cX10_waited 46 = .ok (.iload_n 1, 1) := by decide +kernel
theorem dX10_waited_47 : decode cX10_waited 47 = .ok (.iload 5, 2) := by decide +kernel
theorem dX10_waited_49 : decode cX10_waited 49 = .ok (.invokevirtual 277, 3) := by decide +kernel
theorem dX10_waited_52 : decode cX10_waited 52 = .ok (.iload 4, 2) := by decide +kernel
theorem dX10_waited_54 : decode cX10_waited 54 = .ok (.isub, 1) := by decide +kernel
theorem dX10_waited_55 : decode cX10_waited 55 = .ok (.istore 6, 2) := by decide +kernel
theorem dX10_waited_57 : decode cX10_waited 57 = .ok (.iconst 0, 1) := by decide +kernel
theorem dX10_waited_58 : decode cX10_waited 58 = .ok (.istore 4, 2) := by decide +kernel
theorem dX10_waited_60 : decode cX10_waited 60 = .ok (.iload_n 2, 1) := by decide +kernel
theorem dX10_waited_61 : decode cX10_waited 61 = .ok (.iload 6, 2) := by decide +kernel
theorem dX10_waited_63 : decode cX10_waited 63 = .ok (.aload_n 0, 1) := by decide +kernel
theorem dX10_waited_64 : decode cX10_waited 64 = .ok (.getfield 57, 3) := by decide +kernel
theorem dX10_waited_67 : decode cX10_waited 67 = .ok (.iconst 0, 1) := by decide +kernel
theorem dX10_waited_68 : decode cX10_waited 68 = .ok (.iaload, 1) := by decide +kernel
theorem dX10_waited_69 : decode cX10_waited 69 = .ok (.iconst 1, 1) := by decide +kernel
theorem dX10_waited_70 : decode cX10_waited 70 = .ok (.isub, 1) := by decide +kernel
theorem dX10_waited_71 : decode cX10_waited 71 = .ok (.iload 5, 2) := by decide +kernel
theorem dX10_waited_73 : decode cX10_waited 73 = .ok (.isub, 1) := by decide +kernel
theorem dX10_waited_74 : decode cX10_waited 74 = .ok (.imul, 1) := by decide +kernel
theorem dX10_waited_75 : decode cX10_waited 75 = .ok (.iadd, 1) := by decide +kernel
theorem dX10_waited_76 : decode cX10_waited 76 = .ok (.istore_n 2, 1) := by decide +kernel
theorem dX10_waited_77 : decode cX10_waited 77 = .ok (.iload_n 3, 1) := by decide +kernel
theorem dX10_waited_78 : decode cX10_waited 78 = .ok (.iload 6, 2) := by decide +kernel
theorem dX10_waited_80 : decode cX10_waited 80 = .ok (.isub, 1) := by decide +kernel
theorem dX10_waited_81 : decode cX10_waited 81 = .ok (.istore_n 3, 1) := by decide +kernel
theorem dX10_waited_82 : decode cX10_waited 82 = .ok (.iinc 5 1, 3) := by decide +kernel
theorem dX10_waited_85 : decode cX10_waited 85 = .ok (.goto (-44), 3) := by decide +kernel
theorem dX10_waited_88 : decode cX10_waited 88 = .ok (.iload_n 2, 1) := by decide +kernel
theorem dX10_waited_89 : decode cX10_waited 89 = .ok (.ireturn, 1) := by decide +kernel
theorem dX10_orders_0 : decode cX10_orders 0 = .ok (.aload_n 0, 1) := by decide +kernel
theorem dX10_orders_1 : decode cX10_orders 1 = .ok (.iconst 0, 1) := by decide +kernel
theorem dX10_orders_2 : decode cX10_orders 2 = .ok (.putfield 74, 3) := by decide +kernel
theorem dX10_orders_5 : decode cX10_orders 5 = .ok (.aload_n 0, 1) := by decide +kernel
theorem dX10_orders_6 : decode cX10_orders 6 = .ok (.iload_n 1, 1) := by decide +kernel
theorem dX10_orders_7 : decode cX10_orders 7 = .ok (.invokevirtual 319, 3) := by decide +kernel
theorem dX10_orders_10 : decode cX10_orders 10 = .ok (.ifCond .eq 12, 3) := by decide +kernel
theorem dX10_orders_13 : decode cX10_orders 13 = .ok (.iload_n 2, 1) := by decide +kernel
theorem dX10_orders_14 : decode cX10_orders 14 = .ok (.iconst 0, 1) := by decide +kernel
theorem dX10_orders_15 : decode cX10_orders 15 = .ok (.iconst 3, 1) := by decide +kernel
theorem dX10_orders_16 : decode cX10_orders 16 = .ok (.invokestatic 95, 3) := by decide +kernel
theorem dX10_orders_19 : decode cX10_orders 19 = .ok (.ifCond .ne 9, 3) := by decide +kernel
theorem dX10_orders_22 : decode cX10_orders 22 = .ok (.aload_n 0, 1) := by decide +kernel
theorem dX10_orders_23 : decode cX10_orders 23 = .ok (.iconst 1, 1) := by decide +kernel
theorem dX10_orders_24 : decode cX10_orders 24 = .ok (.invokevirtual 232, 3) := by decide +kernel
theorem dX10_orders_27 : decode cX10_orders 27 = .ok (.ireturn, 1) := by decide +kernel
theorem dX10_orders_28 : decode cX10_orders 28 = .ok (.iload_n 2, 1) := by decide +kernel
theorem dX10_orders_29 : decode cX10_orders 29 = .ok (.tableswitch 67 0 2 #[27, 42, 57], 27) := by decide +kernel
theorem dX10_orders_56 : decode cX10_orders 56 = .ok (.aload_n 0, 1) := by decide +kernel
theorem dX10_orders_57 : decode cX10_orders 57 = .ok (.aload_n 0, 1) := by decide +kernel
theorem dX10_orders_58 : decode cX10_orders 58 = .ok (.getfield 57, 3) := by decide +kernel
theorem dX10_orders_61 : decode cX10_orders 61 = .ok (.iload_n 1, 1) := by decide +kernel
theorem dX10_orders_62 : decode cX10_orders 62 = .ok (.iconst 0, 1) := by decide +kernel
theorem dX10_orders_63 : decode cX10_orders 63 = .ok (.invokestatic 274, 3) := by decide +kernel
theorem dX10_orders_66 : decode cX10_orders 66 = .ok (.iaload, 1) := by decide +kernel
theorem dX10_orders_67 : decode cX10_orders 67 = .ok (.invokevirtual 245, 3) := by decide +kernel
theorem dX10_orders_70 : decode cX10_orders 70 = .ok (.ireturn, 1) := by decide +kernel
theorem dX10_orders_71 : decode cX10_orders 71 = .ok (.aload_n 0, 1) := by decide +kernel
theorem dX10_orders_72 : decode cX10_orders 72 = .ok (.aload_n 0, 1) := by decide +kernel
theorem dX10_orders_73 : decode cX10_orders 73 = .ok (.getfield 57, 3) := by decide +kernel
theorem dX10_orders_76 : decode cX10_orders 76 = .ok (.iload_n 1, 1) := by decide +kernel
theorem dX10_orders_77 : decode cX10_orders 77 = .ok (.iconst 1, 1) := by decide +kernel
theorem dX10_orders_78 : decode cX10_orders 78 = .ok (.invokestatic 274, 3) := by decide +kernel
theorem dX10_orders_81 : decode cX10_orders 81 = .ok (.iaload, 1) := by decide +kernel
theorem dX10_orders_82 : decode cX10_orders 82 = .ok (.invokevirtual 245, 3) := by decide +kernel
theorem dX10_orders_85 : decode cX10_orders 85 = .ok (.ireturn, 1) := by decide +kernel
theorem dX10_orders_86 : decode cX10_orders 86 = .ok (.aload_n 0, 1) := by decide +kernel
theorem dX10_orders_87 : decode cX10_orders 87 = .ok (.aload_n 0, 1) := by decide +kernel
theorem dX10_orders_88 : decode cX10_orders 88 = .ok (.iload_n 1, 1) := by decide +kernel
theorem dX10_orders_89 : decode cX10_orders 89 = .ok (.invokevirtual 333, 3) := by decide +kernel
theorem dX10_orders_92 : decode cX10_orders 92 = .ok (.invokevirtual 245, 3) := by decide +kernel
theorem dX10_orders_95 : decode cX10_orders 95 = .ok (.ireturn, 1) := by decide +kernel
theorem dX10_orders_96 : decode cX10_orders 96 = .ok (.aload_n 0, 1) := by decide +kernel
theorem dX10_orders_97 : decode cX10_orders 97 = .ok (.aload_n 0, 1) := by decide +kernel
theorem dX10_orders_98 : decode cX10_orders 98 = .ok (.iload_n 1, 1) := by decide +kernel
theorem dX10_orders_99 : decode cX10_orders 99 = .ok (.invokevirtual 336, 3) := by decide +kernel
theorem dX10_orders_102 : decode cX10_orders 102 = .ok (.invokevirtual 245, 3) := by decide +kernel
theorem dX10_orders_105 : decode cX10_orders 105 = .ok (.ireturn, 1) := by decide +kernel
theorem dX10_starved_0 : decode cX10_starved 0 = .ok (.aload_n 0, 1) := by decide +kernel
theorem dX10_starved_1 : decode cX10_starved 1 = .ok (.iconst 0, 1) := by decide +kernel
theorem dX10_starved_2 : decode cX10_starved 2 = .ok (.putfield 74, 3) := by decide +kernel
theorem dX10_starved_5 : decode cX10_starved 5 = .ok (.aload_n 0, 1) := by decide +kernel
theorem dX10_starved_6 : decode cX10_starved 6 = .ok (.getfield 257, 3) := by decide +kernel
theorem dX10_starved_9 : decode cX10_starved 9 = .ok (.ifCond .eq 12, 3) := by decide +kernel
theorem dX10_starved_12 : decode cX10_starved 12 = .ok (.iload_n 1, 1) := by decide +kernel
theorem dX10_starved_13 : decode cX10_starved 13 = .ok (.iconst 0, 1) := by decide +kernel
theorem dX10_starved_14 : decode cX10_starved 14 = .ok (.iconst 1, 1) := by decide +kernel
theorem dX10_starved_15 : decode cX10_starved 15 = .ok (.invokestatic 95, 3) := by decide +kernel
theorem dX10_starved_18 : decode cX10_starved 18 = .ok (.ifCond .ne 9, 3) := by decide +kernel
theorem dX10_starved_21 : decode cX10_starved 21 = .ok (.aload_n 0, 1) := by decide +kernel
theorem dX10_starved_22 : decode cX10_starved 22 = .ok (.iconst 1, 1) := by decide +kernel
theorem dX10_starved_23 : decode cX10_starved 23 = .ok (.invokevirtual 232, 3) := by decide +kernel
theorem dX10_starved_26 : decode cX10_starved 26 = .ok (.ireturn, 1) := by decide +kernel
theorem dX10_starved_27 : decode cX10_starved 27 = .ok (.aload_n 0, 1) := by decide +kernel
theorem dX10_starved_28 : decode cX10_starved 28 = .ok (.getfield 57, 3) := by decide +kernel
theorem dX10_starved_31 : decode cX10_starved 31 = .ok (.iconst 1, 1) := by decide +kernel
theorem dX10_starved_32 : decode cX10_starved 32 = .ok (.iaload, 1) := by decide +kernel
theorem dX10_starved_33 : decode cX10_starved 33 = .ok (.iconst (-1), 1) := by decide +kernel
theorem dX10_starved_34 : decode cX10_starved 34 = .ok (.if_icmp .ne 10, 3) := by decide +kernel
theorem dX10_starved_37 : decode cX10_starved 37 = .ok (.aload_n 0, 1) := by decide +kernel
theorem dX10_starved_38 : decode cX10_starved 38 = .ok (.bipush 6, 2) := by decide +kernel
theorem dX10_starved_40 : decode cX10_starved 40 = .ok (.invokevirtual 232, 3) := by decide +kernel
theorem dX10_starved_43 : decode cX10_starved 43 = .ok (.ireturn, 1) := by decide +kernel
theorem dX10_starved_44 : decode cX10_starved 44 = .ok (.aload_n 0, 1) := by decide +kernel
theorem dX10_starved_45 : decode cX10_starved 45 = .ok (.iload_n 1, 1) := by decide +kernel
theorem dX10_starved_46 : decode cX10_starved 46 = .ok (.ifCond .ne 12, 3) := by decide +kernel
theorem dX10_starved_49 : decode cX10_starved 49 = .ok (.aload_n 0, 1) := by decide +kernel
theorem dX10_starved_50 : decode cX10_starved 50 = .ok (.getfield 57, 3) := by decide +kernel
theorem dX10_starved_53 : decode cX10_starved 53 = .ok (.iconst 1, 1) := by decide +kernel
theorem dX10_starved_54 : decode cX10_starved 54 = .ok (.iaload, 1) := by decide +kernel
theorem dX10_starved_55 : decode cX10_starved 55 = .ok (.goto 9, 3) := by decide +kernel
theorem dX10_starved_58 : decode cX10_starved 58 = .ok (.aload_n 0, 1) := by decide +kernel
theorem dX10_starved_59 : decode cX10_starved 59 = .ok (.getfield 57, 3) := by decide +kernel
theorem dX10_starved_62 : decode cX10_starved 62 = .ok (.iconst 2, 1) := by decide +kernel
theorem dX10_starved_63 : decode cX10_starved 63 = .ok (.iaload, 1) := by decide +kernel
theorem dX10_starved_64 : decode cX10_starved 64 = .ok (.invokevirtual 245, 3) := by decide +kernel
theorem dX10_starved_67 : decode cX10_starved 67 = .ok (.ireturn, 1) := by decide +kernel
theorem dX10_common_0 : decode cX10_common 0 = .ok (.iload_n 0, 1) := by decide +kernel
theorem dX10_common_1 : decode cX10_common 1 = .ok (.istore_n 2, 1) := by decide +kernel
theorem dX10_common_2 : decode cX10_common 2 = .ok (.iload_n 1, 1) := by decide +kernel
theorem dX10_common_3 : decode cX10_common 3 = .ok (.istore_n 3, 1) := by decide +kernel
theorem dX10_common_4 : decode cX10_common 4 = .ok (.iload_n 3, 1) := by decide +kernel
theorem dX10_common_5 : decode cX10_common 5 = .ok (.ifCond .eq 16, 3) := by decide +kernel
theorem dX10_common_8 : decode cX10_common 8 = .ok (.iload_n 2, 1) := by decide +kernel
theorem dX10_common_9 : decode cX10_common 9 = .ok (.iload_n 3, 1) := by decide +kernel
theorem dX10_common_10 : decode cX10_common 10 = .ok (.irem, 1) := by decide +kernel
theorem dX10_common_11 : decode cX10_common 11 = .ok (.istore 4, 2) := by decide +kernel
theorem dX10_common_13 : decode cX10_common 13 = .ok (.iload_n 3, 1) := by decide +kernel
theorem dX10_common_14 : decode cX10_common 14 = .ok (.istore_n 2, 1) := by decide +kernel
theorem dX10_common_15 : decode cX10_common 15 = .ok (.iload 4, 2) := by decide +kernel
theorem dX10_common_17 : decode cX10_common 17 = .ok (.istore_n 3, 1) := by decide +kernel
theorem dX10_common_18 : decode cX10_common 18 = .ok (.goto (-14), 3) := by decide +kernel
theorem dX10_common_21 : decode cX10_common 21 = .ok (.iload_n 2, 1) := by decide +kernel
theorem dX10_common_22 : decode cX10_common 22 = .ok (.ireturn, 1) := by decide +kernel
theorem dX10_rate_0 : decode cX10_rate 0 = .ok (.aload_n 0, 1) := by decide +kernel
theorem dX10_rate_1 : decode cX10_rate 1 = .ok (.iconst 0, 1) := by decide +kernel
theorem dX10_rate_2 : decode cX10_rate 2 = .ok (.putfield 74, 3) := by decide +kernel
theorem dX10_rate_5 : decode cX10_rate 5 = .ok (.aload_n 0, 1) := by decide +kernel
theorem dX10_rate_6 : decode cX10_rate 6 = .ok (.getfield 257, 3) := by decide +kernel
theorem dX10_rate_9 : decode cX10_rate 9 = .ok (.ifCond .eq 12, 3) := by decide +kernel
theorem dX10_rate_12 : decode cX10_rate 12 = .ok (.iload_n 1, 1) := by decide +kernel
theorem dX10_rate_13 : decode cX10_rate 13 = .ok (.iconst 0, 1) := by decide +kernel
theorem dX10_rate_14 : decode cX10_rate 14 = .ok (.iconst 1, 1) := by decide +kernel
theorem dX10_rate_15 : decode cX10_rate 15 = .ok (.invokestatic 95, 3) := by decide +kernel
theorem dX10_rate_18 : decode cX10_rate 18 = .ok (.ifCond .ne 9, 3) := by decide +kernel
theorem dX10_rate_21 : decode cX10_rate 21 = .ok (.aload_n 0, 1) := by decide +kernel
theorem dX10_rate_22 : decode cX10_rate 22 = .ok (.iconst 1, 1) := by decide +kernel
theorem dX10_rate_23 : decode cX10_rate 23 = .ok (.invokevirtual 232, 3) := by decide +kernel
theorem dX10_rate_26 : decode cX10_rate 26 = .ok (.ireturn, 1) := by decide +kernel
theorem dX10_rate_27 : decode cX10_rate 27 = .ok (.aload_n 0, 1) := by decide +kernel
theorem dX10_rate_28 : decode cX10_rate 28 = .ok (.getfield 57, 3) := by decide +kernel
theorem dX10_rate_31 : decode cX10_rate 31 = .ok (.iconst 0, 1) := by decide +kernel
theorem dX10_rate_32 : decode cX10_rate 32 = .ok (.iaload, 1) := by decide +kernel
theorem dX10_rate_33 : decode cX10_rate 33 = .ok (.ifCond .ne 9, 3) := by decide +kernel
theorem dX10_rate_36 : decode cX10_rate 36 = .ok (.aload_n 0, 1) := by decide +kernel
theorem dX10_rate_37 : decode cX10_rate 37 = .ok (.iconst 5, 1) := by decide +kernel
theorem dX10_rate_38 : decode cX10_rate 38 = .ok (.invokevirtual 232, 3) := by decide +kernel
theorem dX10_rate_41 : decode cX10_rate 41 = .ok (.ireturn, 1) := by decide +kernel
theorem dX10_rate_42 : decode cX10_rate 42 = .ok (.aload_n 0, 1) := by decide +kernel
theorem dX10_rate_43 : decode cX10_rate 43 = .ok (.aload_n 0, 1) := by decide +kernel
theorem dX10_rate_44 : decode cX10_rate 44 = .ok (.getfield 57, 3) := by decide +kernel
theorem dX10_rate_47 : decode cX10_rate 47 = .ok (.invokevirtual 325, 3) := by decide +kernel
theorem dX10_rate_50 : decode cX10_rate 50 = .ok (.istore_n 2, 1) := by decide +kernel
theorem dX10_rate_51 : decode cX10_rate 51 = .ok (.iload_n 2, 1) := by decide +kernel
theorem dX10_rate_52 : decode cX10_rate 52 = .ok (.aload_n 0, 1) := by decide +kernel
theorem dX10_rate_53 : decode cX10_rate 53 = .ok (.getfield 57, 3) := by decide +kernel
theorem dX10_rate_56 : decode cX10_rate 56 = .ok (.iconst 0, 1) := by decide +kernel
theorem dX10_rate_57 : decode cX10_rate 57 = .ok (.iaload, 1) := by decide +kernel
theorem dX10_rate_58 : decode cX10_rate 58 = .ok (.invokestatic 339, 3) := by decide +kernel
theorem dX10_rate_61 : decode cX10_rate 61 = .ok (.istore_n 3, 1) := by decide +kernel
theorem dX10_rate_62 : decode cX10_rate 62 = .ok (.aload_n 0, 1) := by decide +kernel
theorem dX10_rate_63 : decode cX10_rate 63 = .ok (.iload_n 1, 1) := by decide +kernel
theorem dX10_rate_64 : decode cX10_rate 64 = .ok (.ifCond .ne 7, 3) := by decide +kernel
theorem dX10_rate_67 : decode cX10_rate 67 = .ok (.iload_n 2, 1) := by decide +kernel
theorem dX10_rate_68 : decode cX10_rate 68 = .ok (.goto 9, 3) := by decide +kernel
theorem dX10_rate_71 : decode cX10_rate 71 = .ok (.aload_n 0, 1) := by decide +kernel
theorem dX10_rate_72 : decode cX10_rate 72 = .ok (.getfield 57, 3) := by decide +kernel
theorem dX10_rate_75 : decode cX10_rate 75 = .ok (.iconst 0, 1) := by decide +kernel
theorem dX10_rate_76 : decode cX10_rate 76 = .ok (.iaload, 1) := by decide +kernel
theorem dX10_rate_77 : decode cX10_rate 77 = .ok (.iload_n 3, 1) := by decide +kernel
theorem dX10_rate_78 : decode cX10_rate 78 = .ok (.idiv, 1) := by decide +kernel
theorem dX10_rate_79 : decode cX10_rate 79 = .ok (.invokevirtual 245, 3) := by decide +kernel
theorem dX10_rate_82 : decode cX10_rate 82 = .ok (.ireturn, 1) := by decide +kernel
theorem dX10_busiest_0 : decode cX10_busiest 0 = .ok (.aload_n 0, 1) := by decide +kernel
theorem dX10_busiest_1 : decode cX10_busiest 1 = .ok (.iconst 0, 1) := by decide +kernel
theorem dX10_busiest_2 : decode cX10_busiest 2 = .ok (.putfield 74, 3) := by decide +kernel
theorem dX10_busiest_5 : decode cX10_busiest 5 = .ok (.aload_n 0, 1) := by decide +kernel
theorem dX10_busiest_6 : decode cX10_busiest 6 = .ok (.getfield 257, 3) := by decide +kernel
theorem dX10_busiest_9 : decode cX10_busiest 9 = .ok (.ifCond .ne 9, 3) := by decide +kernel
theorem dX10_busiest_12 : decode cX10_busiest 12 = .ok (.aload_n 0, 1) := by decide +kernel
theorem dX10_busiest_13 : decode cX10_busiest 13 = .ok (.iconst 1, 1) := by decide +kernel
theorem dX10_busiest_14 : decode cX10_busiest 14 = .ok (.invokevirtual 232, 3) := by decide +kernel
theorem dX10_busiest_17 : decode cX10_busiest 17 = .ok (.ireturn, 1) := by decide +kernel
theorem dX10_busiest_18 : decode cX10_busiest 18 = .ok (.iconst 0, 1) := by decide +kernel
theorem dX10_busiest_19 : decode cX10_busiest 19 = .ok (.istore_n 1, 1) := by decide +kernel
theorem dX10_busiest_20 : decode cX10_busiest 20 = .ok (.iconst 1, 1) := by decide +kernel
theorem dX10_busiest_21 : decode cX10_busiest 21 = .ok (.istore_n 2, 1) := by decide +kernel
theorem dX10_busiest_22 : decode cX10_busiest 22 = .ok (.iload_n 2, 1) := by decide +kernel
theorem dX10_busiest_23 : decode cX10_busiest 23 = .ok (.aload_n 0, 1) := by decide +kernel
theorem dX10_busiest_24 : decode cX10_busiest 24 = .ok (.getfield 242, 3) := by decide +kernel
theorem dX10_busiest_27 : decode cX10_busiest 27 = .ok (.if_icmp .ge 34, 3) := by decide +kernel
theorem dX10_busiest_30 : decode cX10_busiest 30 = .ok (.aload_n 0, 1) := by decide +kernel
theorem dX10_busiest_31 : decode cX10_busiest 31 = .ok (.getfield 57, 3) := by decide +kernel
theorem dX10_busiest_34 : decode cX10_busiest 34 = .ok (.iload_n 2, 1) := by decide +kernel
theorem dX10_busiest_35 : decode cX10_busiest 35 = .ok (.iconst 5, 1) := by decide +kernel
theorem dX10_busiest_36 : decode cX10_busiest 36 = .ok (.invokestatic 264, 3) := by decide +kernel
theorem dX10_busiest_39 : decode cX10_busiest 39 = .ok (.iaload, 1) := by decide +kernel
theorem dX10_busiest_40 : decode cX10_busiest 40 = .ok (.aload_n 0, 1) := by decide +kernel
theorem dX10_busiest_41 : decode cX10_busiest 41 = .ok (.getfield 57, 3) := by decide +kernel
theorem dX10_busiest_44 : decode cX10_busiest 44 = .ok (.iload_n 1, 1) := by decide +kernel
theorem dX10_busiest_45 : decode cX10_busiest 45 = .ok (.iconst 5, 1) := by decide +kernel
theorem dX10_busiest_46 : decode cX10_busiest 46 = .ok (.invokestatic 264, 3) := by decide +kernel
theorem dX10_busiest_49 : decode cX10_busiest 49 = .ok (.iaload, 1) := by decide +kernel
theorem dX10_busiest_50 : decode cX10_busiest 50 = .ok (.if_icmp .le 5, 3) := by decide +kernel
theorem dX10_busiest_53 : decode cX10_busiest 53 = .ok (.iload_n 2, 1) := by decide +kernel
theorem dX10_busiest_54 : decode cX10_busiest 54 = .ok (.istore_n 1, 1) := by decide +kernel
theorem dX10_busiest_55 : decode cX10_busiest 55 = .ok (.iinc 2 1, 3) := by decide +kernel
theorem dX10_busiest_58 : decode cX10_busiest 58 = .ok (.goto (-36), 3) := by decide +kernel
theorem dX10_busiest_61 : decode cX10_busiest 61 = .ok (.aload_n 0, 1) := by decide +kernel
theorem dX10_busiest_62 : decode cX10_busiest 62 = .ok (.iload_n 1, 1) := by decide +kernel
theorem dX10_busiest_63 : decode cX10_busiest 63 = .ok (.invokevirtual 245, 3) := by decide +kernel
theorem dX10_busiest_66 : decode cX10_busiest 66 = .ok (.ireturn, 1) := by decide +kernel
theorem dX10_peak_0 : decode cX10_peak 0 = .ok (.aload_n 0, 1) := by decide +kernel
theorem dX10_peak_1 : decode cX10_peak 1 = .ok (.iconst 0, 1) := by decide +kernel
theorem dX10_peak_2 : decode cX10_peak 2 = .ok (.putfield 74, 3) := by decide +kernel
theorem dX10_peak_5 : decode cX10_peak 5 = .ok (.aload_n 0, 1) := by decide +kernel
theorem dX10_peak_6 : decode cX10_peak 6 = .ok (.iload_n 1, 1) := by decide +kernel
theorem dX10_peak_7 : decode cX10_peak 7 = .ok (.invokevirtual 316, 3) := by decide +kernel
theorem dX10_peak_10 : decode cX10_peak 10 = .ok (.ifCond .eq 19, 3) := by decide +kernel
theorem dX10_peak_13 : decode cX10_peak 13 = .ok (.aload_n 0, 1) := by decide +kernel
theorem dX10_peak_14 : decode cX10_peak 14 = .ok (.aload_n 0, 1) := by decide +kernel
theorem dX10_peak_15 : decode cX10_peak 15 = .ok (.getfield 57, 3) := by decide +kernel
theorem dX10_peak_18 : decode cX10_peak 18 = .ok (.bipush 90, 2) := by decide +kernel
theorem dX10_peak_20 : decode cX10_peak 20 = .ok (.iload_n 1, 1) := by decide +kernel
theorem dX10_peak_21 : decode cX10_peak 21 = .ok (.iadd, 1) := by decide +kernel
theorem dX10_peak_22 : decode cX10_peak 22 = .ok (.iaload, 1) := by decide +kernel
theorem dX10_peak_23 : decode cX10_peak 23 = .ok (.invokevirtual 245, 3) := by decide +kernel
theorem dX10_peak_26 : decode cX10_peak 26 = .ok (.goto 8, 3) := by decide +kernel
theorem dX10_peak_29 : decode cX10_peak 29 = .ok (.aload_n 0, 1) := by decide +kernel
theorem dX10_peak_30 : decode cX10_peak 30 = .ok (.iconst 1, 1) := by decide +kernel
theorem dX10_peak_31 : decode cX10_peak 31 = .ok (.invokevirtual 232, 3) := by decide +kernel
theorem dX10_peak_34 : decode cX10_peak 34 = .ok (.ireturn, 1) := by decide +kernel
theorem dX10_firstOf_0 : decode cX10_firstOf 0 = .ok (.aload_n 0, 1) := by decide +kernel
theorem dX10_firstOf_1 : decode cX10_firstOf 1 = .ok (.iconst 0, 1) := by decide +kernel
theorem dX10_firstOf_2 : decode cX10_firstOf 2 = .ok (.putfield 74, 3) := by decide +kernel
theorem dX10_firstOf_5 : decode cX10_firstOf 5 = .ok (.aload_n 0, 1) := by decide +kernel
theorem dX10_firstOf_6 : decode cX10_firstOf 6 = .ok (.iload_n 1, 1) := by decide +kernel
theorem dX10_firstOf_7 : decode cX10_firstOf 7 = .ok (.invokevirtual 319, 3) := by decide +kernel
theorem dX10_firstOf_10 : decode cX10_firstOf 10 = .ok (.ifCond .eq 19, 3) := by decide +kernel
theorem dX10_firstOf_13 : decode cX10_firstOf 13 = .ok (.aload_n 0, 1) := by decide +kernel
theorem dX10_firstOf_14 : decode cX10_firstOf 14 = .ok (.aload_n 0, 1) := by decide +kernel
theorem dX10_firstOf_15 : decode cX10_firstOf 15 = .ok (.getfield 57, 3) := by decide +kernel
theorem dX10_firstOf_18 : decode cX10_firstOf 18 = .ok (.bipush 96, 2) := by decide +kernel
theorem dX10_firstOf_20 : decode cX10_firstOf 20 = .ok (.iload_n 1, 1) := by decide +kernel
theorem dX10_firstOf_21 : decode cX10_firstOf 21 = .ok (.iadd, 1) := by decide +kernel
theorem dX10_firstOf_22 : decode cX10_firstOf 22 = .ok (.iaload, 1) := by decide +kernel
theorem dX10_firstOf_23 : decode cX10_firstOf 23 = .ok (.invokevirtual 245, 3) := by decide +kernel
theorem dX10_firstOf_26 : decode cX10_firstOf 26 = .ok (.goto 8, 3) := by decide +kernel
theorem dX10_firstOf_29 : decode cX10_firstOf 29 = .ok (.aload_n 0, 1) := by decide +kernel
theorem dX10_firstOf_30 : decode cX10_firstOf 30 = .ok (.iconst 1, 1) := by decide +kernel
theorem dX10_firstOf_31 : decode cX10_firstOf 31 = .ok (.invokevirtual 232, 3) := by decide +kernel
theorem dX10_firstOf_34 : decode cX10_firstOf 34 = .ok (.ireturn, 1) := by decide +kernel
theorem dX10_papers_0 : decode cX10_papers 0 = .ok (.iconst 0, 1) := by decide +kernel
theorem dX10_papers_1 : decode cX10_papers 1 = .ok (.istore_n 1, 1) := by decide +kernel
theorem dX10_papers_2 : decode cX10_papers 2 = .ok (.iload_n 1, 1) := by decide +kernel
theorem dX10_papers_3 : decode cX10_papers 3 = .ok (.bipush 37, 2) := by decide +kernel
theorem dX10_papers_5 : decode cX10_papers 5 = .ok (.if_icmp .ge 21, 3) := by decide +kernel
theorem dX10_papers_8 : decode cX10_papers 8 = .ok (.aload_n 0, 1) := by decide +kernel
theorem dX10_papers_9 : decode cX10_papers 9 = .ok (.getfield 48, 3) := by decide +kernel
theorem dX10_papers_12 : decode cX10_papers 12 = .ok (.iload_n 1, 1) := by decide +kernel
theorem dX10_papers_13 : decode cX10_papers 13 = .ok (.aload_n 0, 1) := by decide +kernel
theorem dX10_papers_14 : decode cX10_papers 14 = .ok (.getfield 42, 3) := by decide +kernel
theorem dX10_papers_17 : decode cX10_papers 17 = .ok (.iload_n 1, 1) := by decide +kernel
theorem dX10_papers_18 : decode cX10_papers 18 = .ok (.iaload, 1) := by decide +kernel
theorem dX10_papers_19 : decode cX10_papers 19 = .ok (.iastore, 1) := by decide +kernel
theorem dX10_papers_20 : decode cX10_papers 20 = .ok (.iinc 1 1, 3) := by decide +kernel
theorem dX10_papers_23 : decode cX10_papers 23 = .ok (.goto (-21), 3) := by decide +kernel
theorem dX10_papers_26 : decode cX10_papers 26 = .ok (.return_, 1) := by decide +kernel
theorem dX10_yieldOf_0 : decode cX10_yieldOf 0 = .ok (.aload_n 0, 1) := by decide +kernel
theorem dX10_yieldOf_1 : decode cX10_yieldOf 1 = .ok (.aload_n 0, 1) := by decide +kernel
theorem dX10_yieldOf_2 : decode cX10_yieldOf 2 = .ok (.getfield 60, 3) := by decide +kernel
theorem dX10_yieldOf_5 : decode cX10_yieldOf 5 = .ok (.invokevirtual 260, 3) := by decide +kernel
theorem dX10_yieldOf_8 : decode cX10_yieldOf 8 = .ok (.iconst 0, 1) := by decide +kernel
theorem dX10_yieldOf_9 : decode cX10_yieldOf 9 = .ok (.istore_n 2, 1) := by decide +kernel
theorem dX10_yieldOf_10 : decode cX10_yieldOf 10 = .ok (.iload_n 2, 1) := by decide +kernel
theorem dX10_yieldOf_11 : decode cX10_yieldOf 11 = .ok (.iload_n 1, 1) := by decide +kernel
theorem dX10_yieldOf_12 : decode cX10_yieldOf 12 = .ok (.if_icmp .ge 21, 3) := by decide +kernel
theorem dX10_yieldOf_15 : decode cX10_yieldOf 15 = .ok (.aload_n 0, 1) := by decide +kernel
theorem dX10_yieldOf_16 : decode cX10_yieldOf 16 = .ok (.aload_n 0, 1) := by decide +kernel
theorem dX10_yieldOf_17 : decode cX10_yieldOf 17 = .ok (.getfield 60, 3) := by decide +kernel
theorem dX10_yieldOf_20 : decode cX10_yieldOf 20 = .ok (.aload_n 0, 1) := by decide +kernel
theorem dX10_yieldOf_21 : decode cX10_yieldOf 21 = .ok (.getfield 48, 3) := by decide +kernel
theorem dX10_yieldOf_24 : decode cX10_yieldOf 24 = .ok (.invokevirtual 329, 3) := by decide +kernel
theorem dX10_yieldOf_27 : decode cX10_yieldOf 27 = .ok (.iinc 2 1, 3) := by decide +kernel
theorem dX10_yieldOf_30 : decode cX10_yieldOf 30 = .ok (.goto (-20), 3) := by decide +kernel
theorem dX10_yieldOf_33 : decode cX10_yieldOf 33 = .ok (.aload_n 0, 1) := by decide +kernel
theorem dX10_yieldOf_34 : decode cX10_yieldOf 34 = .ok (.aload_n 0, 1) := by decide +kernel
theorem dX10_yieldOf_35 : decode cX10_yieldOf 35 = .ok (.getfield 60, 3) := by decide +kernel
theorem dX10_yieldOf_38 : decode cX10_yieldOf 38 = .ok (.invokevirtual 325, 3) := by decide +kernel
theorem dX10_yieldOf_41 : decode cX10_yieldOf 41 = .ok (.ireturn, 1) := by decide +kernel
theorem dX10_yieldNow_0 : decode cX10_yieldNow 0 = .ok (.aload_n 0, 1) := by decide +kernel
theorem dX10_yieldNow_1 : decode cX10_yieldNow 1 = .ok (.invokevirtual 342, 3) := by decide +kernel
theorem dX10_yieldNow_4 : decode cX10_yieldNow 4 = .ok (.aload_n 0, 1) := by decide +kernel
theorem dX10_yieldNow_5 : decode cX10_yieldNow 5 = .ok (.iload_n 1, 1) := by decide +kernel
theorem dX10_yieldNow_6 : decode cX10_yieldNow 6 = .ok (.invokevirtual 345, 3) := by decide +kernel
theorem dX10_yieldNow_9 : decode cX10_yieldNow 9 = .ok (.ireturn, 1) := by decide +kernel
theorem dX10_isTerm_0 : decode cX10_isTerm 0 = .ok (.iload_n 0, 1) := by decide +kernel
theorem dX10_isTerm_1 : decode cX10_isTerm 1 = .ok (.iconst 1, 1) := by decide +kernel
theorem dX10_isTerm_2 : decode cX10_isTerm 2 = .ok (.sipush 2000, 3) := by decide +kernel
theorem dX10_isTerm_5 : decode cX10_isTerm 5 = .ok (.invokestatic 95, 3) := by decide +kernel
theorem dX10_isTerm_8 : decode cX10_isTerm 8 = .ok (.ireturn, 1) := by decide +kernel
theorem dX10_yields_0 : decode cX10_yields 0 = .ok (.aload_n 0, 1) := by decide +kernel
theorem dX10_yields_1 : decode cX10_yields 1 = .ok (.iconst 0, 1) := by decide +kernel
theorem dX10_yields_2 : decode cX10_yields 2 = .ok (.putfield 74, 3) := by decide +kernel
theorem dX10_yields_5 : decode cX10_yields 5 = .ok (.aload_n 0, 1) := by decide +kernel
theorem dX10_yields_6 : decode cX10_yields 6 = .ok (.getfield 257, 3) := by decide +kernel
theorem dX10_yields_9 : decode cX10_yields 9 = .ok (.ifCond .ne 9, 3) := by decide +kernel
theorem dX10_yields_12 : decode cX10_yields 12 = .ok (.aload_n 0, 1) := by decide +kernel
theorem dX10_yields_13 : decode cX10_yields 13 = .ok (.iconst 1, 1) := by decide +kernel
theorem dX10_yields_14 : decode cX10_yields 14 = .ok (.invokevirtual 232, 3) := by decide +kernel
theorem dX10_yields_17 : decode cX10_yields 17 = .ok (.ireturn, 1) := by decide +kernel
theorem dX10_yields_18 : decode cX10_yields 18 = .ok (.iload_n 1, 1) := by decide +kernel
theorem dX10_yields_19 : decode cX10_yields 19 = .ok (.invokestatic 348, 3) := by decide +kernel
theorem dX10_yields_22 : decode cX10_yields 22 = .ok (.ifCond .eq 15, 3) := by decide +kernel
theorem dX10_yields_25 : decode cX10_yields 25 = .ok (.aload_n 0, 1) := by decide +kernel
theorem dX10_yields_26 : decode cX10_yields 26 = .ok (.aload_n 0, 1) := by decide +kernel
theorem dX10_yields_27 : decode cX10_yields 27 = .ok (.iload_n 1, 1) := by decide +kernel
theorem dX10_yields_28 : decode cX10_yields 28 = .ok (.invokevirtual 351, 3) := by decide +kernel
theorem dX10_yields_31 : decode cX10_yields 31 = .ok (.invokevirtual 245, 3) := by decide +kernel
theorem dX10_yields_34 : decode cX10_yields 34 = .ok (.goto 8, 3) := by decide +kernel
theorem dX10_yields_37 : decode cX10_yields 37 = .ok (.aload_n 0, 1) := by decide +kernel
theorem dX10_yields_38 : decode cX10_yields 38 = .ok (.iconst 2, 1) := by decide +kernel
theorem dX10_yields_39 : decode cX10_yields 39 = .ok (.invokevirtual 232, 3) := by decide +kernel
theorem dX10_yields_42 : decode cX10_yields 42 = .ok (.ireturn, 1) := by decide +kernel
theorem dX10_would_0 : decode cX10_would 0 = .ok (.aload_n 0, 1) := by decide +kernel
theorem dX10_would_1 : decode cX10_would 1 = .ok (.iconst 0, 1) := by decide +kernel
theorem dX10_would_2 : decode cX10_would 2 = .ok (.putfield 74, 3) := by decide +kernel
theorem dX10_would_5 : decode cX10_would 5 = .ok (.aload_n 0, 1) := by decide +kernel
theorem dX10_would_6 : decode cX10_would 6 = .ok (.iload_n 1, 1) := by decide +kernel
theorem dX10_would_7 : decode cX10_would 7 = .ok (.invokevirtual 316, 3) := by decide +kernel
theorem dX10_would_10 : decode cX10_would 10 = .ok (.ifCond .eq 11, 3) := by decide +kernel
theorem dX10_would_13 : decode cX10_would 13 = .ok (.aload_n 0, 1) := by decide +kernel
theorem dX10_would_14 : decode cX10_would 14 = .ok (.iload_n 2, 1) := by decide +kernel
theorem dX10_would_15 : decode cX10_would 15 = .ok (.invokevirtual 319, 3) := by decide +kernel
theorem dX10_would_18 : decode cX10_would 18 = .ok (.ifCond .ne 9, 3) := by decide +kernel
theorem dX10_would_21 : decode cX10_would 21 = .ok (.aload_n 0, 1) := by decide +kernel
theorem dX10_would_22 : decode cX10_would 22 = .ok (.iconst 1, 1) := by decide +kernel
theorem dX10_would_23 : decode cX10_would 23 = .ok (.invokevirtual 232, 3) := by decide +kernel
theorem dX10_would_26 : decode cX10_would 26 = .ok (.ireturn, 1) := by decide +kernel
theorem dX10_would_27 : decode cX10_would 27 = .ok (.iload_n 3, 1) := by decide +kernel
theorem dX10_would_28 : decode cX10_would 28 = .ok (.iconst 0, 1) := by decide +kernel
theorem dX10_would_29 : decode cX10_would 29 = .ok (.bipush 9, 2) := by decide +kernel
theorem dX10_would_31 : decode cX10_would 31 = .ok (.invokestatic 95, 3) := by decide +kernel
theorem dX10_would_34 : decode cX10_would 34 = .ok (.ifCond .eq 11, 3) := by decide +kernel
theorem dX10_would_37 : decode cX10_would 37 = .ok (.iload 4, 2) := by decide +kernel
theorem dX10_would_39 : decode cX10_would 39 = .ok (.invokestatic 348, 3) := by decide +kernel
theorem dX10_would_42 : decode cX10_would 42 = .ok (.ifCond .ne 9, 3) := by decide +kernel
theorem dX10_would_45 : decode cX10_would 45 = .ok (.aload_n 0, 1) := by decide +kernel
theorem dX10_would_46 : decode cX10_would 46 = .ok (.iconst 2, 1) := by decide +kernel
theorem dX10_would_47 : decode cX10_would 47 = .ok (.invokevirtual 232, 3) := by decide +kernel
theorem dX10_would_50 : decode cX10_would 50 = .ok (.ireturn, 1) := by decide +kernel
theorem dX10_would_51 : decode cX10_would 51 = .ok (.aload_n 0, 1) := by decide +kernel
theorem dX10_would_52 : decode cX10_would 52 = .ok (.invokevirtual 342, 3) := by decide +kernel
theorem dX10_would_55 : decode cX10_would 55 = .ok (.aload_n 0, 1) := by decide +kernel
theorem dX10_would_56 : decode cX10_would 56 = .ok (.getfield 48, 3) := by decide +kernel
theorem dX10_would_59 : decode cX10_would 59 = .ok (.iconst 3, 1) := by decide +kernel
theorem dX10_would_60 : decode cX10_would 60 = .ok (.iload_n 1, 1) := by decide +kernel
theorem dX10_would_61 : decode cX10_would 61 = .ok (.imul, 1) := by decide +kernel
theorem dX10_would_62 : decode cX10_would 62 = .ok (.iload_n 2, 1) := by decide +kernel
theorem dX10_would_63 : decode cX10_would 63 = .ok (.iadd, 1) := by decide +kernel
theorem dX10_would_64 : decode cX10_would 64 = .ok (.iload_n 3, 1) := by decide +kernel
theorem dX10_would_65 : decode cX10_would 65 = .ok (.iastore, 1) := by decide +kernel
theorem dX10_would_66 : decode cX10_would 66 = .ok (.aload_n 0, 1) := by decide +kernel
theorem dX10_would_67 : decode cX10_would 67 = .ok (.aload_n 0, 1) := by decide +kernel
theorem dX10_would_68 : decode cX10_would 68 = .ok (.iload 4, 2) := by decide +kernel
theorem dX10_would_70 : decode cX10_would 70 = .ok (.invokevirtual 345, 3) := by decide +kernel
theorem dX10_would_73 : decode cX10_would 73 = .ok (.invokevirtual 245, 3) := by decide +kernel
theorem dX10_would_76 : decode cX10_would 76 = .ok (.ireturn, 1) := by decide +kernel
theorem dX10_fewest_0 : decode cX10_fewest 0 = .ok (.aload_n 0, 1) := by decide +kernel
theorem dX10_fewest_1 : decode cX10_fewest 1 = .ok (.iconst 0, 1) := by decide +kernel
theorem dX10_fewest_2 : decode cX10_fewest 2 = .ok (.putfield 74, 3) := by decide +kernel
theorem dX10_fewest_5 : decode cX10_fewest 5 = .ok (.aload_n 0, 1) := by decide +kernel
theorem dX10_fewest_6 : decode cX10_fewest 6 = .ok (.getfield 257, 3) := by decide +kernel
theorem dX10_fewest_9 : decode cX10_fewest 9 = .ok (.ifCond .ne 9, 3) := by decide +kernel
theorem dX10_fewest_12 : decode cX10_fewest 12 = .ok (.aload_n 0, 1) := by decide +kernel
theorem dX10_fewest_13 : decode cX10_fewest 13 = .ok (.iconst 1, 1) := by decide +kernel
theorem dX10_fewest_14 : decode cX10_fewest 14 = .ok (.invokevirtual 232, 3) := by decide +kernel
theorem dX10_fewest_17 : decode cX10_fewest 17 = .ok (.ireturn, 1) := by decide +kernel
theorem dX10_fewest_18 : decode cX10_fewest 18 = .ok (.iload_n 1, 1) := by decide +kernel
theorem dX10_fewest_19 : decode cX10_fewest 19 = .ok (.iconst 0, 1) := by decide +kernel
theorem dX10_fewest_20 : decode cX10_fewest 20 = .ok (.sipush 9999, 3) := by decide +kernel
theorem dX10_fewest_23 : decode cX10_fewest 23 = .ok (.invokestatic 95, 3) := by decide +kernel
theorem dX10_fewest_26 : decode cX10_fewest 26 = .ok (.ifCond .eq 10, 3) := by decide +kernel
theorem dX10_fewest_29 : decode cX10_fewest 29 = .ok (.iload_n 2, 1) := by decide +kernel
theorem dX10_fewest_30 : decode cX10_fewest 30 = .ok (.invokestatic 348, 3) := by decide +kernel
theorem dX10_fewest_33 : decode cX10_fewest 33 = .ok (.ifCond .ne 9, 3) := by decide +kernel
theorem dX10_fewest_36 : decode cX10_fewest 36 = .ok (.aload_n 0, 1) := by decide +kernel
theorem dX10_fewest_37 : decode cX10_fewest 37 = .ok (.iconst 2, 1) := by decide +kernel
theorem dX10_fewest_38 : decode cX10_fewest 38 = .ok (.invokevirtual 232, 3) := by decide +kernel
theorem dX10_fewest_41 : decode cX10_fewest 41 = .ok (.ireturn, 1) := by decide +kernel
theorem dX10_fewest_42 : decode cX10_fewest 42 = .ok (.aload_n 0, 1) := by decide +kernel
theorem dX10_fewest_43 : decode cX10_fewest 43 = .ok (.invokevirtual 342, 3) := by decide +kernel
theorem dX10_fewest_46 : decode cX10_fewest 46 = .ok (.iconst 1, 1) := by decide +kernel
theorem dX10_fewest_47 : decode cX10_fewest 47 = .ok (.istore_n 3, 1) := by decide +kernel
theorem dX10_fewest_48 : decode cX10_fewest 48 = .ok (.iload_n 3, 1) := by decide +kernel
theorem dX10_fewest_49 : decode cX10_fewest 49 = .ok (.bipush 9, 2) := by decide +kernel
theorem dX10_fewest_51 : decode cX10_fewest 51 = .ok (.if_icmp .gt 48, 3) := by decide +kernel
theorem dX10_fewest_54 : decode cX10_fewest 54 = .ok (.iconst 0, 1) := by decide +kernel
theorem dX10_fewest_55 : decode cX10_fewest 55 = .ok (.istore 4, 2) := by decide +kernel
theorem dX10_fewest_57 : decode cX10_fewest 57 = .ok (.iload 4, 2) := by decide +kernel
theorem dX10_fewest_59 : decode cX10_fewest 59 = .ok (.bipush 18, 2) := by decide +kernel
theorem dX10_fewest_61 : decode cX10_fewest 61 = .ok (.if_icmp .ge 17, 3) := by decide +kernel
theorem dX10_fewest_64 : decode cX10_fewest 64 = .ok (.aload_n 0, 1) := by decide +kernel
theorem dX10_fewest_65 : decode cX10_fewest 65 = .ok (.getfield 48, 3) := by decide +kernel
theorem dX10_fewest_68 : decode cX10_fewest 68 = .ok (.iload 4, 2) := by decide +kernel
theorem dX10_fewest_70 : decode cX10_fewest 70 = .ok (.iload_n 3, 1) := by decide +kernel
theorem dX10_fewest_71 : decode cX10_fewest 71 = .ok (.iastore, 1) := by decide +kernel
theorem dX10_fewest_72 : decode cX10_fewest 72 = .ok (.iinc 4 1, 3) := by decide +kernel
theorem dX10_fewest_75 : decode cX10_fewest 75 = .ok (.goto (-18), 3) := by decide +kernel
theorem dX10_fewest_78 : decode cX10_fewest 78 = .ok (.aload_n 0, 1) := by decide +kernel
theorem dX10_fewest_79 : decode cX10_fewest 79 = .ok (.iload_n 2, 1) := by decide +kernel
theorem dX10_fewest_80 : decode cX10_fewest 80 = .ok (.invokevirtual 345, 3) := by decide +kernel
theorem dX10_fewest_83 : decode cX10_fewest 83 = .ok (.iload_n 1, 1) := by decide +kernel
theorem dX10_fewest_84 : decode cX10_fewest 84 = .ok (.if_icmp .lt 9, 3) := by decide +kernel
theorem dX10_fewest_87 : decode cX10_fewest 87 = .ok (.aload_n 0, 1) := by decide +kernel
theorem dX10_fewest_88 : decode cX10_fewest 88 = .ok (.iload_n 3, 1) := by decide +kernel
theorem dX10_fewest_89 : decode cX10_fewest 89 = .ok (.invokevirtual 245, 3) := by decide +kernel
theorem dX10_fewest_92 : decode cX10_fewest 92 = .ok (.ireturn, 1) := by decide +kernel
theorem dX10_fewest_93 : decode cX10_fewest 93 = .ok (.iinc 3 1, 3) := by decide +kernel
theorem dX10_fewest_96 : decode cX10_fewest 96 = .ok (.goto (-48), 3) := by decide +kernel
theorem dX10_fewest_99 : decode cX10_fewest 99 = .ok (.aload_n 0, 1) := by decide +kernel
theorem dX10_fewest_100 : decode cX10_fewest 100 = .ok (.bipush (-2), 2) := by decide +kernel
theorem dX10_fewest_102 : decode cX10_fewest 102 = .ok (.invokevirtual 245, 3) := by decide +kernel
theorem dX10_fewest_105 : decode cX10_fewest 105 = .ok (.ireturn, 1) := by decide +kernel
theorem dX10_takesOut_0 : decode cX10_takesOut 0 = .ok (.aload_n 0, 1) := by decide +kernel
theorem dX10_takesOut_1 : decode cX10_takesOut 1 = .ok (.iload_n 1, 1) := by decide +kernel
theorem dX10_takesOut_2 : decode cX10_takesOut 2 = .ok (.invokevirtual 351, 3) := by decide +kernel
theorem dX10_takesOut_5 : decode cX10_takesOut 5 = .ok (.istore_n 2, 1) := by decide +kernel
theorem dX10_takesOut_6 : decode cX10_takesOut 6 = .ok (.iconst 1, 1) := by decide +kernel
theorem dX10_takesOut_7 : decode cX10_takesOut 7 = .ok (.istore_n 3, 1) := by decide +kernel
theorem dX10_takesOut_8 : decode cX10_takesOut 8 = .ok (.iload_n 3, 1) := by decide +kernel
theorem dX10_takesOut_9 : decode cX10_takesOut 9 = .ok (.ifCond .eq 115, 3) := by decide +kernel
theorem dX10_takesOut_12 : decode cX10_takesOut 12 = .ok (.iconst 0, 1) := by decide +kernel
theorem dX10_takesOut_13 : decode cX10_takesOut 13 = .ok (.istore_n 3, 1) := by decide +kernel
theorem dX10_takesOut_14 : decode cX10_takesOut 14 = .ok (.iconst 0, 1) := by decide +kernel
theorem dX10_takesOut_15 : decode cX10_takesOut 15 = .ok (.istore 4, 2) := by decide +kernel
theorem dX10_takesOut_17 : decode cX10_takesOut 17 = .ok (.iload 4, 2) := by decide +kernel
theorem dX10_takesOut_19 : decode cX10_takesOut 19 = .ok (.aload_n 0, 1) := by decide +kernel
theorem dX10_takesOut_20 : decode cX10_takesOut 20 = .ok (.getfield 242, 3) := by decide +kernel
theorem dX10_takesOut_23 : decode cX10_takesOut 23 = .ok (.if_icmp .ge 98, 3) := by decide +kernel
theorem dX10_takesOut_26 : decode cX10_takesOut 26 = .ok (.iconst 0, 1) := by decide +kernel
theorem dX10_takesOut_27 : decode cX10_takesOut 27 = .ok (.istore 5, 2) := by decide +kernel
theorem dX10_takesOut_29 : decode cX10_takesOut 29 = .ok (.iload 5, 2) := by decide +kernel
theorem dX10_takesOut_31 : decode cX10_takesOut 31 = .ok (.aload_n 0, 1) := by decide +kernel
theorem dX10_takesOut_32 : decode cX10_takesOut 32 = .ok (.getfield 248, 3) := by decide +kernel
theorem dX10_takesOut_35 : decode cX10_takesOut 35 = .ok (.if_icmp .ge 80, 3) := by decide +kernel
theorem dX10_takesOut_38 : decode cX10_takesOut 38 = .ok (.aload_n 0, 1) := by decide +kernel
theorem dX10_takesOut_39 : decode cX10_takesOut 39 = .ok (.getfield 48, 3) := by decide +kernel
theorem dX10_takesOut_42 : decode cX10_takesOut 42 = .ok (.iconst 3, 1) := by decide +kernel
theorem dX10_takesOut_43 : decode cX10_takesOut 43 = .ok (.iload 4, 2) := by decide +kernel
theorem dX10_takesOut_45 : decode cX10_takesOut 45 = .ok (.imul, 1) := by decide +kernel
theorem dX10_takesOut_46 : decode cX10_takesOut 46 = .ok (.iload 5, 2) := by decide +kernel
theorem dX10_takesOut_48 : decode cX10_takesOut 48 = .ok (.iadd, 1) := by decide +kernel
theorem dX10_takesOut_49 : decode cX10_takesOut 49 = .ok (.iaload, 1) := by decide +kernel
theorem dX10_takesOut_50 : decode cX10_takesOut 50 = .ok (.ifCond .ne 6, 3) := by decide +kernel
theorem dX10_takesOut_53 : decode cX10_takesOut 53 = .ok (.goto 56, 3) := by decide +kernel
theorem dX10_takesOut_56 : decode cX10_takesOut 56 = .ok (.aload_n 0, 1) := by decide +kernel
theorem dX10_takesOut_57 : decode cX10_takesOut 57 = .ok (.getfield 48, 3) := by decide +kernel
theorem dX10_takesOut_60 : decode cX10_takesOut 60 = .ok (.iconst 3, 1) := by decide +kernel
theorem dX10_takesOut_61 : decode cX10_takesOut 61 = .ok (.iload 4, 2) := by decide +kernel
theorem dX10_takesOut_63 : decode cX10_takesOut 63 = .ok (.imul, 1) := by decide +kernel
theorem dX10_takesOut_64 : decode cX10_takesOut 64 = .ok (.iload 5, 2) := by decide +kernel
theorem dX10_takesOut_66 : decode cX10_takesOut 66 = .ok (.iadd, 1) := by decide +kernel
theorem dX10_takesOut_67 : decode cX10_takesOut 67 = .ok (.dup2, 1) := by decide +kernel
theorem dX10_takesOut_68 : decode cX10_takesOut 68 = .ok (.iaload, 1) := by decide +kernel
theorem dX10_takesOut_69 : decode cX10_takesOut 69 = .ok (.iconst 1, 1) := by decide +kernel
theorem dX10_takesOut_70 : decode cX10_takesOut 70 = .ok (.isub, 1) := by decide +kernel
theorem dX10_takesOut_71 : decode cX10_takesOut 71 = .ok (.iastore, 1) := by decide +kernel
theorem dX10_takesOut_72 : decode cX10_takesOut 72 = .ok (.aload_n 0, 1) := by decide +kernel
theorem dX10_takesOut_73 : decode cX10_takesOut 73 = .ok (.iload_n 1, 1) := by decide +kernel
theorem dX10_takesOut_74 : decode cX10_takesOut 74 = .ok (.invokevirtual 345, 3) := by decide +kernel
theorem dX10_takesOut_77 : decode cX10_takesOut 77 = .ok (.istore 6, 2) := by decide +kernel
theorem dX10_takesOut_79 : decode cX10_takesOut 79 = .ok (.iload 6, 2) := by decide +kernel
theorem dX10_takesOut_81 : decode cX10_takesOut 81 = .ok (.iload_n 2, 1) := by decide +kernel
theorem dX10_takesOut_82 : decode cX10_takesOut 82 = .ok (.if_icmp .ge 22, 3) := by decide +kernel
theorem dX10_takesOut_85 : decode cX10_takesOut 85 = .ok (.aload_n 0, 1) := by decide +kernel
theorem dX10_takesOut_86 : decode cX10_takesOut 86 = .ok (.getfield 48, 3) := by decide +kernel
theorem dX10_takesOut_89 : decode cX10_takesOut 89 = .ok (.iconst 3, 1) := by decide +kernel
theorem dX10_takesOut_90 : decode cX10_takesOut 90 = .ok (.iload 4, 2) := by decide +kernel
theorem dX10_takesOut_92 : decode cX10_takesOut 92 = .ok (.imul, 1) := by decide +kernel
theorem dX10_takesOut_93 : decode cX10_takesOut 93 = .ok (.iload 5, 2) := by decide +kernel
theorem dX10_takesOut_95 : decode cX10_takesOut 95 = .ok (.iadd, 1) := by decide +kernel
theorem dX10_takesOut_96 : decode cX10_takesOut 96 = .ok (.dup2, 1) := by decide +kernel
theorem dX10_takesOut_97 : decode cX10_takesOut 97 = .ok (.iaload, 1) := by decide +kernel
theorem dX10_takesOut_98 : decode cX10_takesOut 98 = .ok (.iconst 1, 1) := by decide +kernel
theorem dX10_takesOut_99 : decode cX10_takesOut 99 = .ok (.iadd, 1) := by decide +kernel
theorem dX10_takesOut_100 : decode cX10_takesOut 100 = .ok (.iastore, 1) := by decide +kernel
theorem dX10_takesOut_101 : decode cX10_takesOut 101 = .ok (.goto 8, 3) := by decide +kernel
theorem dX10_takesOut_104 : decode cX10_takesOut 104 = .ok (.iload 6, 2) := by decide +kernel
theorem dX10_takesOut_106 : decode cX10_takesOut 106 = .ok (.istore_n 2, 1) := by decide +kernel
theorem dX10_takesOut_107 : decode cX10_takesOut 107 = .ok (.iconst 1, 1) := by decide +kernel
theorem dX10_takesOut_108 : decode cX10_takesOut 108 = .ok (.istore_n 3, 1) := by decide +kernel
theorem dX10_takesOut_109 : decode cX10_takesOut 109 = .ok (.iinc 5 1, 3) := by decide +kernel
theorem dX10_takesOut_112 : decode cX10_takesOut 112 = .ok (.goto (-83), 3) := by decide +kernel
theorem dX10_takesOut_115 : decode cX10_takesOut 115 = .ok (.iinc 4 1, 3) := by decide +kernel
theorem dX10_takesOut_118 : decode cX10_takesOut 118 = .ok (.goto (-101), 3) := by decide +kernel
theorem dX10_takesOut_121 : decode cX10_takesOut 121 = .ok (.goto (-113), 3) := by decide +kernel
theorem dX10_takesOut_124 : decode cX10_takesOut 124 = .ok (.return_, 1) := by decide +kernel
theorem dX10_thin_0 : decode cX10_thin 0 = .ok (.aload_n 0, 1) := by decide +kernel
theorem dX10_thin_1 : decode cX10_thin 1 = .ok (.iconst 0, 1) := by decide +kernel
theorem dX10_thin_2 : decode cX10_thin 2 = .ok (.putfield 74, 3) := by decide +kernel
theorem dX10_thin_5 : decode cX10_thin 5 = .ok (.aload_n 0, 1) := by decide +kernel
theorem dX10_thin_6 : decode cX10_thin 6 = .ok (.getfield 257, 3) := by decide +kernel
theorem dX10_thin_9 : decode cX10_thin 9 = .ok (.ifCond .ne 9, 3) := by decide +kernel
theorem dX10_thin_12 : decode cX10_thin 12 = .ok (.aload_n 0, 1) := by decide +kernel
theorem dX10_thin_13 : decode cX10_thin 13 = .ok (.iconst 1, 1) := by decide +kernel
theorem dX10_thin_14 : decode cX10_thin 14 = .ok (.invokevirtual 232, 3) := by decide +kernel
theorem dX10_thin_17 : decode cX10_thin 17 = .ok (.ireturn, 1) := by decide +kernel
theorem dX10_thin_18 : decode cX10_thin 18 = .ok (.iload_n 1, 1) := by decide +kernel
theorem dX10_thin_19 : decode cX10_thin 19 = .ok (.invokestatic 348, 3) := by decide +kernel
theorem dX10_thin_22 : decode cX10_thin 22 = .ok (.ifCond .ne 9, 3) := by decide +kernel
theorem dX10_thin_25 : decode cX10_thin 25 = .ok (.aload_n 0, 1) := by decide +kernel
theorem dX10_thin_26 : decode cX10_thin 26 = .ok (.iconst 2, 1) := by decide +kernel
theorem dX10_thin_27 : decode cX10_thin 27 = .ok (.invokevirtual 232, 3) := by decide +kernel
theorem dX10_thin_30 : decode cX10_thin 30 = .ok (.ireturn, 1) := by decide +kernel
theorem dX10_thin_31 : decode cX10_thin 31 = .ok (.aload_n 0, 1) := by decide +kernel
theorem dX10_thin_32 : decode cX10_thin 32 = .ok (.iload_n 1, 1) := by decide +kernel
theorem dX10_thin_33 : decode cX10_thin 33 = .ok (.invokevirtual 354, 3) := by decide +kernel
theorem dX10_thin_36 : decode cX10_thin 36 = .ok (.iconst 0, 1) := by decide +kernel
theorem dX10_thin_37 : decode cX10_thin 37 = .ok (.istore_n 2, 1) := by decide +kernel
theorem dX10_thin_38 : decode cX10_thin 38 = .ok (.iconst 0, 1) := by decide +kernel
theorem dX10_thin_39 : decode cX10_thin 39 = .ok (.istore_n 3, 1) := by decide +kernel
theorem dX10_thin_40 : decode cX10_thin 40 = .ok (.iload_n 3, 1) := by decide +kernel
theorem dX10_thin_41 : decode cX10_thin 41 = .ok (.aload_n 0, 1) := by decide +kernel
theorem dX10_thin_42 : decode cX10_thin 42 = .ok (.getfield 242, 3) := by decide +kernel
theorem dX10_thin_45 : decode cX10_thin 45 = .ok (.if_icmp .ge 41, 3) := by decide +kernel
theorem dX10_thin_48 : decode cX10_thin 48 = .ok (.iconst 0, 1) := by decide +kernel
theorem dX10_thin_49 : decode cX10_thin 49 = .ok (.istore 4, 2) := by decide +kernel
theorem dX10_thin_51 : decode cX10_thin 51 = .ok (.iload 4, 2) := by decide +kernel
theorem dX10_thin_53 : decode cX10_thin 53 = .ok (.aload_n 0, 1) := by decide +kernel
theorem dX10_thin_54 : decode cX10_thin 54 = .ok (.getfield 248, 3) := by decide +kernel
theorem dX10_thin_57 : decode cX10_thin 57 = .ok (.if_icmp .ge 23, 3) := by decide +kernel
theorem dX10_thin_60 : decode cX10_thin 60 = .ok (.iload_n 2, 1) := by decide +kernel
theorem dX10_thin_61 : decode cX10_thin 61 = .ok (.aload_n 0, 1) := by decide +kernel
theorem dX10_thin_62 : decode cX10_thin 62 = .ok (.getfield 48, 3) := by decide +kernel
theorem dX10_thin_65 : decode cX10_thin 65 = .ok (.iconst 3, 1) := by decide +kernel
theorem dX10_thin_66 : decode cX10_thin 66 = .ok (.iload_n 3, 1) := by decide +kernel
theorem dX10_thin_67 : decode cX10_thin 67 = .ok (.imul, 1) := by decide +kernel
theorem dX10_thin_68 : decode cX10_thin 68 = .ok (.iload 4, 2) := by decide +kernel
theorem dX10_thin_70 : decode cX10_thin 70 = .ok (.iadd, 1) := by decide +kernel
theorem dX10_thin_71 : decode cX10_thin 71 = .ok (.iaload, 1) := by decide +kernel
theorem dX10_thin_72 : decode cX10_thin 72 = .ok (.iadd, 1) := by decide +kernel
theorem dX10_thin_73 : decode cX10_thin 73 = .ok (.istore_n 2, 1) := by decide +kernel
theorem dX10_thin_74 : decode cX10_thin 74 = .ok (.iinc 4 1, 3) := by decide +kernel
theorem dX10_thin_77 : decode cX10_thin 77 = .ok (.goto (-26), 3) := by decide +kernel
theorem dX10_thin_80 : decode cX10_thin 80 = .ok (.iinc 3 1, 3) := by decide +kernel
theorem dX10_thin_83 : decode cX10_thin 83 = .ok (.goto (-43), 3) := by decide +kernel
theorem dX10_thin_86 : decode cX10_thin 86 = .ok (.aload_n 0, 1) := by decide +kernel
theorem dX10_thin_87 : decode cX10_thin 87 = .ok (.iload_n 2, 1) := by decide +kernel
theorem dX10_thin_88 : decode cX10_thin 88 = .ok (.invokevirtual 245, 3) := by decide +kernel
theorem dX10_thin_91 : decode cX10_thin 91 = .ok (.ireturn, 1) := by decide +kernel
theorem dX10_thinAt_0 : decode cX10_thinAt 0 = .ok (.aload_n 0, 1) := by decide +kernel
theorem dX10_thinAt_1 : decode cX10_thinAt 1 = .ok (.iconst 0, 1) := by decide +kernel
theorem dX10_thinAt_2 : decode cX10_thinAt 2 = .ok (.putfield 74, 3) := by decide +kernel
theorem dX10_thinAt_5 : decode cX10_thinAt 5 = .ok (.aload_n 0, 1) := by decide +kernel
theorem dX10_thinAt_6 : decode cX10_thinAt 6 = .ok (.iload_n 1, 1) := by decide +kernel
theorem dX10_thinAt_7 : decode cX10_thinAt 7 = .ok (.invokevirtual 316, 3) := by decide +kernel
theorem dX10_thinAt_10 : decode cX10_thinAt 10 = .ok (.ifCond .eq 11, 3) := by decide +kernel
theorem dX10_thinAt_13 : decode cX10_thinAt 13 = .ok (.aload_n 0, 1) := by decide +kernel
theorem dX10_thinAt_14 : decode cX10_thinAt 14 = .ok (.iload_n 2, 1) := by decide +kernel
theorem dX10_thinAt_15 : decode cX10_thinAt 15 = .ok (.invokevirtual 319, 3) := by decide +kernel
theorem dX10_thinAt_18 : decode cX10_thinAt 18 = .ok (.ifCond .ne 9, 3) := by decide +kernel
theorem dX10_thinAt_21 : decode cX10_thinAt 21 = .ok (.aload_n 0, 1) := by decide +kernel
theorem dX10_thinAt_22 : decode cX10_thinAt 22 = .ok (.iconst 1, 1) := by decide +kernel
theorem dX10_thinAt_23 : decode cX10_thinAt 23 = .ok (.invokevirtual 232, 3) := by decide +kernel
theorem dX10_thinAt_26 : decode cX10_thinAt 26 = .ok (.ireturn, 1) := by decide +kernel
theorem dX10_thinAt_27 : decode cX10_thinAt 27 = .ok (.iload_n 3, 1) := by decide +kernel
theorem dX10_thinAt_28 : decode cX10_thinAt 28 = .ok (.invokestatic 348, 3) := by decide +kernel
theorem dX10_thinAt_31 : decode cX10_thinAt 31 = .ok (.ifCond .ne 9, 3) := by decide +kernel
theorem dX10_thinAt_34 : decode cX10_thinAt 34 = .ok (.aload_n 0, 1) := by decide +kernel
theorem dX10_thinAt_35 : decode cX10_thinAt 35 = .ok (.iconst 2, 1) := by decide +kernel
theorem dX10_thinAt_36 : decode cX10_thinAt 36 = .ok (.invokevirtual 232, 3) := by decide +kernel
theorem dX10_thinAt_39 : decode cX10_thinAt 39 = .ok (.ireturn, 1) := by decide +kernel
theorem dX10_thinAt_40 : decode cX10_thinAt 40 = .ok (.aload_n 0, 1) := by decide +kernel
theorem dX10_thinAt_41 : decode cX10_thinAt 41 = .ok (.iload_n 3, 1) := by decide +kernel
theorem dX10_thinAt_42 : decode cX10_thinAt 42 = .ok (.invokevirtual 354, 3) := by decide +kernel
theorem dX10_thinAt_45 : decode cX10_thinAt 45 = .ok (.aload_n 0, 1) := by decide +kernel
theorem dX10_thinAt_46 : decode cX10_thinAt 46 = .ok (.aload_n 0, 1) := by decide +kernel
theorem dX10_thinAt_47 : decode cX10_thinAt 47 = .ok (.getfield 48, 3) := by decide +kernel
theorem dX10_thinAt_50 : decode cX10_thinAt 50 = .ok (.iconst 3, 1) := by decide +kernel
theorem dX10_thinAt_51 : decode cX10_thinAt 51 = .ok (.iload_n 1, 1) := by decide +kernel
theorem dX10_thinAt_52 : decode cX10_thinAt 52 = .ok (.imul, 1) := by decide +kernel
theorem dX10_thinAt_53 : decode cX10_thinAt 53 = .ok (.iload_n 2, 1) := by decide +kernel
theorem dX10_thinAt_54 : decode cX10_thinAt 54 = .ok (.iadd, 1) := by decide +kernel
theorem dX10_thinAt_55 : decode cX10_thinAt 55 = .ok (.iaload, 1) := by decide +kernel
theorem dX10_thinAt_56 : decode cX10_thinAt 56 = .ok (.invokevirtual 245, 3) := by decide +kernel
theorem dX10_thinAt_59 : decode cX10_thinAt 59 = .ok (.ireturn, 1) := by decide +kernel
theorem dX10_helps_0 : decode cX10_helps 0 = .ok (.aload_n 0, 1) := by decide +kernel
theorem dX10_helps_1 : decode cX10_helps 1 = .ok (.iconst 0, 1) := by decide +kernel
theorem dX10_helps_2 : decode cX10_helps 2 = .ok (.putfield 74, 3) := by decide +kernel
theorem dX10_helps_5 : decode cX10_helps 5 = .ok (.aload_n 0, 1) := by decide +kernel
theorem dX10_helps_6 : decode cX10_helps 6 = .ok (.getfield 257, 3) := by decide +kernel
theorem dX10_helps_9 : decode cX10_helps 9 = .ok (.ifCond .ne 9, 3) := by decide +kernel
theorem dX10_helps_12 : decode cX10_helps 12 = .ok (.aload_n 0, 1) := by decide +kernel
theorem dX10_helps_13 : decode cX10_helps 13 = .ok (.iconst 1, 1) := by decide +kernel
theorem dX10_helps_14 : decode cX10_helps 14 = .ok (.invokevirtual 232, 3) := by decide +kernel
theorem dX10_helps_17 : decode cX10_helps 17 = .ok (.ireturn, 1) := by decide +kernel
theorem dX10_helps_18 : decode cX10_helps 18 = .ok (.iload_n 1, 1) := by decide +kernel
theorem dX10_helps_19 : decode cX10_helps 19 = .ok (.invokestatic 348, 3) := by decide +kernel
theorem dX10_helps_22 : decode cX10_helps 22 = .ok (.ifCond .ne 9, 3) := by decide +kernel
theorem dX10_helps_25 : decode cX10_helps 25 = .ok (.aload_n 0, 1) := by decide +kernel
theorem dX10_helps_26 : decode cX10_helps 26 = .ok (.iconst 2, 1) := by decide +kernel
theorem dX10_helps_27 : decode cX10_helps 27 = .ok (.invokevirtual 232, 3) := by decide +kernel
theorem dX10_helps_30 : decode cX10_helps 30 = .ok (.ireturn, 1) := by decide +kernel
theorem dX10_helps_31 : decode cX10_helps 31 = .ok (.aload_n 0, 1) := by decide +kernel
theorem dX10_helps_32 : decode cX10_helps 32 = .ok (.iload_n 1, 1) := by decide +kernel
theorem dX10_helps_33 : decode cX10_helps 33 = .ok (.invokevirtual 351, 3) := by decide +kernel
theorem dX10_helps_36 : decode cX10_helps 36 = .ok (.istore_n 2, 1) := by decide +kernel
theorem dX10_helps_37 : decode cX10_helps 37 = .ok (.bipush (-2), 2) := by decide +kernel
theorem dX10_helps_39 : decode cX10_helps 39 = .ok (.istore_n 3, 1) := by decide +kernel
theorem dX10_helps_40 : decode cX10_helps 40 = .ok (.iconst 0, 1) := by decide +kernel
theorem dX10_helps_41 : decode cX10_helps 41 = .ok (.istore 4, 2) := by decide +kernel
theorem dX10_helps_43 : decode cX10_helps 43 = .ok (.iload 4, 2) := by decide +kernel
theorem dX10_helps_45 : decode cX10_helps 45 = .ok (.aload_n 0, 1) := by decide +kernel
theorem dX10_helps_46 : decode cX10_helps 46 = .ok (.getfield 242, 3) := by decide +kernel
theorem dX10_helps_49 : decode cX10_helps 49 = .ok (.if_icmp .ge 94, 3) := by decide +kernel
theorem dX10_helps_52 : decode cX10_helps 52 = .ok (.iconst 0, 1) := by decide +kernel
theorem dX10_helps_53 : decode cX10_helps 53 = .ok (.istore 5, 2) := by decide +kernel
theorem dX10_helps_55 : decode cX10_helps 55 = .ok (.iload 5, 2) := by decide +kernel
theorem dX10_helps_57 : decode cX10_helps 57 = .ok (.aload_n 0, 1) := by decide +kernel
theorem dX10_helps_58 : decode cX10_helps 58 = .ok (.getfield 248, 3) := by decide +kernel
theorem dX10_helps_61 : decode cX10_helps 61 = .ok (.if_icmp .ge 76, 3) := by decide +kernel
theorem dX10_helps_64 : decode cX10_helps 64 = .ok (.aload_n 0, 1) := by decide +kernel
theorem dX10_helps_65 : decode cX10_helps 65 = .ok (.getfield 42, 3) := by decide +kernel
theorem dX10_helps_68 : decode cX10_helps 68 = .ok (.iconst 3, 1) := by decide +kernel
theorem dX10_helps_69 : decode cX10_helps 69 = .ok (.iload 4, 2) := by decide +kernel
theorem dX10_helps_71 : decode cX10_helps 71 = .ok (.imul, 1) := by decide +kernel
theorem dX10_helps_72 : decode cX10_helps 72 = .ok (.iload 5, 2) := by decide +kernel
theorem dX10_helps_74 : decode cX10_helps 74 = .ok (.iadd, 1) := by decide +kernel
theorem dX10_helps_75 : decode cX10_helps 75 = .ok (.iaload, 1) := by decide +kernel
theorem dX10_helps_76 : decode cX10_helps 76 = .ok (.bipush 9, 2) := by decide +kernel
theorem dX10_helps_78 : decode cX10_helps 78 = .ok (.if_icmp .ne 6, 3) := by decide +kernel
theorem dX10_helps_81 : decode cX10_helps 81 = .ok (.goto 50, 3) := by decide +kernel
theorem dX10_helps_84 : decode cX10_helps 84 = .ok (.aload_n 0, 1) := by decide +kernel
theorem dX10_helps_85 : decode cX10_helps 85 = .ok (.invokevirtual 342, 3) := by decide +kernel
theorem dX10_helps_88 : decode cX10_helps 88 = .ok (.aload_n 0, 1) := by decide +kernel
theorem dX10_helps_89 : decode cX10_helps 89 = .ok (.getfield 48, 3) := by decide +kernel
theorem dX10_helps_92 : decode cX10_helps 92 = .ok (.iconst 3, 1) := by decide +kernel
theorem dX10_helps_93 : decode cX10_helps 93 = .ok (.iload 4, 2) := by decide +kernel
theorem dX10_helps_95 : decode cX10_helps 95 = .ok (.imul, 1) := by decide +kernel
theorem dX10_helps_96 : decode cX10_helps 96 = .ok (.iload 5, 2) := by decide +kernel
theorem dX10_helps_98 : decode cX10_helps 98 = .ok (.iadd, 1) := by decide +kernel
theorem dX10_helps_99 : decode cX10_helps 99 = .ok (.dup2, 1) := by decide +kernel
theorem dX10_helps_100 : decode cX10_helps 100 = .ok (.iaload, 1) := by decide +kernel
theorem dX10_helps_101 : decode cX10_helps 101 = .ok (.iconst 1, 1) := by decide +kernel
theorem dX10_helps_102 : decode cX10_helps 102 = .ok (.iadd, 1) := by decide +kernel
theorem dX10_helps_103 : decode cX10_helps 103 = .ok (.iastore, 1) := by decide +kernel
theorem dX10_helps_104 : decode cX10_helps 104 = .ok (.aload_n 0, 1) := by decide +kernel
theorem dX10_helps_105 : decode cX10_helps 105 = .ok (.iload_n 1, 1) := by decide +kernel
theorem dX10_helps_106 : decode cX10_helps 106 = .ok (.invokevirtual 345, 3) := by decide +kernel
theorem dX10_helps_109 : decode cX10_helps 109 = .ok (.istore 6, 2) := by decide +kernel
theorem dX10_helps_111 : decode cX10_helps 111 = .ok (.iload 6, 2) := by decide +kernel
theorem dX10_helps_113 : decode cX10_helps 113 = .ok (.iload_n 2, 1) := by decide +kernel
theorem dX10_helps_114 : decode cX10_helps 114 = .ok (.if_icmp .gt 6, 3) := by decide +kernel
theorem dX10_helps_117 : decode cX10_helps 117 = .ok (.goto 14, 3) := by decide +kernel
theorem dX10_helps_120 : decode cX10_helps 120 = .ok (.iload 6, 2) := by decide +kernel
theorem dX10_helps_122 : decode cX10_helps 122 = .ok (.istore_n 2, 1) := by decide +kernel
theorem dX10_helps_123 : decode cX10_helps 123 = .ok (.iconst 3, 1) := by decide +kernel
theorem dX10_helps_124 : decode cX10_helps 124 = .ok (.iload 4, 2) := by decide +kernel
theorem dX10_helps_126 : decode cX10_helps 126 = .ok (.imul, 1) := by decide +kernel
theorem dX10_helps_127 : decode cX10_helps 127 = .ok (.iload 5, 2) := by decide +kernel
theorem dX10_helps_129 : decode cX10_helps 129 = .ok (.iadd, 1) := by decide +kernel
theorem dX10_helps_130 : decode cX10_helps 130 = .ok (.istore_n 3, 1) := by decide +kernel
theorem dX10_helps_131 : decode cX10_helps 131 = .ok (.iinc 5 1, 3) := by decide +kernel
theorem dX10_helps_134 : decode cX10_helps 134 = .ok (.goto (-79), 3) := by decide +kernel
theorem dX10_helps_137 : decode cX10_helps 137 = .ok (.iinc 4 1, 3) := by decide +kernel
theorem dX10_helps_140 : decode cX10_helps 140 = .ok (.goto (-97), 3) := by decide +kernel
theorem dX10_helps_143 : decode cX10_helps 143 = .ok (.aload_n 0, 1) := by decide +kernel
theorem dX10_helps_144 : decode cX10_helps 144 = .ok (.iload_n 3, 1) := by decide +kernel
theorem dX10_helps_145 : decode cX10_helps 145 = .ok (.invokevirtual 245, 3) := by decide +kernel
theorem dX10_helps_148 : decode cX10_helps 148 = .ok (.ireturn, 1) := by decide +kernel
theorem dX10_holds_0 : decode cX10_holds 0 = .ok (.aload_n 0, 1) := by decide +kernel
theorem dX10_holds_1 : decode cX10_holds 1 = .ok (.iconst 0, 1) := by decide +kernel
theorem dX10_holds_2 : decode cX10_holds 2 = .ok (.putfield 74, 3) := by decide +kernel
theorem dX10_holds_5 : decode cX10_holds 5 = .ok (.aload_n 0, 1) := by decide +kernel
theorem dX10_holds_6 : decode cX10_holds 6 = .ok (.getfield 257, 3) := by decide +kernel
theorem dX10_holds_9 : decode cX10_holds 9 = .ok (.ifCond .ne 9, 3) := by decide +kernel
theorem dX10_holds_12 : decode cX10_holds 12 = .ok (.aload_n 0, 1) := by decide +kernel
theorem dX10_holds_13 : decode cX10_holds 13 = .ok (.iconst 1, 1) := by decide +kernel
theorem dX10_holds_14 : decode cX10_holds 14 = .ok (.invokevirtual 232, 3) := by decide +kernel
theorem dX10_holds_17 : decode cX10_holds 17 = .ok (.ireturn, 1) := by decide +kernel
theorem dX10_holds_18 : decode cX10_holds 18 = .ok (.iload_n 1, 1) := by decide +kernel
theorem dX10_holds_19 : decode cX10_holds 19 = .ok (.invokestatic 348, 3) := by decide +kernel
theorem dX10_holds_22 : decode cX10_holds 22 = .ok (.ifCond .ne 9, 3) := by decide +kernel
theorem dX10_holds_25 : decode cX10_holds 25 = .ok (.aload_n 0, 1) := by decide +kernel
theorem dX10_holds_26 : decode cX10_holds 26 = .ok (.iconst 2, 1) := by decide +kernel
theorem dX10_holds_27 : decode cX10_holds 27 = .ok (.invokevirtual 232, 3) := by decide +kernel
theorem dX10_holds_30 : decode cX10_holds 30 = .ok (.ireturn, 1) := by decide +kernel
theorem dX10_holds_31 : decode cX10_holds 31 = .ok (.iconst (-1), 1) := by decide +kernel
theorem dX10_holds_32 : decode cX10_holds 32 = .ok (.istore_n 2, 1) := by decide +kernel
theorem dX10_holds_33 : decode cX10_holds 33 = .ok (.iconst 0, 1) := by decide +kernel
theorem dX10_holds_34 : decode cX10_holds 34 = .ok (.istore_n 3, 1) := by decide +kernel
theorem dX10_holds_35 : decode cX10_holds 35 = .ok (.iconst 0, 1) := by decide +kernel
theorem dX10_holds_36 : decode cX10_holds 36 = .ok (.istore 4, 2) := by decide +kernel
theorem dX10_holds_38 : decode cX10_holds 38 = .ok (.iload 4, 2) := by decide +kernel
theorem dX10_holds_40 : decode cX10_holds 40 = .ok (.aload_n 0, 1) := by decide +kernel
theorem dX10_holds_41 : decode cX10_holds 41 = .ok (.getfield 242, 3) := by decide +kernel
theorem dX10_holds_44 : decode cX10_holds 44 = .ok (.if_icmp .ge 69, 3) := by decide +kernel
theorem dX10_holds_47 : decode cX10_holds 47 = .ok (.aload_n 0, 1) := by decide +kernel
theorem dX10_holds_48 : decode cX10_holds 48 = .ok (.invokevirtual 342, 3) := by decide +kernel
theorem dX10_holds_51 : decode cX10_holds 51 = .ok (.iconst 0, 1) := by decide +kernel
theorem dX10_holds_52 : decode cX10_holds 52 = .ok (.istore 5, 2) := by decide +kernel
theorem dX10_holds_54 : decode cX10_holds 54 = .ok (.iload 5, 2) := by decide +kernel
theorem dX10_holds_56 : decode cX10_holds 56 = .ok (.aload_n 0, 1) := by decide +kernel
theorem dX10_holds_57 : decode cX10_holds 57 = .ok (.getfield 248, 3) := by decide +kernel
theorem dX10_holds_60 : decode cX10_holds 60 = .ok (.if_icmp .ge 25, 3) := by decide +kernel
theorem dX10_holds_63 : decode cX10_holds 63 = .ok (.aload_n 0, 1) := by decide +kernel
theorem dX10_holds_64 : decode cX10_holds 64 = .ok (.getfield 48, 3) := by decide +kernel
theorem dX10_holds_67 : decode cX10_holds 67 = .ok (.bipush 18, 2) := by decide +kernel
theorem dX10_holds_69 : decode cX10_holds 69 = .ok (.iconst 3, 1) := by decide +kernel
theorem dX10_holds_70 : decode cX10_holds 70 = .ok (.iload 4, 2) := by decide +kernel
theorem dX10_holds_72 : decode cX10_holds 72 = .ok (.imul, 1) := by decide +kernel
theorem dX10_holds_73 : decode cX10_holds 73 = .ok (.iadd, 1) := by decide +kernel
theorem dX10_holds_74 : decode cX10_holds 74 = .ok (.iload 5, 2) := by decide +kernel
theorem dX10_holds_76 : decode cX10_holds 76 = .ok (.iadd, 1) := by decide +kernel
theorem dX10_holds_77 : decode cX10_holds 77 = .ok (.iconst 1, 1) := by decide +kernel
theorem dX10_holds_78 : decode cX10_holds 78 = .ok (.iastore, 1) := by decide +kernel
theorem dX10_holds_79 : decode cX10_holds 79 = .ok (.iinc 5 1, 3) := by decide +kernel
theorem dX10_holds_82 : decode cX10_holds 82 = .ok (.goto (-28), 3) := by decide +kernel
theorem dX10_holds_85 : decode cX10_holds 85 = .ok (.aload_n 0, 1) := by decide +kernel
theorem dX10_holds_86 : decode cX10_holds 86 = .ok (.iload_n 1, 1) := by decide +kernel
theorem dX10_holds_87 : decode cX10_holds 87 = .ok (.invokevirtual 345, 3) := by decide +kernel
theorem dX10_holds_90 : decode cX10_holds 90 = .ok (.istore 5, 2) := by decide +kernel
theorem dX10_holds_92 : decode cX10_holds 92 = .ok (.iload 5, 2) := by decide +kernel
theorem dX10_holds_94 : decode cX10_holds 94 = .ok (.iload_n 2, 1) := by decide +kernel
theorem dX10_holds_95 : decode cX10_holds 95 = .ok (.if_icmp .gt 6, 3) := by decide +kernel
theorem dX10_holds_98 : decode cX10_holds 98 = .ok (.goto 9, 3) := by decide +kernel
theorem dX10_holds_101 : decode cX10_holds 101 = .ok (.iload 5, 2) := by decide +kernel
theorem dX10_holds_103 : decode cX10_holds 103 = .ok (.istore_n 2, 1) := by decide +kernel
theorem dX10_holds_104 : decode cX10_holds 104 = .ok (.iload 4, 2) := by decide +kernel
theorem dX10_holds_106 : decode cX10_holds 106 = .ok (.istore_n 3, 1) := by decide +kernel
theorem dX10_holds_107 : decode cX10_holds 107 = .ok (.iinc 4 1, 3) := by decide +kernel
theorem dX10_holds_110 : decode cX10_holds 110 = .ok (.goto (-72), 3) := by decide +kernel
theorem dX10_holds_113 : decode cX10_holds 113 = .ok (.aload_n 0, 1) := by decide +kernel
theorem dX10_holds_114 : decode cX10_holds 114 = .ok (.iload_n 3, 1) := by decide +kernel
theorem dX10_holds_115 : decode cX10_holds 115 = .ok (.invokevirtual 245, 3) := by decide +kernel
theorem dX10_holds_118 : decode cX10_holds 118 = .ok (.ireturn, 1) := by decide +kernel
theorem dX10_laysStand_0 : decode cX10_laysStand 0 = .ok (.bipush 49, 2) := by decide +kernel
theorem dX10_laysStand_2 : decode cX10_laysStand 2 = .ok (.iload_n 1, 1) := by decide +kernel
theorem dX10_laysStand_3 : decode cX10_laysStand 3 = .ok (.imul, 1) := by decide +kernel
theorem dX10_laysStand_4 : decode cX10_laysStand 4 = .ok (.istore_n 2, 1) := by decide +kernel
theorem dX10_laysStand_5 : decode cX10_laysStand 5 = .ok (.iconst 0, 1) := by decide +kernel
theorem dX10_laysStand_6 : decode cX10_laysStand 6 = .ok (.istore_n 3, 1) := by decide +kernel
theorem dX10_laysStand_7 : decode cX10_laysStand 7 = .ok (.iload_n 3, 1) := by decide +kernel
theorem dX10_laysStand_8 : decode cX10_laysStand 8 = .ok (.bipush 6, 2) := by decide +kernel
theorem dX10_laysStand_10 : decode cX10_laysStand 10 = .ok (.if_icmp .ge 177, 3) := by decide +kernel
theorem dX10_laysStand_13 : decode cX10_laysStand 13 = .ok (.iload_n 3, 1) := by decide +kernel
theorem dX10_laysStand_14 : decode cX10_laysStand 14 = .ok (.aload_n 0, 1) := by decide +kernel
theorem dX10_laysStand_15 : decode cX10_laysStand 15 = .ok (.getfield 242, 3) := by decide +kernel
theorem dX10_laysStand_18 : decode cX10_laysStand 18 = .ok (.if_icmp .ge 7, 3) := by decide +kernel
theorem dX10_laysStand_21 : decode cX10_laysStand 21 = .ok (.iconst 1, 1) := by decide +kernel
theorem dX10_laysStand_22 : decode cX10_laysStand 22 = .ok (.goto 4, 3) := by decide +kernel
theorem dX10_laysStand_25 : decode cX10_laysStand 25 = .ok (.iconst 0, 1) := by decide +kernel
theorem dX10_laysStand_26 : decode cX10_laysStand 26 = .ok (.istore 4, 2) := by decide +kernel
theorem dX10_laysStand_28 : decode cX10_laysStand 28 = .ok (.aload_n 0, 1) := by decide +kernel
theorem dX10_laysStand_29 : decode cX10_laysStand 29 = .ok (.getfield 71, 3) := by decide +kernel
theorem dX10_laysStand_32 : decode cX10_laysStand 32 = .ok (.iload_n 2, 1) := by decide +kernel
theorem dX10_laysStand_33 : decode cX10_laysStand 33 = .ok (.iconst 4, 1) := by decide +kernel
theorem dX10_laysStand_34 : decode cX10_laysStand 34 = .ok (.iload_n 3, 1) := by decide +kernel
theorem dX10_laysStand_35 : decode cX10_laysStand 35 = .ok (.imul, 1) := by decide +kernel
theorem dX10_laysStand_36 : decode cX10_laysStand 36 = .ok (.iadd, 1) := by decide +kernel
theorem dX10_laysStand_37 : decode cX10_laysStand 37 = .ok (.iload 4, 2) := by decide +kernel
theorem dX10_laysStand_39 : decode cX10_laysStand 39 = .ok (.ifCond .eq 16, 3) := by decide +kernel
theorem dX10_laysStand_42 : decode cX10_laysStand 42 = .ok (.aload_n 0, 1) := by decide +kernel
theorem dX10_laysStand_43 : decode cX10_laysStand 43 = .ok (.getfield 60, 3) := by decide +kernel
theorem dX10_laysStand_46 : decode cX10_laysStand 46 = .ok (.iload_n 3, 1) := by decide +kernel
theorem dX10_laysStand_47 : decode cX10_laysStand 47 = .ok (.iconst 0, 1) := by decide +kernel
theorem dX10_laysStand_48 : decode cX10_laysStand 48 = .ok (.invokestatic 264, 3) := by decide +kernel
theorem dX10_laysStand_51 : decode cX10_laysStand 51 = .ok (.iaload, 1) := by decide +kernel
theorem dX10_laysStand_52 : decode cX10_laysStand 52 = .ok (.goto 4, 3) := by decide +kernel
theorem dX10_laysStand_55 : decode cX10_laysStand 55 = .ok (.iconst 0, 1) := by decide +kernel
theorem dX10_laysStand_56 : decode cX10_laysStand 56 = .ok (.iastore, 1) := by decide +kernel
theorem dX10_laysStand_57 : decode cX10_laysStand 57 = .ok (.aload_n 0, 1) := by decide +kernel
theorem dX10_laysStand_58 : decode cX10_laysStand 58 = .ok (.getfield 71, 3) := by decide +kernel
theorem dX10_laysStand_61 : decode cX10_laysStand 61 = .ok (.iload_n 2, 1) := by decide +kernel
theorem dX10_laysStand_62 : decode cX10_laysStand 62 = .ok (.iconst 4, 1) := by decide +kernel
theorem dX10_laysStand_63 : decode cX10_laysStand 63 = .ok (.iload_n 3, 1) := by decide +kernel
theorem dX10_laysStand_64 : decode cX10_laysStand 64 = .ok (.imul, 1) := by decide +kernel
theorem dX10_laysStand_65 : decode cX10_laysStand 65 = .ok (.iadd, 1) := by decide +kernel
theorem dX10_laysStand_66 : decode cX10_laysStand 66 = .ok (.iconst 1, 1) := by decide +kernel
theorem dX10_laysStand_67 : decode cX10_laysStand 67 = .ok (.iadd, 1) := by decide +kernel
theorem dX10_laysStand_68 : decode cX10_laysStand 68 = .ok (.iload 4, 2) := by decide +kernel
theorem dX10_laysStand_70 : decode cX10_laysStand 70 = .ok (.ifCond .eq 31, 3) := by decide +kernel
theorem dX10_laysStand_73 : decode cX10_laysStand 73 = .ok (.aload_n 0, 1) := by decide +kernel
theorem dX10_laysStand_74 : decode cX10_laysStand 74 = .ok (.getfield 60, 3) := by decide +kernel
theorem dX10_laysStand_77 : decode cX10_laysStand 77 = .ok (.iload_n 3, 1) := by decide +kernel
theorem dX10_laysStand_78 : decode cX10_laysStand 78 = .ok (.iconst 0, 1) := by decide +kernel
theorem dX10_laysStand_79 : decode cX10_laysStand 79 = .ok (.invokestatic 264, 3) := by decide +kernel
theorem dX10_laysStand_82 : decode cX10_laysStand 82 = .ok (.iaload, 1) := by decide +kernel
theorem dX10_laysStand_83 : decode cX10_laysStand 83 = .ok (.ifCond .le 18, 3) := by decide +kernel
theorem dX10_laysStand_86 : decode cX10_laysStand 86 = .ok (.aload_n 0, 1) := by decide +kernel
theorem dX10_laysStand_87 : decode cX10_laysStand 87 = .ok (.getfield 60, 3) := by decide +kernel
theorem dX10_laysStand_90 : decode cX10_laysStand 90 = .ok (.iload_n 3, 1) := by decide +kernel
theorem dX10_laysStand_91 : decode cX10_laysStand 91 = .ok (.iconst 2, 1) := by decide +kernel
theorem dX10_laysStand_92 : decode cX10_laysStand 92 = .ok (.invokestatic 264, 3) := by decide +kernel
theorem dX10_laysStand_95 : decode cX10_laysStand 95 = .ok (.iaload, 1) := by decide +kernel
theorem dX10_laysStand_96 : decode cX10_laysStand 96 = .ok (.iload_n 1, 1) := by decide +kernel
theorem dX10_laysStand_97 : decode cX10_laysStand 97 = .ok (.isub, 1) := by decide +kernel
theorem dX10_laysStand_98 : decode cX10_laysStand 98 = .ok (.goto 4, 3) := by decide +kernel
theorem dX10_laysStand_101 : decode cX10_laysStand 101 = .ok (.iconst 0, 1) := by decide +kernel
theorem dX10_laysStand_102 : decode cX10_laysStand 102 = .ok (.iastore, 1) := by decide +kernel
theorem dX10_laysStand_103 : decode cX10_laysStand 103 = .ok (.aload_n 0, 1) := by decide +kernel
theorem dX10_laysStand_104 : decode cX10_laysStand 104 = .ok (.getfield 71, 3) := by decide +kernel
theorem dX10_laysStand_107 : decode cX10_laysStand 107 = .ok (.iload_n 2, 1) := by decide +kernel
theorem dX10_laysStand_108 : decode cX10_laysStand 108 = .ok (.iconst 4, 1) := by decide +kernel
theorem dX10_laysStand_109 : decode cX10_laysStand 109 = .ok (.iload_n 3, 1) := by decide +kernel
theorem dX10_laysStand_110 : decode cX10_laysStand 110 = .ok (.imul, 1) := by decide +kernel
theorem dX10_laysStand_111 : decode cX10_laysStand 111 = .ok (.iadd, 1) := by decide +kernel
theorem dX10_laysStand_112 : decode cX10_laysStand 112 = .ok (.iconst 2, 1) := by decide +kernel
theorem dX10_laysStand_113 : decode cX10_laysStand 113 = .ok (.iadd, 1) := by decide +kernel
theorem dX10_laysStand_114 : decode cX10_laysStand 114 = .ok (.iload 4, 2) := by decide +kernel
theorem dX10_laysStand_116 : decode cX10_laysStand 116 = .ok (.ifCond .eq 16, 3) := by decide +kernel
theorem dX10_laysStand_119 : decode cX10_laysStand 119 = .ok (.aload_n 0, 1) := by decide +kernel
theorem dX10_laysStand_120 : decode cX10_laysStand 120 = .ok (.getfield 60, 3) := by decide +kernel
theorem dX10_laysStand_123 : decode cX10_laysStand 123 = .ok (.iload_n 3, 1) := by decide +kernel
theorem dX10_laysStand_124 : decode cX10_laysStand 124 = .ok (.iconst 3, 1) := by decide +kernel
theorem dX10_laysStand_125 : decode cX10_laysStand 125 = .ok (.invokestatic 264, 3) := by decide +kernel
theorem dX10_laysStand_128 : decode cX10_laysStand 128 = .ok (.iaload, 1) := by decide +kernel
theorem dX10_laysStand_129 : decode cX10_laysStand 129 = .ok (.goto 4, 3) := by decide +kernel
theorem dX10_laysStand_132 : decode cX10_laysStand 132 = .ok (.iconst 0, 1) := by decide +kernel
theorem dX10_laysStand_133 : decode cX10_laysStand 133 = .ok (.iastore, 1) := by decide +kernel
theorem dX10_laysStand_134 : decode cX10_laysStand 134 = .ok (.aload_n 0, 1) := by decide +kernel
theorem dX10_laysStand_135 : decode cX10_laysStand 135 = .ok (.getfield 71, 3) := by decide +kernel
theorem dX10_laysStand_138 : decode cX10_laysStand 138 = .ok (.iload_n 2, 1) := by decide +kernel
theorem dX10_laysStand_139 : decode cX10_laysStand 139 = .ok (.iconst 4, 1) := by decide +kernel
theorem dX10_laysStand_140 : decode cX10_laysStand 140 = .ok (.iload_n 3, 1) := by decide +kernel
theorem dX10_laysStand_141 : decode cX10_laysStand 141 = .ok (.imul, 1) := by decide +kernel
theorem dX10_laysStand_142 : decode cX10_laysStand 142 = .ok (.iadd, 1) := by decide +kernel
theorem dX10_laysStand_143 : decode cX10_laysStand 143 = .ok (.iconst 3, 1) := by decide +kernel
theorem dX10_laysStand_144 : decode cX10_laysStand 144 = .ok (.iadd, 1) := by decide +kernel
theorem dX10_laysStand_145 : decode cX10_laysStand 145 = .ok (.iload 4, 2) := by decide +kernel
theorem dX10_laysStand_147 : decode cX10_laysStand 147 = .ok (.ifCond .eq 32, 3) := by decide +kernel
theorem dX10_laysStand_150 : decode cX10_laysStand 150 = .ok (.aload_n 0, 1) := by decide +kernel
theorem dX10_laysStand_151 : decode cX10_laysStand 151 = .ok (.getfield 30, 3) := by decide +kernel
theorem dX10_laysStand_154 : decode cX10_laysStand 154 = .ok (.iload_n 3, 1) := by decide +kernel
theorem dX10_laysStand_155 : decode cX10_laysStand 155 = .ok (.iaload, 1) := by decide +kernel
theorem dX10_laysStand_156 : decode cX10_laysStand 156 = .ok (.ifCond .le 23, 3) := by decide +kernel
theorem dX10_laysStand_159 : decode cX10_laysStand 159 = .ok (.aload_n 0, 1) := by decide +kernel
theorem dX10_laysStand_160 : decode cX10_laysStand 160 = .ok (.getfield 60, 3) := by decide +kernel
theorem dX10_laysStand_163 : decode cX10_laysStand 163 = .ok (.iload_n 3, 1) := by decide +kernel
theorem dX10_laysStand_164 : decode cX10_laysStand 164 = .ok (.iconst 4, 1) := by decide +kernel
theorem dX10_laysStand_165 : decode cX10_laysStand 165 = .ok (.invokestatic 264, 3) := by decide +kernel
theorem dX10_laysStand_168 : decode cX10_laysStand 168 = .ok (.iaload, 1) := by decide +kernel
theorem dX10_laysStand_169 : decode cX10_laysStand 169 = .ok (.aload_n 0, 1) := by decide +kernel
theorem dX10_laysStand_170 : decode cX10_laysStand 170 = .ok (.getfield 30, 3) := by decide +kernel
theorem dX10_laysStand_173 : decode cX10_laysStand 173 = .ok (.iload_n 3, 1) := by decide +kernel
theorem dX10_laysStand_174 : decode cX10_laysStand 174 = .ok (.iaload, 1) := by decide +kernel
theorem dX10_laysStand_175 : decode cX10_laysStand 175 = .ok (.irem, 1) := by decide +kernel
theorem dX10_laysStand_176 : decode cX10_laysStand 176 = .ok (.goto 4, 3) := by decide +kernel
theorem dX10_laysStand_179 : decode cX10_laysStand 179 = .ok (.iconst 0, 1) := by decide +kernel
theorem dX10_laysStand_180 : decode cX10_laysStand 180 = .ok (.iastore, 1) := by decide +kernel
theorem dX10_laysStand_181 : decode cX10_laysStand 181 = .ok (.iinc 3 1, 3) := by decide +kernel
theorem dX10_laysStand_184 : decode cX10_laysStand 184 = .ok (.goto (-177), 3) := by decide +kernel
theorem dX10_laysStand_187 : decode cX10_laysStand 187 = .ok (.iconst 0, 1) := by decide +kernel
theorem dX10_laysStand_188 : decode cX10_laysStand 188 = .ok (.istore_n 3, 1) := by decide +kernel
theorem dX10_laysStand_189 : decode cX10_laysStand 189 = .ok (.iload_n 3, 1) := by decide +kernel
theorem dX10_laysStand_190 : decode cX10_laysStand 190 = .ok (.bipush 18, 2) := by decide +kernel
theorem dX10_laysStand_192 : decode cX10_laysStand 192 = .ok (.if_icmp .ge 29, 3) := by decide +kernel
theorem dX10_laysStand_195 : decode cX10_laysStand 195 = .ok (.aload_n 0, 1) := by decide +kernel
theorem dX10_laysStand_196 : decode cX10_laysStand 196 = .ok (.getfield 71, 3) := by decide +kernel
theorem dX10_laysStand_199 : decode cX10_laysStand 199 = .ok (.iload_n 2, 1) := by decide +kernel
theorem dX10_laysStand_200 : decode cX10_laysStand 200 = .ok (.bipush 24, 2) := by decide +kernel
theorem dX10_laysStand_202 : decode cX10_laysStand 202 = .ok (.iadd, 1) := by decide +kernel
theorem dX10_laysStand_203 : decode cX10_laysStand 203 = .ok (.iload_n 3, 1) := by decide +kernel
theorem dX10_laysStand_204 : decode cX10_laysStand 204 = .ok (.iadd, 1) := by decide +kernel
theorem dX10_laysStand_205 : decode cX10_laysStand 205 = .ok (.aload_n 0, 1) := by decide +kernel
theorem dX10_laysStand_206 : decode cX10_laysStand 206 = .ok (.getfield 60, 3) := by decide +kernel
theorem dX10_laysStand_209 : decode cX10_laysStand 209 = .ok (.bipush 57, 2) := by decide +kernel
theorem dX10_laysStand_211 : decode cX10_laysStand 211 = .ok (.iload_n 3, 1) := by decide +kernel
theorem dX10_laysStand_212 : decode cX10_laysStand 212 = .ok (.iadd, 1) := by decide +kernel
theorem dX10_laysStand_213 : decode cX10_laysStand 213 = .ok (.iaload, 1) := by decide +kernel
theorem dX10_laysStand_214 : decode cX10_laysStand 214 = .ok (.iastore, 1) := by decide +kernel
theorem dX10_laysStand_215 : decode cX10_laysStand 215 = .ok (.iinc 3 1, 3) := by decide +kernel
theorem dX10_laysStand_218 : decode cX10_laysStand 218 = .ok (.goto (-29), 3) := by decide +kernel
theorem dX10_laysStand_221 : decode cX10_laysStand 221 = .ok (.iconst 0, 1) := by decide +kernel
theorem dX10_laysStand_222 : decode cX10_laysStand 222 = .ok (.istore_n 3, 1) := by decide +kernel
theorem dX10_laysStand_223 : decode cX10_laysStand 223 = .ok (.iload_n 3, 1) := by decide +kernel
theorem dX10_laysStand_224 : decode cX10_laysStand 224 = .ok (.iconst 3, 1) := by decide +kernel
theorem dX10_laysStand_225 : decode cX10_laysStand 225 = .ok (.if_icmp .ge 41, 3) := by decide +kernel
theorem dX10_laysStand_228 : decode cX10_laysStand 228 = .ok (.aload_n 0, 1) := by decide +kernel
theorem dX10_laysStand_229 : decode cX10_laysStand 229 = .ok (.getfield 71, 3) := by decide +kernel
theorem dX10_laysStand_232 : decode cX10_laysStand 232 = .ok (.iload_n 2, 1) := by decide +kernel
theorem dX10_laysStand_233 : decode cX10_laysStand 233 = .ok (.bipush 42, 2) := by decide +kernel
theorem dX10_laysStand_235 : decode cX10_laysStand 235 = .ok (.iadd, 1) := by decide +kernel
theorem dX10_laysStand_236 : decode cX10_laysStand 236 = .ok (.iload_n 3, 1) := by decide +kernel
theorem dX10_laysStand_237 : decode cX10_laysStand 237 = .ok (.iadd, 1) := by decide +kernel
theorem dX10_laysStand_238 : decode cX10_laysStand 238 = .ok (.aload_n 0, 1) := by decide +kernel
theorem dX10_laysStand_239 : decode cX10_laysStand 239 = .ok (.getfield 60, 3) := by decide +kernel
theorem dX10_laysStand_242 : decode cX10_laysStand 242 = .ok (.iload_n 3, 1) := by decide +kernel
theorem dX10_laysStand_243 : decode cX10_laysStand 243 = .ok (.iconst 0, 1) := by decide +kernel
theorem dX10_laysStand_244 : decode cX10_laysStand 244 = .ok (.invokestatic 274, 3) := by decide +kernel
theorem dX10_laysStand_247 : decode cX10_laysStand 247 = .ok (.iaload, 1) := by decide +kernel
theorem dX10_laysStand_248 : decode cX10_laysStand 248 = .ok (.aload_n 0, 1) := by decide +kernel
theorem dX10_laysStand_249 : decode cX10_laysStand 249 = .ok (.getfield 60, 3) := by decide +kernel
theorem dX10_laysStand_252 : decode cX10_laysStand 252 = .ok (.iload_n 3, 1) := by decide +kernel
theorem dX10_laysStand_253 : decode cX10_laysStand 253 = .ok (.iconst 1, 1) := by decide +kernel
theorem dX10_laysStand_254 : decode cX10_laysStand 254 = .ok (.invokestatic 274, 3) := by decide +kernel
theorem dX10_laysStand_257 : decode cX10_laysStand 257 = .ok (.iaload, 1) := by decide +kernel
theorem dX10_laysStand_258 : decode cX10_laysStand 258 = .ok (.isub, 1) := by decide +kernel
theorem dX10_laysStand_259 : decode cX10_laysStand 259 = .ok (.iastore, 1) := by decide +kernel
theorem dX10_laysStand_260 : decode cX10_laysStand 260 = .ok (.iinc 3 1, 3) := by decide +kernel
theorem dX10_laysStand_263 : decode cX10_laysStand 263 = .ok (.goto (-40), 3) := by decide +kernel
theorem dX10_laysStand_266 : decode cX10_laysStand 266 = .ok (.iconst 0, 1) := by decide +kernel
theorem dX10_laysStand_267 : decode cX10_laysStand 267 = .ok (.istore_n 3, 1) := by decide +kernel
theorem dX10_laysStand_268 : decode cX10_laysStand 268 = .ok (.iload_n 3, 1) := by decide +kernel
theorem dX10_laysStand_269 : decode cX10_laysStand 269 = .ok (.iconst 4, 1) := by decide +kernel
theorem dX10_laysStand_270 : decode cX10_laysStand 270 = .ok (.if_icmp .ge 57, 3) := by decide +kernel
theorem dX10_laysStand_273 : decode cX10_laysStand 273 = .ok (.aload_n 0, 1) := by decide +kernel
theorem dX10_laysStand_274 : decode cX10_laysStand 274 = .ok (.getfield 71, 3) := by decide +kernel
theorem dX10_laysStand_277 : decode cX10_laysStand 277 = .ok (.iload_n 2, 1) := by decide +kernel
theorem dX10_laysStand_278 : decode cX10_laysStand 278 = .ok (.bipush 45, 2) := by decide +kernel
theorem dX10_laysStand_280 : decode cX10_laysStand 280 = .ok (.iadd, 1) := by decide +kernel
theorem dX10_laysStand_281 : decode cX10_laysStand 281 = .ok (.iload_n 3, 1) := by decide +kernel
theorem dX10_laysStand_282 : decode cX10_laysStand 282 = .ok (.iadd, 1) := by decide +kernel
theorem dX10_laysStand_283 : decode cX10_laysStand 283 = .ok (.iload_n 3, 1) := by decide +kernel
theorem dX10_laysStand_284 : decode cX10_laysStand 284 = .ok (.aload_n 0, 1) := by decide +kernel
theorem dX10_laysStand_285 : decode cX10_laysStand 285 = .ok (.getfield 251, 3) := by decide +kernel
theorem dX10_laysStand_288 : decode cX10_laysStand 288 = .ok (.if_icmp .ge 31, 3) := by decide +kernel
theorem dX10_laysStand_291 : decode cX10_laysStand 291 = .ok (.iload_n 1, 1) := by decide +kernel
theorem dX10_laysStand_292 : decode cX10_laysStand 292 = .ok (.aload_n 0, 1) := by decide +kernel
theorem dX10_laysStand_293 : decode cX10_laysStand 293 = .ok (.getfield 39, 3) := by decide +kernel
theorem dX10_laysStand_296 : decode cX10_laysStand 296 = .ok (.iload_n 3, 1) := by decide +kernel
theorem dX10_laysStand_297 : decode cX10_laysStand 297 = .ok (.iaload, 1) := by decide +kernel
theorem dX10_laysStand_298 : decode cX10_laysStand 298 = .ok (.if_icmp .lt 21, 3) := by decide +kernel
theorem dX10_laysStand_301 : decode cX10_laysStand 301 = .ok (.iload_n 1, 1) := by decide +kernel
theorem dX10_laysStand_302 : decode cX10_laysStand 302 = .ok (.aload_n 0, 1) := by decide +kernel
theorem dX10_laysStand_303 : decode cX10_laysStand 303 = .ok (.getfield 39, 3) := by decide +kernel
theorem dX10_laysStand_306 : decode cX10_laysStand 306 = .ok (.iload_n 3, 1) := by decide +kernel
theorem dX10_laysStand_307 : decode cX10_laysStand 307 = .ok (.iaload, 1) := by decide +kernel
theorem dX10_laysStand_308 : decode cX10_laysStand 308 = .ok (.isub, 1) := by decide +kernel
theorem dX10_laysStand_309 : decode cX10_laysStand 309 = .ok (.aload_n 0, 1) := by decide +kernel
theorem dX10_laysStand_310 : decode cX10_laysStand 310 = .ok (.getfield 36, 3) := by decide +kernel
theorem dX10_laysStand_313 : decode cX10_laysStand 313 = .ok (.iload_n 3, 1) := by decide +kernel
theorem dX10_laysStand_314 : decode cX10_laysStand 314 = .ok (.iaload, 1) := by decide +kernel
theorem dX10_laysStand_315 : decode cX10_laysStand 315 = .ok (.irem, 1) := by decide +kernel
theorem dX10_laysStand_316 : decode cX10_laysStand 316 = .ok (.goto 4, 3) := by decide +kernel
theorem dX10_laysStand_319 : decode cX10_laysStand 319 = .ok (.iconst 0, 1) := by decide +kernel
theorem dX10_laysStand_320 : decode cX10_laysStand 320 = .ok (.iastore, 1) := by decide +kernel
theorem dX10_laysStand_321 : decode cX10_laysStand 321 = .ok (.iinc 3 1, 3) := by decide +kernel
theorem dX10_laysStand_324 : decode cX10_laysStand 324 = .ok (.goto (-56), 3) := by decide +kernel
theorem dX10_laysStand_327 : decode cX10_laysStand 327 = .ok (.return_, 1) := by decide +kernel
theorem dX10_areAlike_0 : decode cX10_areAlike 0 = .ok (.iconst 1, 1) := by decide +kernel
theorem dX10_areAlike_1 : decode cX10_areAlike 1 = .ok (.istore_n 3, 1) := by decide +kernel
theorem dX10_areAlike_2 : decode cX10_areAlike 2 = .ok (.iconst 0, 1) := by decide +kernel
theorem dX10_areAlike_3 : decode cX10_areAlike 3 = .ok (.istore 4, 2) := by decide +kernel
theorem dX10_areAlike_5 : decode cX10_areAlike 5 = .ok (.iload_n 3, 1) := by decide +kernel
theorem dX10_areAlike_6 : decode cX10_areAlike 6 = .ok (.ifCond .eq 49, 3) := by decide +kernel
theorem dX10_areAlike_9 : decode cX10_areAlike 9 = .ok (.iload 4, 2) := by decide +kernel
theorem dX10_areAlike_11 : decode cX10_areAlike 11 = .ok (.bipush 49, 2) := by decide +kernel
theorem dX10_areAlike_13 : decode cX10_areAlike 13 = .ok (.if_icmp .ge 42, 3) := by decide +kernel
theorem dX10_areAlike_16 : decode cX10_areAlike 16 = .ok (.aload_n 0, 1) := by decide +kernel
theorem dX10_areAlike_17 : decode cX10_areAlike 17 = .ok (.getfield 71, 3) := by decide +kernel
theorem dX10_areAlike_20 : decode cX10_areAlike 20 = .ok (.bipush 49, 2) := by decide +kernel
theorem dX10_areAlike_22 : decode cX10_areAlike 22 = .ok (.iload_n 1, 1) := by decide +kernel
theorem dX10_areAlike_23 : decode cX10_areAlike 23 = .ok (.imul, 1) := by decide +kernel
theorem dX10_areAlike_24 : decode cX10_areAlike 24 = .ok (.iload 4, 2) := by decide +kernel
theorem dX10_areAlike_26 : decode cX10_areAlike 26 = .ok (.iadd, 1) := by decide +kernel
theorem dX10_areAlike_27 : decode cX10_areAlike 27 = .ok (.iaload, 1) := by decide +kernel
theorem dX10_areAlike_28 : decode cX10_areAlike 28 = .ok (.aload_n 0, 1) := by decide +kernel
theorem dX10_areAlike_29 : decode cX10_areAlike 29 = .ok (.getfield 71, 3) := by decide +kernel
theorem dX10_areAlike_32 : decode cX10_areAlike 32 = .ok (.bipush 49, 2) := by decide +kernel
theorem dX10_areAlike_34 : decode cX10_areAlike 34 = .ok (.iload_n 2, 1) := by decide +kernel
theorem dX10_areAlike_35 : decode cX10_areAlike 35 = .ok (.imul, 1) := by decide +kernel
theorem dX10_areAlike_36 : decode cX10_areAlike 36 = .ok (.iload 4, 2) := by decide +kernel
theorem dX10_areAlike_38 : decode cX10_areAlike 38 = .ok (.iadd, 1) := by decide +kernel
theorem dX10_areAlike_39 : decode cX10_areAlike 39 = .ok (.iaload, 1) := by decide +kernel
theorem dX10_areAlike_40 : decode cX10_areAlike 40 = .ok (.if_icmp .ne 7, 3) := by decide +kernel
theorem dX10_areAlike_43 : decode cX10_areAlike 43 = .ok (.iconst 1, 1) := by decide +kernel
theorem dX10_areAlike_44 : decode cX10_areAlike 44 = .ok (.goto 4, 3) := by decide +kernel
theorem dX10_areAlike_47 : decode cX10_areAlike 47 = .ok (.iconst 0, 1) := by decide +kernel
theorem dX10_areAlike_48 : decode cX10_areAlike 48 = .ok (.istore_n 3, 1) := by decide +kernel
theorem dX10_areAlike_49 : decode cX10_areAlike 49 = .ok (.iinc 4 1, 3) := by decide +kernel
theorem dX10_areAlike_52 : decode cX10_areAlike 52 = .ok (.goto (-47), 3) := by decide +kernel
theorem dX10_areAlike_55 : decode cX10_areAlike 55 = .ok (.iload_n 3, 1) := by decide +kernel
theorem dX10_areAlike_56 : decode cX10_areAlike 56 = .ok (.ireturn, 1) := by decide +kernel
theorem dX10_comesAgain_0 : decode cX10_comesAgain 0 = .ok (.aload_n 0, 1) := by decide +kernel
theorem dX10_comesAgain_1 : decode cX10_comesAgain 1 = .ok (.iconst 0, 1) := by decide +kernel
theorem dX10_comesAgain_2 : decode cX10_comesAgain 2 = .ok (.putfield 74, 3) := by decide +kernel
theorem dX10_comesAgain_5 : decode cX10_comesAgain 5 = .ok (.aload_n 0, 1) := by decide +kernel
theorem dX10_comesAgain_6 : decode cX10_comesAgain 6 = .ok (.getfield 257, 3) := by decide +kernel
theorem dX10_comesAgain_9 : decode cX10_comesAgain 9 = .ok (.ifCond .eq 12, 3) := by decide +kernel
theorem dX10_comesAgain_12 : decode cX10_comesAgain 12 = .ok (.iload_n 2, 1) := by decide +kernel
theorem dX10_comesAgain_13 : decode cX10_comesAgain 13 = .ok (.iconst 0, 1) := by decide +kernel
theorem dX10_comesAgain_14 : decode cX10_comesAgain 14 = .ok (.iconst 1, 1) := by decide +kernel
theorem dX10_comesAgain_15 : decode cX10_comesAgain 15 = .ok (.invokestatic 95, 3) := by decide +kernel
theorem dX10_comesAgain_18 : decode cX10_comesAgain 18 = .ok (.ifCond .ne 9, 3) := by decide +kernel
theorem dX10_comesAgain_21 : decode cX10_comesAgain 21 = .ok (.aload_n 0, 1) := by decide +kernel
theorem dX10_comesAgain_22 : decode cX10_comesAgain 22 = .ok (.iconst 1, 1) := by decide +kernel
theorem dX10_comesAgain_23 : decode cX10_comesAgain 23 = .ok (.invokevirtual 232, 3) := by decide +kernel
theorem dX10_comesAgain_26 : decode cX10_comesAgain 26 = .ok (.ireturn, 1) := by decide +kernel
theorem dX10_comesAgain_27 : decode cX10_comesAgain 27 = .ok (.iload_n 1, 1) := by decide +kernel
theorem dX10_comesAgain_28 : decode cX10_comesAgain 28 = .ok (.invokestatic 348, 3) := by decide +kernel
theorem dX10_comesAgain_31 : decode cX10_comesAgain 31 = .ok (.ifCond .ne 9, 3) := by decide +kernel
theorem dX10_comesAgain_34 : decode cX10_comesAgain 34 = .ok (.aload_n 0, 1) := by decide +kernel
theorem dX10_comesAgain_35 : decode cX10_comesAgain 35 = .ok (.iconst 2, 1) := by decide +kernel
theorem dX10_comesAgain_36 : decode cX10_comesAgain 36 = .ok (.invokevirtual 232, 3) := by decide +kernel
theorem dX10_comesAgain_39 : decode cX10_comesAgain 39 = .ok (.ireturn, 1) := by decide +kernel
theorem dX10_comesAgain_40 : decode cX10_comesAgain 40 = .ok (.iconst 0, 1) := by decide +kernel
theorem dX10_comesAgain_41 : decode cX10_comesAgain 41 = .ok (.istore_n 3, 1) := by decide +kernel
theorem dX10_comesAgain_42 : decode cX10_comesAgain 42 = .ok (.iconst 0, 1) := by decide +kernel
theorem dX10_comesAgain_43 : decode cX10_comesAgain 43 = .ok (.istore 4, 2) := by decide +kernel
theorem dX10_comesAgain_45 : decode cX10_comesAgain 45 = .ok (.iload 4, 2) := by decide +kernel
theorem dX10_comesAgain_47 : decode cX10_comesAgain 47 = .ok (.aload_n 0, 1) := by decide +kernel
theorem dX10_comesAgain_48 : decode cX10_comesAgain 48 = .ok (.getfield 251, 3) := by decide +kernel
theorem dX10_comesAgain_51 : decode cX10_comesAgain 51 = .ok (.if_icmp .ge 32, 3) := by decide +kernel
theorem dX10_comesAgain_54 : decode cX10_comesAgain 54 = .ok (.aload_n 0, 1) := by decide +kernel
theorem dX10_comesAgain_55 : decode cX10_comesAgain 55 = .ok (.getfield 39, 3) := by decide +kernel
theorem dX10_comesAgain_58 : decode cX10_comesAgain 58 = .ok (.iload 4, 2) := by decide +kernel
theorem dX10_comesAgain_60 : decode cX10_comesAgain 60 = .ok (.iaload, 1) := by decide +kernel
theorem dX10_comesAgain_61 : decode cX10_comesAgain 61 = .ok (.iload_n 3, 1) := by decide +kernel
theorem dX10_comesAgain_62 : decode cX10_comesAgain 62 = .ok (.if_icmp .le 13, 3) := by decide +kernel
theorem dX10_comesAgain_65 : decode cX10_comesAgain 65 = .ok (.aload_n 0, 1) := by decide +kernel
theorem dX10_comesAgain_66 : decode cX10_comesAgain 66 = .ok (.getfield 39, 3) := by decide +kernel
theorem dX10_comesAgain_69 : decode cX10_comesAgain 69 = .ok (.iload 4, 2) := by decide +kernel
theorem dX10_comesAgain_71 : decode cX10_comesAgain 71 = .ok (.iaload, 1) := by decide +kernel
theorem dX10_comesAgain_72 : decode cX10_comesAgain 72 = .ok (.goto 4, 3) := by decide +kernel
theorem dX10_comesAgain_75 : decode cX10_comesAgain 75 = .ok (.iload_n 3, 1) := by decide +kernel
theorem dX10_comesAgain_76 : decode cX10_comesAgain 76 = .ok (.istore_n 3, 1) := by decide +kernel
theorem dX10_comesAgain_77 : decode cX10_comesAgain 77 = .ok (.iinc 4 1, 3) := by decide +kernel
theorem dX10_comesAgain_80 : decode cX10_comesAgain 80 = .ok (.goto (-35), 3) := by decide +kernel
theorem dX10_comesAgain_83 : decode cX10_comesAgain 83 = .ok (.aload_n 0, 1) := by decide +kernel
theorem dX10_comesAgain_84 : decode cX10_comesAgain 84 = .ok (.invokevirtual 342, 3) := by decide +kernel
theorem dX10_comesAgain_87 : decode cX10_comesAgain 87 = .ok (.aload_n 0, 1) := by decide +kernel
theorem dX10_comesAgain_88 : decode cX10_comesAgain 88 = .ok (.aload_n 0, 1) := by decide +kernel
theorem dX10_comesAgain_89 : decode cX10_comesAgain 89 = .ok (.getfield 60, 3) := by decide +kernel
theorem dX10_comesAgain_92 : decode cX10_comesAgain 92 = .ok (.invokevirtual 260, 3) := by decide +kernel
theorem dX10_comesAgain_95 : decode cX10_comesAgain 95 = .ok (.iconst 0, 1) := by decide +kernel
theorem dX10_comesAgain_96 : decode cX10_comesAgain 96 = .ok (.istore 4, 2) := by decide +kernel
theorem dX10_comesAgain_98 : decode cX10_comesAgain 98 = .ok (.iload 4, 2) := by decide +kernel
theorem dX10_comesAgain_100 : decode cX10_comesAgain 100 = .ok (.iload_n 1, 1) := by decide +kernel
theorem dX10_comesAgain_101 : decode cX10_comesAgain 101 = .ok (.if_icmp .ge 75, 3) := by decide +kernel
theorem dX10_comesAgain_104 : decode cX10_comesAgain 104 = .ok (.aload_n 0, 1) := by decide +kernel
theorem dX10_comesAgain_105 : decode cX10_comesAgain 105 = .ok (.aload_n 0, 1) := by decide +kernel
theorem dX10_comesAgain_106 : decode cX10_comesAgain 106 = .ok (.getfield 60, 3) := by decide +kernel
theorem dX10_comesAgain_109 : decode cX10_comesAgain 109 = .ok (.aload_n 0, 1) := by decide +kernel
theorem dX10_comesAgain_110 : decode cX10_comesAgain 110 = .ok (.getfield 48, 3) := by decide +kernel
theorem dX10_comesAgain_113 : decode cX10_comesAgain 113 = .ok (.invokevirtual 329, 3) := by decide +kernel
theorem dX10_comesAgain_116 : decode cX10_comesAgain 116 = .ok (.aload_n 0, 1) := by decide +kernel
theorem dX10_comesAgain_117 : decode cX10_comesAgain 117 = .ok (.iload 4, 2) := by decide +kernel
theorem dX10_comesAgain_119 : decode cX10_comesAgain 119 = .ok (.invokevirtual 357, 3) := by decide +kernel
theorem dX10_comesAgain_122 : decode cX10_comesAgain 122 = .ok (.iload 4, 2) := by decide +kernel
theorem dX10_comesAgain_124 : decode cX10_comesAgain 124 = .ok (.iconst 1, 1) := by decide +kernel
theorem dX10_comesAgain_125 : decode cX10_comesAgain 125 = .ok (.isub, 1) := by decide +kernel
theorem dX10_comesAgain_126 : decode cX10_comesAgain 126 = .ok (.istore 5, 2) := by decide +kernel
theorem dX10_comesAgain_128 : decode cX10_comesAgain 128 = .ok (.iload 5, 2) := by decide +kernel
theorem dX10_comesAgain_130 : decode cX10_comesAgain 130 = .ok (.iload_n 3, 1) := by decide +kernel
theorem dX10_comesAgain_131 : decode cX10_comesAgain 131 = .ok (.if_icmp .lt 39, 3) := by decide +kernel
theorem dX10_comesAgain_134 : decode cX10_comesAgain 134 = .ok (.aload_n 0, 1) := by decide +kernel
theorem dX10_comesAgain_135 : decode cX10_comesAgain 135 = .ok (.iload 4, 2) := by decide +kernel
theorem dX10_comesAgain_137 : decode cX10_comesAgain 137 = .ok (.iload 5, 2) := by decide +kernel
theorem dX10_comesAgain_139 : decode cX10_comesAgain 139 = .ok (.invokevirtual 360, 3) := by decide +kernel
theorem dX10_comesAgain_142 : decode cX10_comesAgain 142 = .ok (.ifCond .eq 22, 3) := by decide +kernel
theorem dX10_comesAgain_145 : decode cX10_comesAgain 145 = .ok (.aload_n 0, 1) := by decide +kernel
theorem dX10_comesAgain_146 : decode cX10_comesAgain 146 = .ok (.iload_n 2, 1) := by decide +kernel
theorem dX10_comesAgain_147 : decode cX10_comesAgain 147 = .ok (.ifCond .ne 8, 3) := by decide +kernel
theorem dX10_comesAgain_150 : decode cX10_comesAgain 150 = .ok (.iload 4, 2) := by decide +kernel
theorem dX10_comesAgain_152 : decode cX10_comesAgain 152 = .ok (.goto 8, 3) := by decide +kernel
theorem dX10_comesAgain_155 : decode cX10_comesAgain 155 = .ok (.iload 4, 2) := by decide +kernel
theorem dX10_comesAgain_157 : decode cX10_comesAgain 157 = .ok (.iload 5, 2) := by decide +kernel
theorem dX10_comesAgain_159 : decode cX10_comesAgain 159 = .ok (.isub, 1) := by decide +kernel
theorem dX10_comesAgain_160 : decode cX10_comesAgain 160 = .ok (.invokevirtual 245, 3) := by decide +kernel
theorem dX10_comesAgain_163 : decode cX10_comesAgain 163 = .ok (.ireturn, 1) := by decide +kernel
theorem dX10_comesAgain_164 : decode cX10_comesAgain 164 = .ok (.iinc 5 (-1), 3) := by decide +kernel
theorem dX10_comesAgain_167 : decode cX10_comesAgain 167 = .ok (.goto (-39), 3) := by decide +kernel
theorem dX10_comesAgain_170 : decode cX10_comesAgain 170 = .ok (.iinc 4 1, 3) := by decide +kernel
theorem dX10_comesAgain_173 : decode cX10_comesAgain 173 = .ok (.goto (-75), 3) := by decide +kernel
theorem dX10_comesAgain_176 : decode cX10_comesAgain 176 = .ok (.aload_n 0, 1) := by decide +kernel
theorem dX10_comesAgain_177 : decode cX10_comesAgain 177 = .ok (.bipush (-2), 2) := by decide +kernel
theorem dX10_comesAgain_179 : decode cX10_comesAgain 179 = .ok (.invokevirtual 245, 3) := by decide +kernel
theorem dX10_comesAgain_182 : decode cX10_comesAgain 182 = .ok (.ireturn, 1) := by decide +kernel
theorem dX10_remembers_0 : decode cX10_remembers 0 = .ok (.aload_n 0, 1) := by decide +kernel
theorem dX10_remembers_1 : decode cX10_remembers 1 = .ok (.getfield 254, 3) := by decide +kernel
theorem dX10_remembers_4 : decode cX10_remembers 4 = .ok (.bipush 10, 2) := by decide +kernel
theorem dX10_remembers_6 : decode cX10_remembers 6 = .ok (.if_icmp .ne 47, 3) := by decide +kernel
theorem dX10_remembers_9 : decode cX10_remembers 9 = .ok (.aload_n 0, 1) := by decide +kernel
theorem dX10_remembers_10 : decode cX10_remembers 10 = .ok (.dup, 1) := by decide +kernel
theorem dX10_remembers_11 : decode cX10_remembers 11 = .ok (.getfield 254, 3) := by decide +kernel
theorem dX10_remembers_14 : decode cX10_remembers 14 = .ok (.iconst 1, 1) := by decide +kernel
theorem dX10_remembers_15 : decode cX10_remembers 15 = .ok (.isub, 1) := by decide +kernel
theorem dX10_remembers_16 : decode cX10_remembers 16 = .ok (.putfield 254, 3) := by decide +kernel
theorem dX10_remembers_19 : decode cX10_remembers 19 = .ok (.iconst 0, 1) := by decide +kernel
theorem dX10_remembers_20 : decode cX10_remembers 20 = .ok (.istore_n 1, 1) := by decide +kernel
theorem dX10_remembers_21 : decode cX10_remembers 21 = .ok (.iload_n 1, 1) := by decide +kernel
theorem dX10_remembers_22 : decode cX10_remembers 22 = .ok (.aload_n 0, 1) := by decide +kernel
theorem dX10_remembers_23 : decode cX10_remembers 23 = .ok (.getfield 254, 3) := by decide +kernel
theorem dX10_remembers_26 : decode cX10_remembers 26 = .ok (.bipush 37, 2) := by decide +kernel
theorem dX10_remembers_28 : decode cX10_remembers 28 = .ok (.imul, 1) := by decide +kernel
theorem dX10_remembers_29 : decode cX10_remembers 29 = .ok (.if_icmp .ge 24, 3) := by decide +kernel
theorem dX10_remembers_32 : decode cX10_remembers 32 = .ok (.aload_n 0, 1) := by decide +kernel
theorem dX10_remembers_33 : decode cX10_remembers 33 = .ok (.getfield 51, 3) := by decide +kernel
theorem dX10_remembers_36 : decode cX10_remembers 36 = .ok (.iload_n 1, 1) := by decide +kernel
theorem dX10_remembers_37 : decode cX10_remembers 37 = .ok (.aload_n 0, 1) := by decide +kernel
theorem dX10_remembers_38 : decode cX10_remembers 38 = .ok (.getfield 51, 3) := by decide +kernel
theorem dX10_remembers_41 : decode cX10_remembers 41 = .ok (.iload_n 1, 1) := by decide +kernel
theorem dX10_remembers_42 : decode cX10_remembers 42 = .ok (.bipush 37, 2) := by decide +kernel
theorem dX10_remembers_44 : decode cX10_remembers 44 = .ok (.iadd, 1) := by decide +kernel
theorem dX10_remembers_45 : decode cX10_remembers 45 = .ok (.iaload, 1) := by decide +kernel
theorem dX10_remembers_46 : decode cX10_remembers 46 = .ok (.iastore, 1) := by decide +kernel
theorem dX10_remembers_47 : decode cX10_remembers 47 = .ok (.iinc 1 1, 3) := by decide +kernel
theorem dX10_remembers_50 : decode cX10_remembers 50 = .ok (.goto (-29), 3) := by decide +kernel
theorem dX10_remembers_53 : decode cX10_remembers 53 = .ok (.iconst 0, 1) := by decide +kernel
theorem dX10_remembers_54 : decode cX10_remembers 54 = .ok (.istore_n 1, 1) := by decide +kernel
theorem dX10_remembers_55 : decode cX10_remembers 55 = .ok (.iload_n 1, 1) := by decide +kernel
theorem dX10_remembers_56 : decode cX10_remembers 56 = .ok (.bipush 37, 2) := by decide +kernel
theorem dX10_remembers_58 : decode cX10_remembers 58 = .ok (.if_icmp .ge 29, 3) := by decide +kernel
theorem dX10_remembers_61 : decode cX10_remembers 61 = .ok (.aload_n 0, 1) := by decide +kernel
theorem dX10_remembers_62 : decode cX10_remembers 62 = .ok (.getfield 51, 3) := by decide +kernel
theorem dX10_remembers_65 : decode cX10_remembers 65 = .ok (.aload_n 0, 1) := by decide +kernel
theorem dX10_remembers_66 : decode cX10_remembers 66 = .ok (.getfield 254, 3) := by decide +kernel
theorem dX10_remembers_69 : decode cX10_remembers 69 = .ok (.bipush 37, 2) := by decide +kernel
theorem dX10_remembers_71 : decode cX10_remembers 71 = .ok (.imul, 1) := by decide +kernel
theorem dX10_remembers_72 : decode cX10_remembers 72 = .ok (.iload_n 1, 1) := by decide +kernel
theorem dX10_remembers_73 : decode cX10_remembers 73 = .ok (.iadd, 1) := by decide +kernel
theorem dX10_remembers_74 : decode cX10_remembers 74 = .ok (.aload_n 0, 1) := by decide +kernel
theorem dX10_remembers_75 : decode cX10_remembers 75 = .ok (.getfield 42, 3) := by decide +kernel
theorem dX10_remembers_78 : decode cX10_remembers 78 = .ok (.iload_n 1, 1) := by decide +kernel
theorem dX10_remembers_79 : decode cX10_remembers 79 = .ok (.iaload, 1) := by decide +kernel
theorem dX10_remembers_80 : decode cX10_remembers 80 = .ok (.iastore, 1) := by decide +kernel
theorem dX10_remembers_81 : decode cX10_remembers 81 = .ok (.iinc 1 1, 3) := by decide +kernel
theorem dX10_remembers_84 : decode cX10_remembers 84 = .ok (.goto (-29), 3) := by decide +kernel
theorem dX10_remembers_87 : decode cX10_remembers 87 = .ok (.aload_n 0, 1) := by decide +kernel
theorem dX10_remembers_88 : decode cX10_remembers 88 = .ok (.dup, 1) := by decide +kernel
theorem dX10_remembers_89 : decode cX10_remembers 89 = .ok (.getfield 254, 3) := by decide +kernel
theorem dX10_remembers_92 : decode cX10_remembers 92 = .ok (.iconst 1, 1) := by decide +kernel
theorem dX10_remembers_93 : decode cX10_remembers 93 = .ok (.iadd, 1) := by decide +kernel
theorem dX10_remembers_94 : decode cX10_remembers 94 = .ok (.putfield 254, 3) := by decide +kernel
theorem dX10_remembers_97 : decode cX10_remembers 97 = .ok (.return_, 1) := by decide +kernel
theorem dX10_changes_0 : decode cX10_changes 0 = .ok (.aload_n 0, 1) := by decide +kernel
theorem dX10_changes_1 : decode cX10_changes 1 = .ok (.invokevirtual 364, 3) := by decide +kernel
theorem dX10_changes_4 : decode cX10_changes 4 = .ok (.aload_n 0, 1) := by decide +kernel
theorem dX10_changes_5 : decode cX10_changes 5 = .ok (.getfield 42, 3) := by decide +kernel
theorem dX10_changes_8 : decode cX10_changes 8 = .ok (.iload_n 1, 1) := by decide +kernel
theorem dX10_changes_9 : decode cX10_changes 9 = .ok (.iaload, 1) := by decide +kernel
theorem dX10_changes_10 : decode cX10_changes 10 = .ok (.istore_n 3, 1) := by decide +kernel
theorem dX10_changes_11 : decode cX10_changes 11 = .ok (.aload_n 0, 1) := by decide +kernel
theorem dX10_changes_12 : decode cX10_changes 12 = .ok (.getfield 42, 3) := by decide +kernel
theorem dX10_changes_15 : decode cX10_changes 15 = .ok (.iload_n 1, 1) := by decide +kernel
theorem dX10_changes_16 : decode cX10_changes 16 = .ok (.iload_n 2, 1) := by decide +kernel
theorem dX10_changes_17 : decode cX10_changes 17 = .ok (.iastore, 1) := by decide +kernel
theorem dX10_changes_18 : decode cX10_changes 18 = .ok (.aload_n 0, 1) := by decide +kernel
theorem dX10_changes_19 : decode cX10_changes 19 = .ok (.iload_n 3, 1) := by decide +kernel
theorem dX10_changes_20 : decode cX10_changes 20 = .ok (.invokevirtual 245, 3) := by decide +kernel
theorem dX10_changes_23 : decode cX10_changes 23 = .ok (.ireturn, 1) := by decide +kernel
theorem dX10_cards_0 : decode cX10_cards 0 = .ok (.aload_n 0, 1) := by decide +kernel
theorem dX10_cards_1 : decode cX10_cards 1 = .ok (.iconst 0, 1) := by decide +kernel
theorem dX10_cards_2 : decode cX10_cards 2 = .ok (.putfield 74, 3) := by decide +kernel
theorem dX10_cards_5 : decode cX10_cards 5 = .ok (.aload_n 0, 1) := by decide +kernel
theorem dX10_cards_6 : decode cX10_cards 6 = .ok (.iload_n 1, 1) := by decide +kernel
theorem dX10_cards_7 : decode cX10_cards 7 = .ok (.invokevirtual 316, 3) := by decide +kernel
theorem dX10_cards_10 : decode cX10_cards 10 = .ok (.ifCond .eq 11, 3) := by decide +kernel
theorem dX10_cards_13 : decode cX10_cards 13 = .ok (.aload_n 0, 1) := by decide +kernel
theorem dX10_cards_14 : decode cX10_cards 14 = .ok (.iload_n 2, 1) := by decide +kernel
theorem dX10_cards_15 : decode cX10_cards 15 = .ok (.invokevirtual 319, 3) := by decide +kernel
theorem dX10_cards_18 : decode cX10_cards 18 = .ok (.ifCond .ne 9, 3) := by decide +kernel
theorem dX10_cards_21 : decode cX10_cards 21 = .ok (.aload_n 0, 1) := by decide +kernel
theorem dX10_cards_22 : decode cX10_cards 22 = .ok (.iconst 1, 1) := by decide +kernel
theorem dX10_cards_23 : decode cX10_cards 23 = .ok (.invokevirtual 232, 3) := by decide +kernel
theorem dX10_cards_26 : decode cX10_cards 26 = .ok (.ireturn, 1) := by decide +kernel
theorem dX10_cards_27 : decode cX10_cards 27 = .ok (.iload_n 3, 1) := by decide +kernel
theorem dX10_cards_28 : decode cX10_cards 28 = .ok (.iconst 0, 1) := by decide +kernel
theorem dX10_cards_29 : decode cX10_cards 29 = .ok (.bipush 9, 2) := by decide +kernel
theorem dX10_cards_31 : decode cX10_cards 31 = .ok (.invokestatic 95, 3) := by decide +kernel
theorem dX10_cards_34 : decode cX10_cards 34 = .ok (.ifCond .eq 16, 3) := by decide +kernel
theorem dX10_cards_37 : decode cX10_cards 37 = .ok (.aload_n 0, 1) := by decide +kernel
theorem dX10_cards_38 : decode cX10_cards 38 = .ok (.iconst 3, 1) := by decide +kernel
theorem dX10_cards_39 : decode cX10_cards 39 = .ok (.iload_n 1, 1) := by decide +kernel
theorem dX10_cards_40 : decode cX10_cards 40 = .ok (.imul, 1) := by decide +kernel
theorem dX10_cards_41 : decode cX10_cards 41 = .ok (.iload_n 2, 1) := by decide +kernel
theorem dX10_cards_42 : decode cX10_cards 42 = .ok (.iadd, 1) := by decide +kernel
theorem dX10_cards_43 : decode cX10_cards 43 = .ok (.iload_n 3, 1) := by decide +kernel
theorem dX10_cards_44 : decode cX10_cards 44 = .ok (.invokevirtual 367, 3) := by decide +kernel
theorem dX10_cards_47 : decode cX10_cards 47 = .ok (.goto 8, 3) := by decide +kernel
theorem dX10_cards_50 : decode cX10_cards 50 = .ok (.aload_n 0, 1) := by decide +kernel
theorem dX10_cards_51 : decode cX10_cards 51 = .ok (.iconst 2, 1) := by decide +kernel
theorem dX10_cards_52 : decode cX10_cards 52 = .ok (.invokevirtual 232, 3) := by decide +kernel
theorem dX10_cards_55 : decode cX10_cards 55 = .ok (.ireturn, 1) := by decide +kernel
theorem dX10_time_0 : decode cX10_time 0 = .ok (.aload_n 0, 1) := by decide +kernel
theorem dX10_time_1 : decode cX10_time 1 = .ok (.iconst 0, 1) := by decide +kernel
theorem dX10_time_2 : decode cX10_time 2 = .ok (.putfield 74, 3) := by decide +kernel
theorem dX10_time_5 : decode cX10_time 5 = .ok (.aload_n 0, 1) := by decide +kernel
theorem dX10_time_6 : decode cX10_time 6 = .ok (.iload_n 1, 1) := by decide +kernel
theorem dX10_time_7 : decode cX10_time 7 = .ok (.invokevirtual 316, 3) := by decide +kernel
theorem dX10_time_10 : decode cX10_time 10 = .ok (.ifCond .eq 11, 3) := by decide +kernel
theorem dX10_time_13 : decode cX10_time 13 = .ok (.aload_n 0, 1) := by decide +kernel
theorem dX10_time_14 : decode cX10_time 14 = .ok (.iload_n 2, 1) := by decide +kernel
theorem dX10_time_15 : decode cX10_time 15 = .ok (.invokevirtual 319, 3) := by decide +kernel
theorem dX10_time_18 : decode cX10_time 18 = .ok (.ifCond .ne 9, 3) := by decide +kernel
theorem dX10_time_21 : decode cX10_time 21 = .ok (.aload_n 0, 1) := by decide +kernel
theorem dX10_time_22 : decode cX10_time 22 = .ok (.iconst 1, 1) := by decide +kernel
theorem dX10_time_23 : decode cX10_time 23 = .ok (.invokevirtual 232, 3) := by decide +kernel
theorem dX10_time_26 : decode cX10_time 26 = .ok (.ireturn, 1) := by decide +kernel
theorem dX10_time_27 : decode cX10_time 27 = .ok (.iload_n 3, 1) := by decide +kernel
theorem dX10_time_28 : decode cX10_time 28 = .ok (.iconst 1, 1) := by decide +kernel
theorem dX10_time_29 : decode cX10_time 29 = .ok (.bipush 60, 2) := by decide +kernel
theorem dX10_time_31 : decode cX10_time 31 = .ok (.invokestatic 95, 3) := by decide +kernel
theorem dX10_time_34 : decode cX10_time 34 = .ok (.ifCond .eq 19, 3) := by decide +kernel
theorem dX10_time_37 : decode cX10_time 37 = .ok (.aload_n 0, 1) := by decide +kernel
theorem dX10_time_38 : decode cX10_time 38 = .ok (.bipush 18, 2) := by decide +kernel
theorem dX10_time_40 : decode cX10_time 40 = .ok (.iconst 3, 1) := by decide +kernel
theorem dX10_time_41 : decode cX10_time 41 = .ok (.iload_n 1, 1) := by decide +kernel
theorem dX10_time_42 : decode cX10_time 42 = .ok (.imul, 1) := by decide +kernel
theorem dX10_time_43 : decode cX10_time 43 = .ok (.iadd, 1) := by decide +kernel
theorem dX10_time_44 : decode cX10_time 44 = .ok (.iload_n 2, 1) := by decide +kernel
theorem dX10_time_45 : decode cX10_time 45 = .ok (.iadd, 1) := by decide +kernel
theorem dX10_time_46 : decode cX10_time 46 = .ok (.iload_n 3, 1) := by decide +kernel
theorem dX10_time_47 : decode cX10_time 47 = .ok (.invokevirtual 367, 3) := by decide +kernel
theorem dX10_time_50 : decode cX10_time 50 = .ok (.goto 8, 3) := by decide +kernel
theorem dX10_time_53 : decode cX10_time 53 = .ok (.aload_n 0, 1) := by decide +kernel
theorem dX10_time_54 : decode cX10_time 54 = .ok (.iconst 2, 1) := by decide +kernel
theorem dX10_time_55 : decode cX10_time 55 = .ok (.invokevirtual 232, 3) := by decide +kernel
theorem dX10_time_58 : decode cX10_time 58 = .ok (.ireturn, 1) := by decide +kernel
theorem dX10_rule_0 : decode cX10_rule 0 = .ok (.aload_n 0, 1) := by decide +kernel
theorem dX10_rule_1 : decode cX10_rule 1 = .ok (.iconst 0, 1) := by decide +kernel
theorem dX10_rule_2 : decode cX10_rule 2 = .ok (.putfield 74, 3) := by decide +kernel
theorem dX10_rule_5 : decode cX10_rule 5 = .ok (.aload_n 0, 1) := by decide +kernel
theorem dX10_rule_6 : decode cX10_rule 6 = .ok (.getfield 257, 3) := by decide +kernel
theorem dX10_rule_9 : decode cX10_rule 9 = .ok (.ifCond .ne 9, 3) := by decide +kernel
theorem dX10_rule_12 : decode cX10_rule 12 = .ok (.aload_n 0, 1) := by decide +kernel
theorem dX10_rule_13 : decode cX10_rule 13 = .ok (.iconst 1, 1) := by decide +kernel
theorem dX10_rule_14 : decode cX10_rule 14 = .ok (.invokevirtual 232, 3) := by decide +kernel
theorem dX10_rule_17 : decode cX10_rule 17 = .ok (.ireturn, 1) := by decide +kernel
theorem dX10_rule_18 : decode cX10_rule 18 = .ok (.iload_n 1, 1) := by decide +kernel
theorem dX10_rule_19 : decode cX10_rule 19 = .ok (.iconst 0, 1) := by decide +kernel
theorem dX10_rule_20 : decode cX10_rule 20 = .ok (.iconst 2, 1) := by decide +kernel
theorem dX10_rule_21 : decode cX10_rule 21 = .ok (.invokestatic 95, 3) := by decide +kernel
theorem dX10_rule_24 : decode cX10_rule 24 = .ok (.ifCond .eq 13, 3) := by decide +kernel
theorem dX10_rule_27 : decode cX10_rule 27 = .ok (.aload_n 0, 1) := by decide +kernel
theorem dX10_rule_28 : decode cX10_rule 28 = .ok (.bipush 36, 2) := by decide +kernel
theorem dX10_rule_30 : decode cX10_rule 30 = .ok (.iload_n 1, 1) := by decide +kernel
theorem dX10_rule_31 : decode cX10_rule 31 = .ok (.invokevirtual 367, 3) := by decide +kernel
theorem dX10_rule_34 : decode cX10_rule 34 = .ok (.goto 8, 3) := by decide +kernel
theorem dX10_rule_37 : decode cX10_rule 37 = .ok (.aload_n 0, 1) := by decide +kernel
theorem dX10_rule_38 : decode cX10_rule 38 = .ok (.iconst 2, 1) := by decide +kernel
theorem dX10_rule_39 : decode cX10_rule 39 = .ok (.invokevirtual 232, 3) := by decide +kernel
theorem dX10_rule_42 : decode cX10_rule 42 = .ok (.ireturn, 1) := by decide +kernel
theorem dX10_undo_0 : decode cX10_undo 0 = .ok (.aload_n 0, 1) := by decide +kernel
theorem dX10_undo_1 : decode cX10_undo 1 = .ok (.iconst 0, 1) := by decide +kernel
theorem dX10_undo_2 : decode cX10_undo 2 = .ok (.putfield 74, 3) := by decide +kernel
theorem dX10_undo_5 : decode cX10_undo 5 = .ok (.aload_n 0, 1) := by decide +kernel
theorem dX10_undo_6 : decode cX10_undo 6 = .ok (.getfield 257, 3) := by decide +kernel
theorem dX10_undo_9 : decode cX10_undo 9 = .ok (.ifCond .ne 9, 3) := by decide +kernel
theorem dX10_undo_12 : decode cX10_undo 12 = .ok (.aload_n 0, 1) := by decide +kernel
theorem dX10_undo_13 : decode cX10_undo 13 = .ok (.iconst 1, 1) := by decide +kernel
theorem dX10_undo_14 : decode cX10_undo 14 = .ok (.invokevirtual 232, 3) := by decide +kernel
theorem dX10_undo_17 : decode cX10_undo 17 = .ok (.ireturn, 1) := by decide +kernel
theorem dX10_undo_18 : decode cX10_undo 18 = .ok (.aload_n 0, 1) := by decide +kernel
theorem dX10_undo_19 : decode cX10_undo 19 = .ok (.getfield 254, 3) := by decide +kernel
theorem dX10_undo_22 : decode cX10_undo 22 = .ok (.ifCond .ne 9, 3) := by decide +kernel
theorem dX10_undo_25 : decode cX10_undo 25 = .ok (.aload_n 0, 1) := by decide +kernel
theorem dX10_undo_26 : decode cX10_undo 26 = .ok (.iconst 5, 1) := by decide +kernel
theorem dX10_undo_27 : decode cX10_undo 27 = .ok (.invokevirtual 232, 3) := by decide +kernel
theorem dX10_undo_30 : decode cX10_undo 30 = .ok (.ireturn, 1) := by decide +kernel
theorem dX10_undo_31 : decode cX10_undo 31 = .ok (.aload_n 0, 1) := by decide +kernel
theorem dX10_undo_32 : decode cX10_undo 32 = .ok (.dup, 1) := by decide +kernel
theorem dX10_undo_33 : decode cX10_undo 33 = .ok (.getfield 254, 3) := by decide +kernel
theorem dX10_undo_36 : decode cX10_undo 36 = .ok (.iconst 1, 1) := by decide +kernel
theorem dX10_undo_37 : decode cX10_undo 37 = .ok (.isub, 1) := by decide +kernel
theorem dX10_undo_38 : decode cX10_undo 38 = .ok (.putfield 254, 3) := by decide +kernel
theorem dX10_undo_41 : decode cX10_undo 41 = .ok (.iconst 0, 1) := by decide +kernel
theorem dX10_undo_42 : decode cX10_undo 42 = .ok (.istore_n 1, 1) := by decide +kernel
theorem dX10_undo_43 : decode cX10_undo 43 = .ok (.iload_n 1, 1) := by decide +kernel
theorem dX10_undo_44 : decode cX10_undo 44 = .ok (.bipush 37, 2) := by decide +kernel
theorem dX10_undo_46 : decode cX10_undo 46 = .ok (.if_icmp .ge 29, 3) := by decide +kernel
theorem dX10_undo_49 : decode cX10_undo 49 = .ok (.aload_n 0, 1) := by decide +kernel
theorem dX10_undo_50 : decode cX10_undo 50 = .ok (.getfield 42, 3) := by decide +kernel
theorem dX10_undo_53 : decode cX10_undo 53 = .ok (.iload_n 1, 1) := by decide +kernel
theorem dX10_undo_54 : decode cX10_undo 54 = .ok (.aload_n 0, 1) := by decide +kernel
theorem dX10_undo_55 : decode cX10_undo 55 = .ok (.getfield 51, 3) := by decide +kernel
theorem dX10_undo_58 : decode cX10_undo 58 = .ok (.aload_n 0, 1) := by decide +kernel
theorem dX10_undo_59 : decode cX10_undo 59 = .ok (.getfield 254, 3) := by decide +kernel
theorem dX10_undo_62 : decode cX10_undo 62 = .ok (.bipush 37, 2) := by decide +kernel
theorem dX10_undo_64 : decode cX10_undo 64 = .ok (.imul, 1) := by decide +kernel
theorem dX10_undo_65 : decode cX10_undo 65 = .ok (.iload_n 1, 1) := by decide +kernel
theorem dX10_undo_66 : decode cX10_undo 66 = .ok (.iadd, 1) := by decide +kernel
theorem dX10_undo_67 : decode cX10_undo 67 = .ok (.iaload, 1) := by decide +kernel
theorem dX10_undo_68 : decode cX10_undo 68 = .ok (.iastore, 1) := by decide +kernel
theorem dX10_undo_69 : decode cX10_undo 69 = .ok (.iinc 1 1, 3) := by decide +kernel
theorem dX10_undo_72 : decode cX10_undo 72 = .ok (.goto (-29), 3) := by decide +kernel
theorem dX10_undo_75 : decode cX10_undo 75 = .ok (.aload_n 0, 1) := by decide +kernel
theorem dX10_undo_76 : decode cX10_undo 76 = .ok (.aload_n 0, 1) := by decide +kernel
theorem dX10_undo_77 : decode cX10_undo 77 = .ok (.getfield 254, 3) := by decide +kernel
theorem dX10_undo_80 : decode cX10_undo 80 = .ok (.invokevirtual 245, 3) := by decide +kernel
theorem dX10_undo_83 : decode cX10_undo 83 = .ok (.ireturn, 1) := by decide +kernel
theorem dX10_keep_0 : decode cX10_keep 0 = .ok (.aload_n 0, 1) := by decide +kernel
theorem dX10_keep_1 : decode cX10_keep 1 = .ok (.iconst 0, 1) := by decide +kernel
theorem dX10_keep_2 : decode cX10_keep 2 = .ok (.putfield 74, 3) := by decide +kernel
theorem dX10_keep_5 : decode cX10_keep 5 = .ok (.aload_n 0, 1) := by decide +kernel
theorem dX10_keep_6 : decode cX10_keep 6 = .ok (.getfield 257, 3) := by decide +kernel
theorem dX10_keep_9 : decode cX10_keep 9 = .ok (.ifCond .eq 12, 3) := by decide +kernel
theorem dX10_keep_12 : decode cX10_keep 12 = .ok (.iload_n 1, 1) := by decide +kernel
theorem dX10_keep_13 : decode cX10_keep 13 = .ok (.iconst 0, 1) := by decide +kernel
theorem dX10_keep_14 : decode cX10_keep 14 = .ok (.iconst 1, 1) := by decide +kernel
theorem dX10_keep_15 : decode cX10_keep 15 = .ok (.invokestatic 95, 3) := by decide +kernel
theorem dX10_keep_18 : decode cX10_keep 18 = .ok (.ifCond .ne 9, 3) := by decide +kernel
theorem dX10_keep_21 : decode cX10_keep 21 = .ok (.aload_n 0, 1) := by decide +kernel
theorem dX10_keep_22 : decode cX10_keep 22 = .ok (.iconst 1, 1) := by decide +kernel
theorem dX10_keep_23 : decode cX10_keep 23 = .ok (.invokevirtual 322, 3) := by decide +kernel
theorem dX10_keep_26 : decode cX10_keep 26 = .ok (.ireturn, 1) := by decide +kernel
theorem dX10_keep_27 : decode cX10_keep 27 = .ok (.iconst 0, 1) := by decide +kernel
theorem dX10_keep_28 : decode cX10_keep 28 = .ok (.istore_n 2, 1) := by decide +kernel
theorem dX10_keep_29 : decode cX10_keep 29 = .ok (.iload_n 2, 1) := by decide +kernel
theorem dX10_keep_30 : decode cX10_keep 30 = .ok (.bipush 99, 2) := by decide +kernel
theorem dX10_keep_32 : decode cX10_keep 32 = .ok (.if_icmp .ge 26, 3) := by decide +kernel
theorem dX10_keep_35 : decode cX10_keep 35 = .ok (.aload_n 0, 1) := by decide +kernel
theorem dX10_keep_36 : decode cX10_keep 36 = .ok (.getfield 63, 3) := by decide +kernel
theorem dX10_keep_39 : decode cX10_keep 39 = .ok (.bipush 99, 2) := by decide +kernel
theorem dX10_keep_41 : decode cX10_keep 41 = .ok (.iload_n 1, 1) := by decide +kernel
theorem dX10_keep_42 : decode cX10_keep 42 = .ok (.imul, 1) := by decide +kernel
theorem dX10_keep_43 : decode cX10_keep 43 = .ok (.iload_n 2, 1) := by decide +kernel
theorem dX10_keep_44 : decode cX10_keep 44 = .ok (.iadd, 1) := by decide +kernel
theorem dX10_keep_45 : decode cX10_keep 45 = .ok (.aload_n 0, 1) := by decide +kernel
theorem dX10_keep_46 : decode cX10_keep 46 = .ok (.getfield 57, 3) := by decide +kernel
theorem dX10_keep_49 : decode cX10_keep 49 = .ok (.iload_n 2, 1) := by decide +kernel
theorem dX10_keep_50 : decode cX10_keep 50 = .ok (.iaload, 1) := by decide +kernel
theorem dX10_keep_51 : decode cX10_keep 51 = .ok (.iastore, 1) := by decide +kernel
theorem dX10_keep_52 : decode cX10_keep 52 = .ok (.iinc 2 1, 3) := by decide +kernel
theorem dX10_keep_55 : decode cX10_keep 55 = .ok (.goto (-26), 3) := by decide +kernel
theorem dX10_keep_58 : decode cX10_keep 58 = .ok (.iconst 0, 1) := by decide +kernel
theorem dX10_keep_59 : decode cX10_keep 59 = .ok (.istore_n 2, 1) := by decide +kernel
theorem dX10_keep_60 : decode cX10_keep 60 = .ok (.iload_n 2, 1) := by decide +kernel
theorem dX10_keep_61 : decode cX10_keep 61 = .ok (.bipush 37, 2) := by decide +kernel
theorem dX10_keep_63 : decode cX10_keep 63 = .ok (.if_icmp .ge 26, 3) := by decide +kernel
theorem dX10_keep_66 : decode cX10_keep 66 = .ok (.aload_n 0, 1) := by decide +kernel
theorem dX10_keep_67 : decode cX10_keep 67 = .ok (.getfield 54, 3) := by decide +kernel
theorem dX10_keep_70 : decode cX10_keep 70 = .ok (.bipush 37, 2) := by decide +kernel
theorem dX10_keep_72 : decode cX10_keep 72 = .ok (.iload_n 1, 1) := by decide +kernel
theorem dX10_keep_73 : decode cX10_keep 73 = .ok (.imul, 1) := by decide +kernel
theorem dX10_keep_74 : decode cX10_keep 74 = .ok (.iload_n 2, 1) := by decide +kernel
theorem dX10_keep_75 : decode cX10_keep 75 = .ok (.iadd, 1) := by decide +kernel
theorem dX10_keep_76 : decode cX10_keep 76 = .ok (.aload_n 0, 1) := by decide +kernel
theorem dX10_keep_77 : decode cX10_keep 77 = .ok (.getfield 42, 3) := by decide +kernel
theorem dX10_keep_80 : decode cX10_keep 80 = .ok (.iload_n 2, 1) := by decide +kernel
theorem dX10_keep_81 : decode cX10_keep 81 = .ok (.iaload, 1) := by decide +kernel
theorem dX10_keep_82 : decode cX10_keep 82 = .ok (.iastore, 1) := by decide +kernel
theorem dX10_keep_83 : decode cX10_keep 83 = .ok (.iinc 2 1, 3) := by decide +kernel
theorem dX10_keep_86 : decode cX10_keep 86 = .ok (.goto (-26), 3) := by decide +kernel
theorem dX10_keep_89 : decode cX10_keep 89 = .ok (.aload_n 0, 1) := by decide +kernel
theorem dX10_keep_90 : decode cX10_keep 90 = .ok (.getfield 66, 3) := by decide +kernel
theorem dX10_keep_93 : decode cX10_keep 93 = .ok (.iload_n 1, 1) := by decide +kernel
theorem dX10_keep_94 : decode cX10_keep 94 = .ok (.iconst 1, 1) := by decide +kernel
theorem dX10_keep_95 : decode cX10_keep 95 = .ok (.bastore, 1) := by decide +kernel
theorem dX10_keep_96 : decode cX10_keep 96 = .ok (.aload_n 0, 1) := by decide +kernel
theorem dX10_keep_97 : decode cX10_keep 97 = .ok (.iconst 0, 1) := by decide +kernel
theorem dX10_keep_98 : decode cX10_keep 98 = .ok (.invokevirtual 322, 3) := by decide +kernel
theorem dX10_keep_101 : decode cX10_keep 101 = .ok (.ireturn, 1) := by decide +kernel
theorem dX10_back_0 : decode cX10_back 0 = .ok (.aload_n 0, 1) := by decide +kernel
theorem dX10_back_1 : decode cX10_back 1 = .ok (.iconst 0, 1) := by decide +kernel
theorem dX10_back_2 : decode cX10_back 2 = .ok (.putfield 74, 3) := by decide +kernel
theorem dX10_back_5 : decode cX10_back 5 = .ok (.aload_n 0, 1) := by decide +kernel
theorem dX10_back_6 : decode cX10_back 6 = .ok (.getfield 257, 3) := by decide +kernel
theorem dX10_back_9 : decode cX10_back 9 = .ok (.ifCond .eq 21, 3) := by decide +kernel
theorem dX10_back_12 : decode cX10_back 12 = .ok (.iload_n 1, 1) := by decide +kernel
theorem dX10_back_13 : decode cX10_back 13 = .ok (.iconst 0, 1) := by decide +kernel
theorem dX10_back_14 : decode cX10_back 14 = .ok (.iconst 1, 1) := by decide +kernel
theorem dX10_back_15 : decode cX10_back 15 = .ok (.invokestatic 95, 3) := by decide +kernel
theorem dX10_back_18 : decode cX10_back 18 = .ok (.ifCond .eq 12, 3) := by decide +kernel
theorem dX10_back_21 : decode cX10_back 21 = .ok (.aload_n 0, 1) := by decide +kernel
theorem dX10_back_22 : decode cX10_back 22 = .ok (.getfield 66, 3) := by decide +kernel
theorem dX10_back_25 : decode cX10_back 25 = .ok (.iload_n 1, 1) := by decide +kernel
theorem dX10_back_26 : decode cX10_back 26 = .ok (.baload, 1) := by decide +kernel
theorem dX10_back_27 : decode cX10_back 27 = .ok (.ifCond .ne 9, 3) := by decide +kernel
theorem dX10_back_30 : decode cX10_back 30 = .ok (.aload_n 0, 1) := by decide +kernel
theorem dX10_back_31 : decode cX10_back 31 = .ok (.iconst 1, 1) := by decide +kernel
theorem dX10_back_32 : decode cX10_back 32 = .ok (.invokevirtual 322, 3) := by decide +kernel
theorem dX10_back_35 : decode cX10_back 35 = .ok (.ireturn, 1) := by decide +kernel
theorem dX10_back_36 : decode cX10_back 36 = .ok (.iconst 0, 1) := by decide +kernel
theorem dX10_back_37 : decode cX10_back 37 = .ok (.istore_n 2, 1) := by decide +kernel
theorem dX10_back_38 : decode cX10_back 38 = .ok (.iload_n 2, 1) := by decide +kernel
theorem dX10_back_39 : decode cX10_back 39 = .ok (.bipush 99, 2) := by decide +kernel
theorem dX10_back_41 : decode cX10_back 41 = .ok (.if_icmp .ge 26, 3) := by decide +kernel
theorem dX10_back_44 : decode cX10_back 44 = .ok (.aload_n 0, 1) := by decide +kernel
theorem dX10_back_45 : decode cX10_back 45 = .ok (.getfield 57, 3) := by decide +kernel
theorem dX10_back_48 : decode cX10_back 48 = .ok (.iload_n 2, 1) := by decide +kernel
theorem dX10_back_49 : decode cX10_back 49 = .ok (.aload_n 0, 1) := by decide +kernel
theorem dX10_back_50 : decode cX10_back 50 = .ok (.getfield 63, 3) := by decide +kernel
theorem dX10_back_53 : decode cX10_back 53 = .ok (.bipush 99, 2) := by decide +kernel
theorem dX10_back_55 : decode cX10_back 55 = .ok (.iload_n 1, 1) := by decide +kernel
theorem dX10_back_56 : decode cX10_back 56 = .ok (.imul, 1) := by decide +kernel
theorem dX10_back_57 : decode cX10_back 57 = .ok (.iload_n 2, 1) := by decide +kernel
theorem dX10_back_58 : decode cX10_back 58 = .ok (.iadd, 1) := by decide +kernel
theorem dX10_back_59 : decode cX10_back 59 = .ok (.iaload, 1) := by decide +kernel
theorem dX10_back_60 : decode cX10_back 60 = .ok (.iastore, 1) := by decide +kernel
theorem dX10_back_61 : decode cX10_back 61 = .ok (.iinc 2 1, 3) := by decide +kernel
theorem dX10_back_64 : decode cX10_back 64 = .ok (.goto (-26), 3) := by decide +kernel
theorem dX10_back_67 : decode cX10_back 67 = .ok (.iconst 0, 1) := by decide +kernel
theorem dX10_back_68 : decode cX10_back 68 = .ok (.istore_n 2, 1) := by decide +kernel
theorem dX10_back_69 : decode cX10_back 69 = .ok (.iload_n 2, 1) := by decide +kernel
theorem dX10_back_70 : decode cX10_back 70 = .ok (.bipush 37, 2) := by decide +kernel
theorem dX10_back_72 : decode cX10_back 72 = .ok (.if_icmp .ge 26, 3) := by decide +kernel
theorem dX10_back_75 : decode cX10_back 75 = .ok (.aload_n 0, 1) := by decide +kernel
theorem dX10_back_76 : decode cX10_back 76 = .ok (.getfield 42, 3) := by decide +kernel
theorem dX10_back_79 : decode cX10_back 79 = .ok (.iload_n 2, 1) := by decide +kernel
theorem dX10_back_80 : decode cX10_back 80 = .ok (.aload_n 0, 1) := by decide +kernel
theorem dX10_back_81 : decode cX10_back 81 = .ok (.getfield 54, 3) := by decide +kernel
theorem dX10_back_84 : decode cX10_back 84 = .ok (.bipush 37, 2) := by decide +kernel
theorem dX10_back_86 : decode cX10_back 86 = .ok (.iload_n 1, 1) := by decide +kernel
theorem dX10_back_87 : decode cX10_back 87 = .ok (.imul, 1) := by decide +kernel
theorem dX10_back_88 : decode cX10_back 88 = .ok (.iload_n 2, 1) := by decide +kernel
theorem dX10_back_89 : decode cX10_back 89 = .ok (.iadd, 1) := by decide +kernel
theorem dX10_back_90 : decode cX10_back 90 = .ok (.iaload, 1) := by decide +kernel
theorem dX10_back_91 : decode cX10_back 91 = .ok (.iastore, 1) := by decide +kernel
theorem dX10_back_92 : decode cX10_back 92 = .ok (.iinc 2 1, 3) := by decide +kernel
theorem dX10_back_95 : decode cX10_back 95 = .ok (.goto (-26), 3) := by decide +kernel
theorem dX10_back_98 : decode cX10_back 98 = .ok (.aload_n 0, 1) := by decide +kernel
theorem dX10_back_99 : decode cX10_back 99 = .ok (.iconst 0, 1) := by decide +kernel
theorem dX10_back_100 : decode cX10_back 100 = .ok (.putfield 254, 3) := by decide +kernel
theorem dX10_back_103 : decode cX10_back 103 = .ok (.aload_n 0, 1) := by decide +kernel
theorem dX10_back_104 : decode cX10_back 104 = .ok (.iconst 0, 1) := by decide +kernel
theorem dX10_back_105 : decode cX10_back 105 = .ok (.invokevirtual 322, 3) := by decide +kernel
theorem dX10_back_108 : decode cX10_back 108 = .ok (.ireturn, 1) := by decide +kernel
theorem dX10_letter_0 : decode cX10_letter 0 = .ok (.aload_n 0, 1) := by decide +kernel
theorem dX10_letter_1 : decode cX10_letter 1 = .ok (.iconst 0, 1) := by decide +kernel
theorem dX10_letter_2 : decode cX10_letter 2 = .ok (.putfield 74, 3) := by decide +kernel
theorem dX10_letter_5 : decode cX10_letter 5 = .ok (.lconst 0, 1) := by decide +kernel
theorem dX10_letter_6 : decode cX10_letter 6 = .ok (.lstore 4, 2) := by decide +kernel
theorem dX10_letter_8 : decode cX10_letter 8 = .ok (.iload_n 2, 1) := by decide +kernel
theorem dX10_letter_9 : decode cX10_letter 9 = .ok (.iconst 0, 1) := by decide +kernel
theorem dX10_letter_10 : decode cX10_letter 10 = .ok (.iload_n 1, 1) := by decide +kernel
theorem dX10_letter_11 : decode cX10_letter 11 = .ok (.ifCond .eq 10, 3) := by decide +kernel
theorem dX10_letter_14 : decode cX10_letter 14 = .ok (.aload_n 0, 1) := by decide +kernel
theorem dX10_letter_15 : decode cX10_letter 15 = .ok (.getfield 248, 3) := by decide +kernel
theorem dX10_letter_18 : decode cX10_letter 18 = .ok (.goto 7, 3) := by decide +kernel
theorem dX10_letter_21 : decode cX10_letter 21 = .ok (.aload_n 0, 1) := by decide +kernel
theorem dX10_letter_22 : decode cX10_letter 22 = .ok (.getfield 242, 3) := by decide +kernel
theorem dX10_letter_25 : decode cX10_letter 25 = .ok (.iconst 1, 1) := by decide +kernel
theorem dX10_letter_26 : decode cX10_letter 26 = .ok (.isub, 1) := by decide +kernel
theorem dX10_letter_27 : decode cX10_letter 27 = .ok (.invokestatic 95, 3) := by decide +kernel
theorem dX10_letter_30 : decode cX10_letter 30 = .ok (.ifCond .eq 24, 3) := by decide +kernel
theorem dX10_letter_33 : decode cX10_letter 33 = .ok (.iload_n 1, 1) := by decide +kernel
theorem dX10_letter_34 : decode cX10_letter 34 = .ok (.ifCond .eq 12, 3) := by decide +kernel
theorem dX10_letter_37 : decode cX10_letter 37 = .ok (.aload_n 0, 1) := by decide +kernel
theorem dX10_letter_38 : decode cX10_letter 38 = .ok (.getfield 17, 3) := by decide +kernel
theorem dX10_letter_41 : decode cX10_letter 41 = .ok (.iload_n 2, 1) := by decide +kernel
theorem dX10_letter_42 : decode cX10_letter 42 = .ok (.laload, 1) := by decide +kernel
theorem dX10_letter_43 : decode cX10_letter 43 = .ok (.goto 9, 3) := by decide +kernel
theorem dX10_letter_46 : decode cX10_letter 46 = .ok (.aload_n 0, 1) := by decide +kernel
theorem dX10_letter_47 : decode cX10_letter 47 = .ok (.getfield 21, 3) := by decide +kernel
theorem dX10_letter_50 : decode cX10_letter 50 = .ok (.iload_n 2, 1) := by decide +kernel
theorem dX10_letter_51 : decode cX10_letter 51 = .ok (.laload, 1) := by decide +kernel
theorem dX10_letter_52 : decode cX10_letter 52 = .ok (.lstore 4, 2) := by decide +kernel
theorem dX10_letter_54 : decode cX10_letter 54 = .ok (.iconst 0, 1) := by decide +kernel
theorem dX10_letter_55 : decode cX10_letter 55 = .ok (.istore 6, 2) := by decide +kernel
theorem dX10_letter_57 : decode cX10_letter 57 = .ok (.lload 4, 2) := by decide +kernel
theorem dX10_letter_59 : decode cX10_letter 59 = .ok (.lstore 7, 2) := by decide +kernel
theorem dX10_letter_61 : decode cX10_letter 61 = .ok (.lload 7, 2) := by decide +kernel
theorem dX10_letter_63 : decode cX10_letter 63 = .ok (.lconst 0, 1) := by decide +kernel
theorem dX10_letter_64 : decode cX10_letter 64 = .ok (.lcmp, 1) := by decide +kernel
theorem dX10_letter_65 : decode cX10_letter 65 = .ok (.ifCond .le 17, 3) := by decide +kernel
theorem dX10_letter_68 : decode cX10_letter 68 = .ok (.iinc 6 1, 3) := by decide +kernel
theorem dX10_letter_71 : decode cX10_letter 71 = .ok (.lload 7, 2) := by decide +kernel
theorem dX10_letter_73 : decode cX10_letter 73 = .ok (.ldc2_w 113, 3) := by decide +kernel
theorem dX10_letter_76 : decode cX10_letter 76 = .ok (.ldiv, 1) := by decide +kernel
theorem dX10_letter_77 : decode cX10_letter 77 = .ok (.lstore 7, 2) := by decide +kernel
theorem dX10_letter_79 : decode cX10_letter 79 = .ok (.goto (-18), 3) := by decide +kernel
theorem dX10_letter_82 : decode cX10_letter 82 = .ok (.iload_n 3, 1) := by decide +kernel
theorem dX10_letter_83 : decode cX10_letter 83 = .ok (.iconst 0, 1) := by decide +kernel
theorem dX10_letter_84 : decode cX10_letter 84 = .ok (.iload 6, 2) := by decide +kernel
theorem dX10_letter_86 : decode cX10_letter 86 = .ok (.iconst 1, 1) := by decide +kernel
theorem dX10_letter_87 : decode cX10_letter 87 = .ok (.isub, 1) := by decide +kernel
theorem dX10_letter_88 : decode cX10_letter 88 = .ok (.invokestatic 95, 3) := by decide +kernel
theorem dX10_letter_91 : decode cX10_letter 91 = .ok (.ifCond .ne 10, 3) := by decide +kernel
theorem dX10_letter_94 : decode cX10_letter 94 = .ok (.aload_n 0, 1) := by decide +kernel
theorem dX10_letter_95 : decode cX10_letter 95 = .ok (.iconst 1, 1) := by decide +kernel
theorem dX10_letter_96 : decode cX10_letter 96 = .ok (.putfield 74, 3) := by decide +kernel
theorem dX10_letter_99 : decode cX10_letter 99 = .ok (.iconst 0, 1) := by decide +kernel
theorem dX10_letter_100 : decode cX10_letter 100 = .ok (.ireturn, 1) := by decide +kernel
theorem dX10_letter_101 : decode cX10_letter 101 = .ok (.iload 6, 2) := by decide +kernel
theorem dX10_letter_103 : decode cX10_letter 103 = .ok (.iconst 1, 1) := by decide +kernel
theorem dX10_letter_104 : decode cX10_letter 104 = .ok (.isub, 1) := by decide +kernel
theorem dX10_letter_105 : decode cX10_letter 105 = .ok (.istore 7, 2) := by decide +kernel
theorem dX10_letter_107 : decode cX10_letter 107 = .ok (.iload 7, 2) := by decide +kernel
theorem dX10_letter_109 : decode cX10_letter 109 = .ok (.iload_n 3, 1) := by decide +kernel
theorem dX10_letter_110 : decode cX10_letter 110 = .ok (.if_icmp .le 17, 3) := by decide +kernel
theorem dX10_letter_113 : decode cX10_letter 113 = .ok (.lload 4, 2) := by decide +kernel
theorem dX10_letter_115 : decode cX10_letter 115 = .ok (.ldc2_w 113, 3) := by decide +kernel
theorem dX10_letter_118 : decode cX10_letter 118 = .ok (.ldiv, 1) := by decide +kernel
theorem dX10_letter_119 : decode cX10_letter 119 = .ok (.lstore 4, 2) := by decide +kernel
theorem dX10_letter_121 : decode cX10_letter 121 = .ok (.iinc 7 (-1), 3) := by decide +kernel
theorem dX10_letter_124 : decode cX10_letter 124 = .ok (.goto (-17), 3) := by decide +kernel
theorem dX10_letter_127 : decode cX10_letter 127 = .ok (.lload 4, 2) := by decide +kernel
theorem dX10_letter_129 : decode cX10_letter 129 = .ok (.ldc2_w 113, 3) := by decide +kernel
theorem dX10_letter_132 : decode cX10_letter 132 = .ok (.lrem, 1) := by decide +kernel
theorem dX10_letter_133 : decode cX10_letter 133 = .ok (.l2i, 1) := by decide +kernel
theorem dX10_letter_134 : decode cX10_letter 134 = .ok (.iconst 1, 1) := by decide +kernel
theorem dX10_letter_135 : decode cX10_letter 135 = .ok (.isub, 1) := by decide +kernel
theorem dX10_letter_136 : decode cX10_letter 136 = .ok (.ireturn, 1) := by decide +kernel
theorem dX10_bytes_0 : decode cX10_bytes 0 = .ok (.aload_n 0, 1) := by decide +kernel
theorem dX10_bytes_1 : decode cX10_bytes 1 = .ok (.iconst 0, 1) := by decide +kernel
theorem dX10_bytes_2 : decode cX10_bytes 2 = .ok (.putfield 74, 3) := by decide +kernel
theorem dX10_bytes_5 : decode cX10_bytes 5 = .ok (.aload_n 0, 1) := by decide +kernel
theorem dX10_bytes_6 : decode cX10_bytes 6 = .ok (.getfield 80, 3) := by decide +kernel
theorem dX10_bytes_9 : decode cX10_bytes 9 = .ok (.ireturn, 1) := by decide +kernel
theorem dX10_trouble_0 : decode cX10_trouble 0 = .ok (.aload_n 0, 1) := by decide +kernel
theorem dX10_trouble_1 : decode cX10_trouble 1 = .ok (.iconst 0, 1) := by decide +kernel
theorem dX10_trouble_2 : decode cX10_trouble 2 = .ok (.putfield 74, 3) := by decide +kernel
theorem dX10_trouble_5 : decode cX10_trouble 5 = .ok (.aload_n 0, 1) := by decide +kernel
theorem dX10_trouble_6 : decode cX10_trouble 6 = .ok (.getfield 77, 3) := by decide +kernel
theorem dX10_trouble_9 : decode cX10_trouble 9 = .ok (.ireturn, 1) := by decide +kernel
