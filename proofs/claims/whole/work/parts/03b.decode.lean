theorem dX6_readRest_48 : decode cX6_readRest 48 = .ok (.iconst 0, 1) := by decide +kernel
theorem dX6_readRest_49 : decode cX6_readRest 49 = .ok (.ireturn, 1) := by decide +kernel
theorem dX6_readRest_50 : decode cX6_readRest 50 = .ok (.aload_n 0, 1) := by decide +kernel
theorem dX6_readRest_51 : decode cX6_readRest 51 = .ok (.getfield 12, 3) := by decide +kernel
theorem dX6_readRest_54 : decode cX6_readRest 54 = .ok (.getfield 127, 3) := by decide +kernel
theorem dX6_readRest_57 : decode cX6_readRest 57 = .ok (.iload_n 1, 1) := by decide +kernel
theorem dX6_readRest_58 : decode cX6_readRest 58 = .ok (.iload_n 2, 1) := by decide +kernel
theorem dX6_readRest_59 : decode cX6_readRest 59 = .ok (.iastore, 1) := by decide +kernel
theorem dX6_readRest_60 : decode cX6_readRest 60 = .ok (.aload_n 0, 1) := by decide +kernel
theorem dX6_readRest_61 : decode cX6_readRest 61 = .ok (.getfield 12, 3) := by decide +kernel
theorem dX6_readRest_64 : decode cX6_readRest 64 = .ok (.getfield 130, 3) := by decide +kernel
theorem dX6_readRest_67 : decode cX6_readRest 67 = .ok (.iload_n 1, 1) := by decide +kernel
theorem dX6_readRest_68 : decode cX6_readRest 68 = .ok (.iload_n 3, 1) := by decide +kernel
theorem dX6_readRest_69 : decode cX6_readRest 69 = .ok (.iastore, 1) := by decide +kernel
theorem dX6_readRest_70 : decode cX6_readRest 70 = .ok (.iconst 1, 1) := by decide +kernel
theorem dX6_readRest_71 : decode cX6_readRest 71 = .ok (.ireturn, 1) := by decide +kernel
theorem dX6_readCards_0 : decode cX6_readCards 0 = .ok (.aload_n 0, 1) := by decide +kernel
theorem dX6_readCards_1 : decode cX6_readCards 1 = .ok (.invokevirtual 62, 3) := by decide +kernel
theorem dX6_readCards_4 : decode cX6_readCards 4 = .ok (.aload_n 0, 1) := by decide +kernel
theorem dX6_readCards_5 : decode cX6_readCards 5 = .ok (.iconst 3, 1) := by decide +kernel
theorem dX6_readCards_6 : decode cX6_readCards 6 = .ok (.aload_n 0, 1) := by decide +kernel
theorem dX6_readCards_7 : decode cX6_readCards 7 = .ok (.getfield 12, 3) := by decide +kernel
theorem dX6_readCards_10 : decode cX6_readCards 10 = .ok (.getfield 56, 3) := by decide +kernel
theorem dX6_readCards_13 : decode cX6_readCards 13 = .ok (.invokevirtual 133, 3) := by decide +kernel
theorem dX6_readCards_16 : decode cX6_readCards 16 = .ok (.istore_n 1, 1) := by decide +kernel
theorem dX6_readCards_17 : decode cX6_readCards 17 = .ok (.iload_n 1, 1) := by decide +kernel
theorem dX6_readCards_18 : decode cX6_readCards 18 = .ok (.ifCond .ge 5, 3) := by decide +kernel
theorem dX6_readCards_21 : decode cX6_readCards 21 = .ok (.iconst 0, 1) := by decide +kernel
theorem dX6_readCards_22 : decode cX6_readCards 22 = .ok (.ireturn, 1) := by decide +kernel
theorem dX6_readCards_23 : decode cX6_readCards 23 = .ok (.aload_n 0, 1) := by decide +kernel
theorem dX6_readCards_24 : decode cX6_readCards 24 = .ok (.iconst 0, 1) := by decide +kernel
theorem dX6_readCards_25 : decode cX6_readCards 25 = .ok (.aload_n 0, 1) := by decide +kernel
theorem dX6_readCards_26 : decode cX6_readCards 26 = .ok (.getfield 12, 3) := by decide +kernel
theorem dX6_readCards_29 : decode cX6_readCards 29 = .ok (.getfield 53, 3) := by decide +kernel
theorem dX6_readCards_32 : decode cX6_readCards 32 = .ok (.invokevirtual 133, 3) := by decide +kernel
theorem dX6_readCards_35 : decode cX6_readCards 35 = .ok (.istore_n 2, 1) := by decide +kernel
theorem dX6_readCards_36 : decode cX6_readCards 36 = .ok (.iload_n 2, 1) := by decide +kernel
theorem dX6_readCards_37 : decode cX6_readCards 37 = .ok (.ifCond .ge 5, 3) := by decide +kernel
theorem dX6_readCards_40 : decode cX6_readCards 40 = .ok (.iconst 0, 1) := by decide +kernel
theorem dX6_readCards_41 : decode cX6_readCards 41 = .ok (.ireturn, 1) := by decide +kernel
theorem dX6_readCards_42 : decode cX6_readCards 42 = .ok (.aload_n 0, 1) := by decide +kernel
theorem dX6_readCards_43 : decode cX6_readCards 43 = .ok (.iconst 0, 1) := by decide +kernel
theorem dX6_readCards_44 : decode cX6_readCards 44 = .ok (.bipush 9, 2) := by decide +kernel
theorem dX6_readCards_46 : decode cX6_readCards 46 = .ok (.invokevirtual 99, 3) := by decide +kernel
theorem dX6_readCards_49 : decode cX6_readCards 49 = .ok (.istore_n 3, 1) := by decide +kernel
theorem dX6_readCards_50 : decode cX6_readCards 50 = .ok (.iload_n 3, 1) := by decide +kernel
theorem dX6_readCards_51 : decode cX6_readCards 51 = .ok (.ifCond .ge 5, 3) := by decide +kernel
theorem dX6_readCards_54 : decode cX6_readCards 54 = .ok (.iconst 0, 1) := by decide +kernel
theorem dX6_readCards_55 : decode cX6_readCards 55 = .ok (.ireturn, 1) := by decide +kernel
theorem dX6_readCards_56 : decode cX6_readCards 56 = .ok (.aload_n 0, 1) := by decide +kernel
theorem dX6_readCards_57 : decode cX6_readCards 57 = .ok (.getfield 12, 3) := by decide +kernel
theorem dX6_readCards_60 : decode cX6_readCards 60 = .ok (.getfield 103, 3) := by decide +kernel
theorem dX6_readCards_63 : decode cX6_readCards 63 = .ok (.getfield 115, 3) := by decide +kernel
theorem dX6_readCards_66 : decode cX6_readCards 66 = .ok (.iload_n 1, 1) := by decide +kernel
theorem dX6_readCards_67 : decode cX6_readCards 67 = .ok (.iload_n 2, 1) := by decide +kernel
theorem dX6_readCards_68 : decode cX6_readCards 68 = .ok (.invokestatic 112, 3) := by decide +kernel
theorem dX6_readCards_71 : decode cX6_readCards 71 = .ok (.iload_n 3, 1) := by decide +kernel
theorem dX6_readCards_72 : decode cX6_readCards 72 = .ok (.iastore, 1) := by decide +kernel
theorem dX6_readCards_73 : decode cX6_readCards 73 = .ok (.iconst 1, 1) := by decide +kernel
theorem dX6_readCards_74 : decode cX6_readCards 74 = .ok (.ireturn, 1) := by decide +kernel
theorem dX6_readOrder_0 : decode cX6_readOrder 0 = .ok (.aload_n 0, 1) := by decide +kernel
theorem dX6_readOrder_1 : decode cX6_readOrder 1 = .ok (.getfield 12, 3) := by decide +kernel
theorem dX6_readOrder_4 : decode cX6_readOrder 4 = .ok (.getfield 136, 3) := by decide +kernel
theorem dX6_readOrder_7 : decode cX6_readOrder 7 = .ok (.istore_n 1, 1) := by decide +kernel
theorem dX6_readOrder_8 : decode cX6_readOrder 8 = .ok (.iload_n 1, 1) := by decide +kernel
theorem dX6_readOrder_9 : decode cX6_readOrder 9 = .ok (.iconst 4, 1) := by decide +kernel
theorem dX6_readOrder_10 : decode cX6_readOrder 10 = .ok (.if_icmp .lt 9, 3) := by decide +kernel
theorem dX6_readOrder_13 : decode cX6_readOrder 13 = .ok (.aload_n 0, 1) := by decide +kernel
theorem dX6_readOrder_14 : decode cX6_readOrder 14 = .ok (.iconst 4, 1) := by decide +kernel
theorem dX6_readOrder_15 : decode cX6_readOrder 15 = .ok (.invokevirtual 59, 3) := by decide +kernel
theorem dX6_readOrder_18 : decode cX6_readOrder 18 = .ok (.ireturn, 1) := by decide +kernel
theorem dX6_readOrder_19 : decode cX6_readOrder 19 = .ok (.aload_n 0, 1) := by decide +kernel
theorem dX6_readOrder_20 : decode cX6_readOrder 20 = .ok (.invokevirtual 62, 3) := by decide +kernel
theorem dX6_readOrder_23 : decode cX6_readOrder 23 = .ok (.aload_n 0, 1) := by decide +kernel
theorem dX6_readOrder_24 : decode cX6_readOrder 24 = .ok (.iconst 0, 1) := by decide +kernel
theorem dX6_readOrder_25 : decode cX6_readOrder 25 = .ok (.aload_n 0, 1) := by decide +kernel
theorem dX6_readOrder_26 : decode cX6_readOrder 26 = .ok (.getfield 12, 3) := by decide +kernel
theorem dX6_readOrder_29 : decode cX6_readOrder 29 = .ok (.getfield 53, 3) := by decide +kernel
theorem dX6_readOrder_32 : decode cX6_readOrder 32 = .ok (.invokevirtual 133, 3) := by decide +kernel
theorem dX6_readOrder_35 : decode cX6_readOrder 35 = .ok (.istore_n 2, 1) := by decide +kernel
theorem dX6_readOrder_36 : decode cX6_readOrder 36 = .ok (.iload_n 2, 1) := by decide +kernel
theorem dX6_readOrder_37 : decode cX6_readOrder 37 = .ok (.ifCond .lt 11, 3) := by decide +kernel
theorem dX6_readOrder_40 : decode cX6_readOrder 40 = .ok (.aload_n 0, 1) := by decide +kernel
theorem dX6_readOrder_41 : decode cX6_readOrder 41 = .ok (.iconst 4, 1) := by decide +kernel
theorem dX6_readOrder_42 : decode cX6_readOrder 42 = .ok (.invokevirtual 124, 3) := by decide +kernel
theorem dX6_readOrder_45 : decode cX6_readOrder 45 = .ok (.ifCond .ne 5, 3) := by decide +kernel
theorem dX6_readOrder_48 : decode cX6_readOrder 48 = .ok (.iconst 0, 1) := by decide +kernel
theorem dX6_readOrder_49 : decode cX6_readOrder 49 = .ok (.ireturn, 1) := by decide +kernel
theorem dX6_readOrder_50 : decode cX6_readOrder 50 = .ok (.aload_n 0, 1) := by decide +kernel
theorem dX6_readOrder_51 : decode cX6_readOrder 51 = .ok (.iconst 1, 1) := by decide +kernel
theorem dX6_readOrder_52 : decode cX6_readOrder 52 = .ok (.bipush 99, 2) := by decide +kernel
theorem dX6_readOrder_54 : decode cX6_readOrder 54 = .ok (.invokevirtual 99, 3) := by decide +kernel
theorem dX6_readOrder_57 : decode cX6_readOrder 57 = .ok (.istore_n 3, 1) := by decide +kernel
theorem dX6_readOrder_58 : decode cX6_readOrder 58 = .ok (.iload_n 3, 1) := by decide +kernel
theorem dX6_readOrder_59 : decode cX6_readOrder 59 = .ok (.ifCond .lt 12, 3) := by decide +kernel
theorem dX6_readOrder_62 : decode cX6_readOrder 62 = .ok (.aload_n 0, 1) := by decide +kernel
theorem dX6_readOrder_63 : decode cX6_readOrder 63 = .ok (.bipush 7, 2) := by decide +kernel
theorem dX6_readOrder_65 : decode cX6_readOrder 65 = .ok (.invokevirtual 124, 3) := by decide +kernel
theorem dX6_readOrder_68 : decode cX6_readOrder 68 = .ok (.ifCond .ne 5, 3) := by decide +kernel
theorem dX6_readOrder_71 : decode cX6_readOrder 71 = .ok (.iconst 0, 1) := by decide +kernel
theorem dX6_readOrder_72 : decode cX6_readOrder 72 = .ok (.ireturn, 1) := by decide +kernel
theorem dX6_readOrder_73 : decode cX6_readOrder 73 = .ok (.aload_n 0, 1) := by decide +kernel
theorem dX6_readOrder_74 : decode cX6_readOrder 74 = .ok (.iconst 0, 1) := by decide +kernel
theorem dX6_readOrder_75 : decode cX6_readOrder 75 = .ok (.sipush 999, 3) := by decide +kernel
theorem dX6_readOrder_78 : decode cX6_readOrder 78 = .ok (.invokevirtual 99, 3) := by decide +kernel
theorem dX6_readOrder_81 : decode cX6_readOrder 81 = .ok (.istore 4, 2) := by decide +kernel
theorem dX6_readOrder_83 : decode cX6_readOrder 83 = .ok (.iload 4, 2) := by decide +kernel
theorem dX6_readOrder_85 : decode cX6_readOrder 85 = .ok (.ifCond .ge 5, 3) := by decide +kernel
theorem dX6_readOrder_88 : decode cX6_readOrder 88 = .ok (.iconst 0, 1) := by decide +kernel
theorem dX6_readOrder_89 : decode cX6_readOrder 89 = .ok (.ireturn, 1) := by decide +kernel
theorem dX6_readOrder_90 : decode cX6_readOrder 90 = .ok (.aload_n 0, 1) := by decide +kernel
theorem dX6_readOrder_91 : decode cX6_readOrder 91 = .ok (.getfield 12, 3) := by decide +kernel
theorem dX6_readOrder_94 : decode cX6_readOrder 94 = .ok (.getfield 139, 3) := by decide +kernel
theorem dX6_readOrder_97 : decode cX6_readOrder 97 = .ok (.iload_n 1, 1) := by decide +kernel
theorem dX6_readOrder_98 : decode cX6_readOrder 98 = .ok (.iload_n 2, 1) := by decide +kernel
theorem dX6_readOrder_99 : decode cX6_readOrder 99 = .ok (.iastore, 1) := by decide +kernel
theorem dX6_readOrder_100 : decode cX6_readOrder 100 = .ok (.aload_n 0, 1) := by decide +kernel
theorem dX6_readOrder_101 : decode cX6_readOrder 101 = .ok (.getfield 12, 3) := by decide +kernel
theorem dX6_readOrder_104 : decode cX6_readOrder 104 = .ok (.getfield 142, 3) := by decide +kernel
theorem dX6_readOrder_107 : decode cX6_readOrder 107 = .ok (.iload_n 1, 1) := by decide +kernel
theorem dX6_readOrder_108 : decode cX6_readOrder 108 = .ok (.iload_n 3, 1) := by decide +kernel
theorem dX6_readOrder_109 : decode cX6_readOrder 109 = .ok (.iastore, 1) := by decide +kernel
theorem dX6_readOrder_110 : decode cX6_readOrder 110 = .ok (.aload_n 0, 1) := by decide +kernel
theorem dX6_readOrder_111 : decode cX6_readOrder 111 = .ok (.getfield 12, 3) := by decide +kernel
theorem dX6_readOrder_114 : decode cX6_readOrder 114 = .ok (.getfield 145, 3) := by decide +kernel
theorem dX6_readOrder_117 : decode cX6_readOrder 117 = .ok (.iload_n 1, 1) := by decide +kernel
theorem dX6_readOrder_118 : decode cX6_readOrder 118 = .ok (.iload 4, 2) := by decide +kernel
theorem dX6_readOrder_120 : decode cX6_readOrder 120 = .ok (.iastore, 1) := by decide +kernel
theorem dX6_readOrder_121 : decode cX6_readOrder 121 = .ok (.aload_n 0, 1) := by decide +kernel
theorem dX6_readOrder_122 : decode cX6_readOrder 122 = .ok (.getfield 12, 3) := by decide +kernel
theorem dX6_readOrder_125 : decode cX6_readOrder 125 = .ok (.dup, 1) := by decide +kernel
theorem dX6_readOrder_126 : decode cX6_readOrder 126 = .ok (.getfield 136, 3) := by decide +kernel
theorem dX6_readOrder_129 : decode cX6_readOrder 129 = .ok (.iconst 1, 1) := by decide +kernel
theorem dX6_readOrder_130 : decode cX6_readOrder 130 = .ok (.iadd, 1) := by decide +kernel
theorem dX6_readOrder_131 : decode cX6_readOrder 131 = .ok (.putfield 136, 3) := by decide +kernel
theorem dX6_readOrder_134 : decode cX6_readOrder 134 = .ok (.iconst 1, 1) := by decide +kernel
theorem dX6_readOrder_135 : decode cX6_readOrder 135 = .ok (.ireturn, 1) := by decide +kernel
theorem dX6_readRule_0 : decode cX6_readRule 0 = .ok (.aload_n 0, 1) := by decide +kernel
theorem dX6_readRule_1 : decode cX6_readRule 1 = .ok (.getfield 38, 3) := by decide +kernel
theorem dX6_readRule_4 : decode cX6_readRule 4 = .ok (.ifCond .eq 9, 3) := by decide +kernel
theorem dX6_readRule_7 : decode cX6_readRule 7 = .ok (.aload_n 0, 1) := by decide +kernel
theorem dX6_readRule_8 : decode cX6_readRule 8 = .ok (.iconst 3, 1) := by decide +kernel
theorem dX6_readRule_9 : decode cX6_readRule 9 = .ok (.invokevirtual 59, 3) := by decide +kernel
theorem dX6_readRule_12 : decode cX6_readRule 12 = .ok (.ireturn, 1) := by decide +kernel
theorem dX6_readRule_13 : decode cX6_readRule 13 = .ok (.aload_n 0, 1) := by decide +kernel
theorem dX6_readRule_14 : decode cX6_readRule 14 = .ok (.iconst 1, 1) := by decide +kernel
theorem dX6_readRule_15 : decode cX6_readRule 15 = .ok (.putfield 38, 3) := by decide +kernel
theorem dX6_readRule_18 : decode cX6_readRule 18 = .ok (.aload_n 0, 1) := by decide +kernel
theorem dX6_readRule_19 : decode cX6_readRule 19 = .ok (.invokevirtual 62, 3) := by decide +kernel
theorem dX6_readRule_22 : decode cX6_readRule 22 = .ok (.aload_n 0, 1) := by decide +kernel
theorem dX6_readRule_23 : decode cX6_readRule 23 = .ok (.bipush 9, 2) := by decide +kernel
theorem dX6_readRule_25 : decode cX6_readRule 25 = .ok (.invokevirtual 118, 3) := by decide +kernel
theorem dX6_readRule_28 : decode cX6_readRule 28 = .ok (.ifCond .eq 17, 3) := by decide +kernel
theorem dX6_readRule_31 : decode cX6_readRule 31 = .ok (.aload_n 0, 1) := by decide +kernel
theorem dX6_readRule_32 : decode cX6_readRule 32 = .ok (.getfield 12, 3) := by decide +kernel
theorem dX6_readRule_35 : decode cX6_readRule 35 = .ok (.getfield 103, 3) := by decide +kernel
theorem dX6_readRule_38 : decode cX6_readRule 38 = .ok (.iconst 0, 1) := by decide +kernel
theorem dX6_readRule_39 : decode cX6_readRule 39 = .ok (.putfield 148, 3) := by decide +kernel
theorem dX6_readRule_42 : decode cX6_readRule 42 = .ok (.goto 55, 3) := by decide +kernel
theorem dX6_readRule_45 : decode cX6_readRule 45 = .ok (.aload_n 0, 1) := by decide +kernel
theorem dX6_readRule_46 : decode cX6_readRule 46 = .ok (.bipush 10, 2) := by decide +kernel
theorem dX6_readRule_48 : decode cX6_readRule 48 = .ok (.invokevirtual 118, 3) := by decide +kernel
theorem dX6_readRule_51 : decode cX6_readRule 51 = .ok (.ifCond .eq 17, 3) := by decide +kernel
theorem dX6_readRule_54 : decode cX6_readRule 54 = .ok (.aload_n 0, 1) := by decide +kernel
theorem dX6_readRule_55 : decode cX6_readRule 55 = .ok (.getfield 12, 3) := by decide +kernel
theorem dX6_readRule_58 : decode cX6_readRule 58 = .ok (.getfield 103, 3) := by decide +kernel
theorem dX6_readRule_61 : decode cX6_readRule 61 = .ok (.iconst 1, 1) := by decide +kernel
theorem dX6_readRule_62 : decode cX6_readRule 62 = .ok (.putfield 148, 3) := by decide +kernel
theorem dX6_readRule_65 : decode cX6_readRule 65 = .ok (.goto 32, 3) := by decide +kernel
theorem dX6_readRule_68 : decode cX6_readRule 68 = .ok (.aload_n 0, 1) := by decide +kernel
theorem dX6_readRule_69 : decode cX6_readRule 69 = .ok (.bipush 11, 2) := by decide +kernel
theorem dX6_readRule_71 : decode cX6_readRule 71 = .ok (.invokevirtual 118, 3) := by decide +kernel
theorem dX6_readRule_74 : decode cX6_readRule 74 = .ok (.ifCond .eq 17, 3) := by decide +kernel
theorem dX6_readRule_77 : decode cX6_readRule 77 = .ok (.aload_n 0, 1) := by decide +kernel
theorem dX6_readRule_78 : decode cX6_readRule 78 = .ok (.getfield 12, 3) := by decide +kernel
theorem dX6_readRule_81 : decode cX6_readRule 81 = .ok (.getfield 103, 3) := by decide +kernel
theorem dX6_readRule_84 : decode cX6_readRule 84 = .ok (.iconst 2, 1) := by decide +kernel
theorem dX6_readRule_85 : decode cX6_readRule 85 = .ok (.putfield 148, 3) := by decide +kernel
theorem dX6_readRule_88 : decode cX6_readRule 88 = .ok (.goto 9, 3) := by decide +kernel
theorem dX6_readRule_91 : decode cX6_readRule 91 = .ok (.aload_n 0, 1) := by decide +kernel
theorem dX6_readRule_92 : decode cX6_readRule 92 = .ok (.iconst 1, 1) := by decide +kernel
theorem dX6_readRule_93 : decode cX6_readRule 93 = .ok (.invokevirtual 59, 3) := by decide +kernel
theorem dX6_readRule_96 : decode cX6_readRule 96 = .ok (.ireturn, 1) := by decide +kernel
theorem dX6_readRule_97 : decode cX6_readRule 97 = .ok (.aload_n 0, 1) := by decide +kernel
theorem dX6_readRule_98 : decode cX6_readRule 98 = .ok (.invokevirtual 62, 3) := by decide +kernel
theorem dX6_readRule_101 : decode cX6_readRule 101 = .ok (.iconst 1, 1) := by decide +kernel
theorem dX6_readRule_102 : decode cX6_readRule 102 = .ok (.ireturn, 1) := by decide +kernel
theorem dX6_readNewName_0 : decode cX6_readNewName 0 = .ok (.aload_n 0, 1) := by decide +kernel
theorem dX6_readNewName_1 : decode cX6_readNewName 1 = .ok (.bipush 12, 2) := by decide +kernel
theorem dX6_readNewName_3 : decode cX6_readNewName 3 = .ok (.invokevirtual 118, 3) := by decide +kernel
theorem dX6_readNewName_6 : decode cX6_readNewName 6 = .ok (.ifCond .ne 9, 3) := by decide +kernel
theorem dX6_readNewName_9 : decode cX6_readNewName 9 = .ok (.aload_n 0, 1) := by decide +kernel
theorem dX6_readNewName_10 : decode cX6_readNewName 10 = .ok (.iconst 1, 1) := by decide +kernel
theorem dX6_readNewName_11 : decode cX6_readNewName 11 = .ok (.invokevirtual 59, 3) := by decide +kernel
theorem dX6_readNewName_14 : decode cX6_readNewName 14 = .ok (.ireturn, 1) := by decide +kernel
theorem dX6_readNewName_15 : decode cX6_readNewName 15 = .ok (.aload_n 0, 1) := by decide +kernel
theorem dX6_readNewName_16 : decode cX6_readNewName 16 = .ok (.iconst 0, 1) := by decide +kernel
theorem dX6_readNewName_17 : decode cX6_readNewName 17 = .ok (.aload_n 0, 1) := by decide +kernel
theorem dX6_readNewName_18 : decode cX6_readNewName 18 = .ok (.getfield 12, 3) := by decide +kernel
theorem dX6_readNewName_21 : decode cX6_readNewName 21 = .ok (.getfield 53, 3) := by decide +kernel
theorem dX6_readNewName_24 : decode cX6_readNewName 24 = .ok (.invokevirtual 151, 3) := by decide +kernel
theorem dX6_readNewName_27 : decode cX6_readNewName 27 = .ok (.ifCond .ge 18, 3) := by decide +kernel
theorem dX6_readNewName_30 : decode cX6_readNewName 30 = .ok (.aload_n 0, 1) := by decide +kernel
theorem dX6_readNewName_31 : decode cX6_readNewName 31 = .ok (.iconst 3, 1) := by decide +kernel
theorem dX6_readNewName_32 : decode cX6_readNewName 32 = .ok (.aload_n 0, 1) := by decide +kernel
theorem dX6_readNewName_33 : decode cX6_readNewName 33 = .ok (.getfield 12, 3) := by decide +kernel
theorem dX6_readNewName_36 : decode cX6_readNewName 36 = .ok (.getfield 56, 3) := by decide +kernel
theorem dX6_readNewName_39 : decode cX6_readNewName 39 = .ok (.invokevirtual 151, 3) := by decide +kernel
theorem dX6_readNewName_42 : decode cX6_readNewName 42 = .ok (.ifCond .lt 9, 3) := by decide +kernel
theorem dX6_readNewName_45 : decode cX6_readNewName 45 = .ok (.aload_n 0, 1) := by decide +kernel
theorem dX6_readNewName_46 : decode cX6_readNewName 46 = .ok (.iconst 3, 1) := by decide +kernel
theorem dX6_readNewName_47 : decode cX6_readNewName 47 = .ok (.invokevirtual 59, 3) := by decide +kernel
theorem dX6_readNewName_50 : decode cX6_readNewName 50 = .ok (.ireturn, 1) := by decide +kernel
theorem dX6_readNewName_51 : decode cX6_readNewName 51 = .ok (.aload_n 0, 1) := by decide +kernel
theorem dX6_readNewName_52 : decode cX6_readNewName 52 = .ok (.getfield 23, 3) := by decide +kernel
theorem dX6_readNewName_55 : decode cX6_readNewName 55 = .ok (.getfield 154, 3) := by decide +kernel
theorem dX6_readNewName_58 : decode cX6_readNewName 58 = .ok (.aload_n 0, 1) := by decide +kernel
theorem dX6_readNewName_59 : decode cX6_readNewName 59 = .ok (.getfield 31, 3) := by decide +kernel
theorem dX6_readNewName_62 : decode cX6_readNewName 62 = .ok (.iaload, 1) := by decide +kernel
theorem dX6_readNewName_63 : decode cX6_readNewName 63 = .ok (.bipush 6, 2) := by decide +kernel
theorem dX6_readNewName_65 : decode cX6_readNewName 65 = .ok (.invokestatic 157, 3) := by decide +kernel
theorem dX6_readNewName_68 : decode cX6_readNewName 68 = .ok (.istore_n 2, 1) := by decide +kernel
theorem dX6_readNewName_69 : decode cX6_readNewName 69 = .ok (.aload_n 0, 1) := by decide +kernel
theorem dX6_readNewName_70 : decode cX6_readNewName 70 = .ok (.getfield 12, 3) := by decide +kernel
theorem dX6_readNewName_73 : decode cX6_readNewName 73 = .ok (.getfield 162, 3) := by decide +kernel
theorem dX6_readNewName_76 : decode cX6_readNewName 76 = .ok (.iload_n 1, 1) := by decide +kernel
theorem dX6_readNewName_77 : decode cX6_readNewName 77 = .ok (.iload_n 2, 1) := by decide +kernel
theorem dX6_readNewName_78 : decode cX6_readNewName 78 = .ok (.iastore, 1) := by decide +kernel
theorem dX6_readNewName_79 : decode cX6_readNewName 79 = .ok (.iconst 0, 1) := by decide +kernel
theorem dX6_readNewName_80 : decode cX6_readNewName 80 = .ok (.istore_n 3, 1) := by decide +kernel
theorem dX6_readNewName_81 : decode cX6_readNewName 81 = .ok (.iload_n 3, 1) := by decide +kernel
theorem dX6_readNewName_82 : decode cX6_readNewName 82 = .ok (.iload_n 2, 1) := by decide +kernel
theorem dX6_readNewName_83 : decode cX6_readNewName 83 = .ok (.if_icmp .ge 35, 3) := by decide +kernel
theorem dX6_readNewName_86 : decode cX6_readNewName 86 = .ok (.aload_n 0, 1) := by decide +kernel
theorem dX6_readNewName_87 : decode cX6_readNewName 87 = .ok (.getfield 12, 3) := by decide +kernel
theorem dX6_readNewName_90 : decode cX6_readNewName 90 = .ok (.getfield 165, 3) := by decide +kernel
theorem dX6_readNewName_93 : decode cX6_readNewName 93 = .ok (.bipush 6, 2) := by decide +kernel
theorem dX6_readNewName_95 : decode cX6_readNewName 95 = .ok (.iload_n 1, 1) := by decide +kernel
theorem dX6_readNewName_96 : decode cX6_readNewName 96 = .ok (.imul, 1) := by decide +kernel
theorem dX6_readNewName_97 : decode cX6_readNewName 97 = .ok (.iload_n 3, 1) := by decide +kernel
theorem dX6_readNewName_98 : decode cX6_readNewName 98 = .ok (.iadd, 1) := by decide +kernel
theorem dX6_readNewName_99 : decode cX6_readNewName 99 = .ok (.aload_n 0, 1) := by decide +kernel
theorem dX6_readNewName_100 : decode cX6_readNewName 100 = .ok (.getfield 23, 3) := by decide +kernel
theorem dX6_readNewName_103 : decode cX6_readNewName 103 = .ok (.aload_n 0, 1) := by decide +kernel
theorem dX6_readNewName_104 : decode cX6_readNewName 104 = .ok (.getfield 31, 3) := by decide +kernel
theorem dX6_readNewName_107 : decode cX6_readNewName 107 = .ok (.iload_n 3, 1) := by decide +kernel
theorem dX6_readNewName_108 : decode cX6_readNewName 108 = .ok (.invokevirtual 168, 3) := by decide +kernel
theorem dX6_readNewName_111 : decode cX6_readNewName 111 = .ok (.iastore, 1) := by decide +kernel
theorem dX6_readNewName_112 : decode cX6_readNewName 112 = .ok (.iinc 3 1, 3) := by decide +kernel
theorem dX6_readNewName_115 : decode cX6_readNewName 115 = .ok (.goto (-34), 3) := by decide +kernel
theorem dX6_readNewName_118 : decode cX6_readNewName 118 = .ok (.aload_n 0, 1) := by decide +kernel
theorem dX6_readNewName_119 : decode cX6_readNewName 119 = .ok (.invokevirtual 62, 3) := by decide +kernel
theorem dX6_readNewName_122 : decode cX6_readNewName 122 = .ok (.iconst 1, 1) := by decide +kernel
theorem dX6_readNewName_123 : decode cX6_readNewName 123 = .ok (.ireturn, 1) := by decide +kernel
theorem dX6_readOldName_0 : decode cX6_readOldName 0 = .ok (.aload_n 0, 1) := by decide +kernel
theorem dX6_readOldName_1 : decode cX6_readOldName 1 = .ok (.bipush 12, 2) := by decide +kernel
theorem dX6_readOldName_3 : decode cX6_readOldName 3 = .ok (.invokevirtual 118, 3) := by decide +kernel
theorem dX6_readOldName_6 : decode cX6_readOldName 6 = .ok (.ifCond .ne 11, 3) := by decide +kernel
theorem dX6_readOldName_9 : decode cX6_readOldName 9 = .ok (.aload_n 0, 1) := by decide +kernel
theorem dX6_readOldName_10 : decode cX6_readOldName 10 = .ok (.iconst 1, 1) := by decide +kernel
theorem dX6_readOldName_11 : decode cX6_readOldName 11 = .ok (.invokevirtual 59, 3) := by decide +kernel
theorem dX6_readOldName_14 : decode cX6_readOldName 14 = .ok (.pop, 1) := by decide +kernel
theorem dX6_readOldName_15 : decode cX6_readOldName 15 = .ok (.iconst (-1), 1) := by decide +kernel
theorem dX6_readOldName_16 : decode cX6_readOldName 16 = .ok (.ireturn, 1) := by decide +kernel
theorem dX6_readOldName_17 : decode cX6_readOldName 17 = .ok (.aload_n 0, 1) := by decide +kernel
theorem dX6_readOldName_18 : decode cX6_readOldName 18 = .ok (.iload_n 1, 1) := by decide +kernel
theorem dX6_readOldName_19 : decode cX6_readOldName 19 = .ok (.iload_n 2, 1) := by decide +kernel
theorem dX6_readOldName_20 : decode cX6_readOldName 20 = .ok (.invokevirtual 151, 3) := by decide +kernel
theorem dX6_readOldName_23 : decode cX6_readOldName 23 = .ok (.istore_n 3, 1) := by decide +kernel
theorem dX6_readOldName_24 : decode cX6_readOldName 24 = .ok (.iload_n 3, 1) := by decide +kernel
theorem dX6_readOldName_25 : decode cX6_readOldName 25 = .ok (.ifCond .ge 11, 3) := by decide +kernel
theorem dX6_readOldName_28 : decode cX6_readOldName 28 = .ok (.aload_n 0, 1) := by decide +kernel
theorem dX6_readOldName_29 : decode cX6_readOldName 29 = .ok (.iconst 3, 1) := by decide +kernel
theorem dX6_readOldName_30 : decode cX6_readOldName 30 = .ok (.invokevirtual 59, 3) := by decide +kernel
theorem dX6_readOldName_33 : decode cX6_readOldName 33 = .ok (.pop, 1) := by decide +kernel
theorem dX6_readOldName_34 : decode cX6_readOldName 34 = .ok (.iconst (-1), 1) := by decide +kernel
theorem dX6_readOldName_35 : decode cX6_readOldName 35 = .ok (.ireturn, 1) := by decide +kernel
theorem dX6_readOldName_36 : decode cX6_readOldName 36 = .ok (.aload_n 0, 1) := by decide +kernel
theorem dX6_readOldName_37 : decode cX6_readOldName 37 = .ok (.invokevirtual 62, 3) := by decide +kernel
theorem dX6_readOldName_40 : decode cX6_readOldName 40 = .ok (.iload_n 3, 1) := by decide +kernel
theorem dX6_readOldName_41 : decode cX6_readOldName 41 = .ok (.ireturn, 1) := by decide +kernel
theorem dX6_placeOfName_0 : decode cX6_placeOfName 0 = .ok (.iconst 0, 1) := by decide +kernel
theorem dX6_placeOfName_1 : decode cX6_placeOfName 1 = .ok (.istore_n 3, 1) := by decide +kernel
theorem dX6_placeOfName_2 : decode cX6_placeOfName 2 = .ok (.iload_n 3, 1) := by decide +kernel
theorem dX6_placeOfName_3 : decode cX6_placeOfName 3 = .ok (.iload_n 2, 1) := by decide +kernel
theorem dX6_placeOfName_4 : decode cX6_placeOfName 4 = .ok (.if_icmp .ge 21, 3) := by decide +kernel
theorem dX6_placeOfName_7 : decode cX6_placeOfName 7 = .ok (.aload_n 0, 1) := by decide +kernel
theorem dX6_placeOfName_8 : decode cX6_placeOfName 8 = .ok (.iload_n 1, 1) := by decide +kernel
theorem dX6_placeOfName_9 : decode cX6_placeOfName 9 = .ok (.iload_n 3, 1) := by decide +kernel
theorem dX6_placeOfName_10 : decode cX6_placeOfName 10 = .ok (.iadd, 1) := by decide +kernel
theorem dX6_placeOfName_11 : decode cX6_placeOfName 11 = .ok (.invokevirtual 171, 3) := by decide +kernel
theorem dX6_placeOfName_14 : decode cX6_placeOfName 14 = .ok (.ifCond .eq 5, 3) := by decide +kernel
theorem dX6_placeOfName_17 : decode cX6_placeOfName 17 = .ok (.iload_n 3, 1) := by decide +kernel
theorem dX6_placeOfName_18 : decode cX6_placeOfName 18 = .ok (.ireturn, 1) := by decide +kernel
theorem dX6_placeOfName_19 : decode cX6_placeOfName 19 = .ok (.iinc 3 1, 3) := by decide +kernel
theorem dX6_placeOfName_22 : decode cX6_placeOfName 22 = .ok (.goto (-20), 3) := by decide +kernel
theorem dX6_placeOfName_25 : decode cX6_placeOfName 25 = .ok (.iconst (-1), 1) := by decide +kernel
theorem dX6_placeOfName_26 : decode cX6_placeOfName 26 = .ok (.ireturn, 1) := by decide +kernel
theorem dX6_isNameIn_0 : decode cX6_isNameIn 0 = .ok (.aload_n 0, 1) := by decide +kernel
theorem dX6_isNameIn_1 : decode cX6_isNameIn 1 = .ok (.getfield 23, 3) := by decide +kernel
theorem dX6_isNameIn_4 : decode cX6_isNameIn 4 = .ok (.getfield 154, 3) := by decide +kernel
theorem dX6_isNameIn_7 : decode cX6_isNameIn 7 = .ok (.aload_n 0, 1) := by decide +kernel
theorem dX6_isNameIn_8 : decode cX6_isNameIn 8 = .ok (.getfield 31, 3) := by decide +kernel
theorem dX6_isNameIn_11 : decode cX6_isNameIn 11 = .ok (.iaload, 1) := by decide +kernel
theorem dX6_isNameIn_12 : decode cX6_isNameIn 12 = .ok (.istore_n 2, 1) := by decide +kernel
theorem dX6_isNameIn_13 : decode cX6_isNameIn 13 = .ok (.aload_n 0, 1) := by decide +kernel
theorem dX6_isNameIn_14 : decode cX6_isNameIn 14 = .ok (.getfield 12, 3) := by decide +kernel
theorem dX6_isNameIn_17 : decode cX6_isNameIn 17 = .ok (.getfield 162, 3) := by decide +kernel
theorem dX6_isNameIn_20 : decode cX6_isNameIn 20 = .ok (.iload_n 1, 1) := by decide +kernel
theorem dX6_isNameIn_21 : decode cX6_isNameIn 21 = .ok (.iaload, 1) := by decide +kernel
theorem dX6_isNameIn_22 : decode cX6_isNameIn 22 = .ok (.iload_n 2, 1) := by decide +kernel
theorem dX6_isNameIn_23 : decode cX6_isNameIn 23 = .ok (.if_icmp .eq 5, 3) := by decide +kernel
theorem dX6_isNameIn_26 : decode cX6_isNameIn 26 = .ok (.iconst 0, 1) := by decide +kernel
theorem dX6_isNameIn_27 : decode cX6_isNameIn 27 = .ok (.ireturn, 1) := by decide +kernel
theorem dX6_isNameIn_28 : decode cX6_isNameIn 28 = .ok (.iconst 0, 1) := by decide +kernel
theorem dX6_isNameIn_29 : decode cX6_isNameIn 29 = .ok (.istore_n 3, 1) := by decide +kernel
theorem dX6_isNameIn_30 : decode cX6_isNameIn 30 = .ok (.iload_n 3, 1) := by decide +kernel
theorem dX6_isNameIn_31 : decode cX6_isNameIn 31 = .ok (.iload_n 2, 1) := by decide +kernel
theorem dX6_isNameIn_32 : decode cX6_isNameIn 32 = .ok (.if_icmp .ge 40, 3) := by decide +kernel
theorem dX6_isNameIn_35 : decode cX6_isNameIn 35 = .ok (.aload_n 0, 1) := by decide +kernel
theorem dX6_isNameIn_36 : decode cX6_isNameIn 36 = .ok (.getfield 12, 3) := by decide +kernel
theorem dX6_isNameIn_39 : decode cX6_isNameIn 39 = .ok (.getfield 165, 3) := by decide +kernel
theorem dX6_isNameIn_42 : decode cX6_isNameIn 42 = .ok (.bipush 6, 2) := by decide +kernel
theorem dX6_isNameIn_44 : decode cX6_isNameIn 44 = .ok (.iload_n 1, 1) := by decide +kernel
theorem dX6_isNameIn_45 : decode cX6_isNameIn 45 = .ok (.imul, 1) := by decide +kernel
theorem dX6_isNameIn_46 : decode cX6_isNameIn 46 = .ok (.iload_n 3, 1) := by decide +kernel
theorem dX6_isNameIn_47 : decode cX6_isNameIn 47 = .ok (.iadd, 1) := by decide +kernel
theorem dX6_isNameIn_48 : decode cX6_isNameIn 48 = .ok (.iaload, 1) := by decide +kernel
theorem dX6_isNameIn_49 : decode cX6_isNameIn 49 = .ok (.aload_n 0, 1) := by decide +kernel
theorem dX6_isNameIn_50 : decode cX6_isNameIn 50 = .ok (.getfield 23, 3) := by decide +kernel
theorem dX6_isNameIn_53 : decode cX6_isNameIn 53 = .ok (.aload_n 0, 1) := by decide +kernel
theorem dX6_isNameIn_54 : decode cX6_isNameIn 54 = .ok (.getfield 31, 3) := by decide +kernel
theorem dX6_isNameIn_57 : decode cX6_isNameIn 57 = .ok (.iload_n 3, 1) := by decide +kernel
theorem dX6_isNameIn_58 : decode cX6_isNameIn 58 = .ok (.invokevirtual 168, 3) := by decide +kernel
theorem dX6_isNameIn_61 : decode cX6_isNameIn 61 = .ok (.if_icmp .eq 5, 3) := by decide +kernel
theorem dX6_isNameIn_64 : decode cX6_isNameIn 64 = .ok (.iconst 0, 1) := by decide +kernel
theorem dX6_isNameIn_65 : decode cX6_isNameIn 65 = .ok (.ireturn, 1) := by decide +kernel
theorem dX6_isNameIn_66 : decode cX6_isNameIn 66 = .ok (.iinc 3 1, 3) := by decide +kernel
theorem dX6_isNameIn_69 : decode cX6_isNameIn 69 = .ok (.goto (-39), 3) := by decide +kernel
theorem dX6_isNameIn_72 : decode cX6_isNameIn 72 = .ok (.iconst 1, 1) := by decide +kernel
theorem dX6_isNameIn_73 : decode cX6_isNameIn 73 = .ok (.ireturn, 1) := by decide +kernel
theorem dX6_readWord_0 : decode cX6_readWord 0 = .ok (.aload_n 0, 1) := by decide +kernel
theorem dX6_readWord_1 : decode cX6_readWord 1 = .ok (.iload_n 1, 1) := by decide +kernel
theorem dX6_readWord_2 : decode cX6_readWord 2 = .ok (.invokevirtual 118, 3) := by decide +kernel
theorem dX6_readWord_5 : decode cX6_readWord 5 = .ok (.ifCond .ne 9, 3) := by decide +kernel
theorem dX6_readWord_8 : decode cX6_readWord 8 = .ok (.aload_n 0, 1) := by decide +kernel
theorem dX6_readWord_9 : decode cX6_readWord 9 = .ok (.iconst 1, 1) := by decide +kernel
theorem dX6_readWord_10 : decode cX6_readWord 10 = .ok (.invokevirtual 59, 3) := by decide +kernel
theorem dX6_readWord_13 : decode cX6_readWord 13 = .ok (.ireturn, 1) := by decide +kernel
theorem dX6_readWord_14 : decode cX6_readWord 14 = .ok (.aload_n 0, 1) := by decide +kernel
theorem dX6_readWord_15 : decode cX6_readWord 15 = .ok (.invokevirtual 62, 3) := by decide +kernel
theorem dX6_readWord_18 : decode cX6_readWord 18 = .ok (.iconst 1, 1) := by decide +kernel
theorem dX6_readWord_19 : decode cX6_readWord 19 = .ok (.ireturn, 1) := by decide +kernel
theorem dX6_readWhole_0 : decode cX6_readWhole 0 = .ok (.aload_n 0, 1) := by decide +kernel
theorem dX6_readWhole_1 : decode cX6_readWhole 1 = .ok (.iconst 2, 1) := by decide +kernel
theorem dX6_readWhole_2 : decode cX6_readWhole 2 = .ok (.invokevirtual 49, 3) := by decide +kernel
theorem dX6_readWhole_5 : decode cX6_readWhole 5 = .ok (.ifCond .ne 11, 3) := by decide +kernel
theorem dX6_readWhole_8 : decode cX6_readWhole 8 = .ok (.aload_n 0, 1) := by decide +kernel
theorem dX6_readWhole_9 : decode cX6_readWhole 9 = .ok (.iconst 1, 1) := by decide +kernel
theorem dX6_readWhole_10 : decode cX6_readWhole 10 = .ok (.invokevirtual 59, 3) := by decide +kernel
theorem dX6_readWhole_13 : decode cX6_readWhole 13 = .ok (.pop, 1) := by decide +kernel
theorem dX6_readWhole_14 : decode cX6_readWhole 14 = .ok (.iconst (-1), 1) := by decide +kernel
theorem dX6_readWhole_15 : decode cX6_readWhole 15 = .ok (.ireturn, 1) := by decide +kernel
theorem dX6_readWhole_16 : decode cX6_readWhole 16 = .ok (.aload_n 0, 1) := by decide +kernel
theorem dX6_readWhole_17 : decode cX6_readWhole 17 = .ok (.getfield 23, 3) := by decide +kernel
theorem dX6_readWhole_20 : decode cX6_readWhole 20 = .ok (.getfield 69, 3) := by decide +kernel
theorem dX6_readWhole_23 : decode cX6_readWhole 23 = .ok (.aload_n 0, 1) := by decide +kernel
theorem dX6_readWhole_24 : decode cX6_readWhole 24 = .ok (.getfield 31, 3) := by decide +kernel
theorem dX6_readWhole_27 : decode cX6_readWhole 27 = .ok (.iaload, 1) := by decide +kernel
theorem dX6_readWhole_28 : decode cX6_readWhole 28 = .ok (.istore_n 3, 1) := by decide +kernel
theorem dX6_readWhole_29 : decode cX6_readWhole 29 = .ok (.iload_n 3, 1) := by decide +kernel
theorem dX6_readWhole_30 : decode cX6_readWhole 30 = .ok (.iload_n 1, 1) := by decide +kernel
theorem dX6_readWhole_31 : decode cX6_readWhole 31 = .ok (.if_icmp .lt 8, 3) := by decide +kernel
theorem dX6_readWhole_34 : decode cX6_readWhole 34 = .ok (.iload_n 3, 1) := by decide +kernel
theorem dX6_readWhole_35 : decode cX6_readWhole 35 = .ok (.iload_n 2, 1) := by decide +kernel
theorem dX6_readWhole_36 : decode cX6_readWhole 36 = .ok (.if_icmp .le 11, 3) := by decide +kernel
theorem dX6_readWhole_39 : decode cX6_readWhole 39 = .ok (.aload_n 0, 1) := by decide +kernel
theorem dX6_readWhole_40 : decode cX6_readWhole 40 = .ok (.iconst 2, 1) := by decide +kernel
theorem dX6_readWhole_41 : decode cX6_readWhole 41 = .ok (.invokevirtual 59, 3) := by decide +kernel
theorem dX6_readWhole_44 : decode cX6_readWhole 44 = .ok (.pop, 1) := by decide +kernel
theorem dX6_readWhole_45 : decode cX6_readWhole 45 = .ok (.iconst (-1), 1) := by decide +kernel
theorem dX6_readWhole_46 : decode cX6_readWhole 46 = .ok (.ireturn, 1) := by decide +kernel
theorem dX6_readWhole_47 : decode cX6_readWhole 47 = .ok (.aload_n 0, 1) := by decide +kernel
theorem dX6_readWhole_48 : decode cX6_readWhole 48 = .ok (.invokevirtual 62, 3) := by decide +kernel
theorem dX6_readWhole_51 : decode cX6_readWhole 51 = .ok (.iload_n 3, 1) := by decide +kernel
theorem dX6_readWhole_52 : decode cX6_readWhole 52 = .ok (.ireturn, 1) := by decide +kernel
theorem dX6_isSort_0 : decode cX6_isSort 0 = .ok (.aload_n 0, 1) := by decide +kernel
theorem dX6_isSort_1 : decode cX6_isSort 1 = .ok (.getfield 23, 3) := by decide +kernel
theorem dX6_isSort_4 : decode cX6_isSort 4 = .ok (.getfield 174, 3) := by decide +kernel
theorem dX6_isSort_7 : decode cX6_isSort 7 = .ok (.aload_n 0, 1) := by decide +kernel
theorem dX6_isSort_8 : decode cX6_isSort 8 = .ok (.getfield 31, 3) := by decide +kernel
theorem dX6_isSort_11 : decode cX6_isSort 11 = .ok (.iaload, 1) := by decide +kernel
theorem dX6_isSort_12 : decode cX6_isSort 12 = .ok (.iload_n 1, 1) := by decide +kernel
theorem dX6_isSort_13 : decode cX6_isSort 13 = .ok (.if_icmp .ne 7, 3) := by decide +kernel
theorem dX6_isSort_16 : decode cX6_isSort 16 = .ok (.iconst 1, 1) := by decide +kernel
theorem dX6_isSort_17 : decode cX6_isSort 17 = .ok (.goto 4, 3) := by decide +kernel
theorem dX6_isSort_20 : decode cX6_isSort 20 = .ok (.iconst 0, 1) := by decide +kernel
theorem dX6_isSort_21 : decode cX6_isSort 21 = .ok (.ireturn, 1) := by decide +kernel
theorem dX6_isWord_0 : decode cX6_isWord 0 = .ok (.aload_n 0, 1) := by decide +kernel
theorem dX6_isWord_1 : decode cX6_isWord 1 = .ok (.getfield 23, 3) := by decide +kernel
theorem dX6_isWord_4 : decode cX6_isWord 4 = .ok (.getfield 174, 3) := by decide +kernel
theorem dX6_isWord_7 : decode cX6_isWord 7 = .ok (.aload_n 0, 1) := by decide +kernel
theorem dX6_isWord_8 : decode cX6_isWord 8 = .ok (.getfield 31, 3) := by decide +kernel
theorem dX6_isWord_11 : decode cX6_isWord 11 = .ok (.iaload, 1) := by decide +kernel
theorem dX6_isWord_12 : decode cX6_isWord 12 = .ok (.iconst 1, 1) := by decide +kernel
theorem dX6_isWord_13 : decode cX6_isWord 13 = .ok (.if_icmp .ne 23, 3) := by decide +kernel
theorem dX6_isWord_16 : decode cX6_isWord 16 = .ok (.aload_n 0, 1) := by decide +kernel
theorem dX6_isWord_17 : decode cX6_isWord 17 = .ok (.getfield 23, 3) := by decide +kernel
theorem dX6_isWord_20 : decode cX6_isWord 20 = .ok (.getfield 69, 3) := by decide +kernel
theorem dX6_isWord_23 : decode cX6_isWord 23 = .ok (.aload_n 0, 1) := by decide +kernel
theorem dX6_isWord_24 : decode cX6_isWord 24 = .ok (.getfield 31, 3) := by decide +kernel
theorem dX6_isWord_27 : decode cX6_isWord 27 = .ok (.iaload, 1) := by decide +kernel
theorem dX6_isWord_28 : decode cX6_isWord 28 = .ok (.iload_n 1, 1) := by decide +kernel
theorem dX6_isWord_29 : decode cX6_isWord 29 = .ok (.if_icmp .ne 7, 3) := by decide +kernel
theorem dX6_isWord_32 : decode cX6_isWord 32 = .ok (.iconst 1, 1) := by decide +kernel
theorem dX6_isWord_33 : decode cX6_isWord 33 = .ok (.goto 4, 3) := by decide +kernel
theorem dX6_isWord_36 : decode cX6_isWord 36 = .ok (.iconst 0, 1) := by decide +kernel
theorem dX6_isWord_37 : decode cX6_isWord 37 = .ok (.ireturn, 1) := by decide +kernel
theorem dX6_blame_0 : decode cX6_blame 0 = .ok (.aload_n 0, 1) := by decide +kernel
theorem dX6_blame_1 : decode cX6_blame 1 = .ok (.iload_n 1, 1) := by decide +kernel
theorem dX6_blame_2 : decode cX6_blame 2 = .ok (.putfield 35, 3) := by decide +kernel
theorem dX6_blame_5 : decode cX6_blame 5 = .ok (.iconst 0, 1) := by decide +kernel
theorem dX6_blame_6 : decode cX6_blame 6 = .ok (.ireturn, 1) := by decide +kernel
theorem dX6_step_0 : decode cX6_step 0 = .ok (.aload_n 0, 1) := by decide +kernel
theorem dX6_step_1 : decode cX6_step 1 = .ok (.getfield 23, 3) := by decide +kernel
theorem dX6_step_4 : decode cX6_step 4 = .ok (.getfield 174, 3) := by decide +kernel
theorem dX6_step_7 : decode cX6_step 7 = .ok (.aload_n 0, 1) := by decide +kernel
theorem dX6_step_8 : decode cX6_step 8 = .ok (.getfield 31, 3) := by decide +kernel
theorem dX6_step_11 : decode cX6_step 11 = .ok (.iaload, 1) := by decide +kernel
theorem dX6_step_12 : decode cX6_step 12 = .ok (.ifCond .eq 23, 3) := by decide +kernel
theorem dX6_step_15 : decode cX6_step 15 = .ok (.aload_n 0, 1) := by decide +kernel
theorem dX6_step_16 : decode cX6_step 16 = .ok (.getfield 31, 3) := by decide +kernel
theorem dX6_step_19 : decode cX6_step 19 = .ok (.sipush 600, 3) := by decide +kernel
theorem dX6_step_22 : decode cX6_step 22 = .ok (.if_icmp .ge 13, 3) := by decide +kernel
theorem dX6_step_25 : decode cX6_step 25 = .ok (.aload_n 0, 1) := by decide +kernel
theorem dX6_step_26 : decode cX6_step 26 = .ok (.dup, 1) := by decide +kernel
theorem dX6_step_27 : decode cX6_step 27 = .ok (.getfield 31, 3) := by decide +kernel
theorem dX6_step_30 : decode cX6_step 30 = .ok (.iconst 1, 1) := by decide +kernel
theorem dX6_step_31 : decode cX6_step 31 = .ok (.iadd, 1) := by decide +kernel
theorem dX6_step_32 : decode cX6_step 32 = .ok (.putfield 31, 3) := by decide +kernel
theorem dX6_step_35 : decode cX6_step 35 = .ok (.return_, 1) := by decide +kernel
theorem dX7_scan_0 : decode cX7_scan 0 = .ok (.aload_n 0, 1) := by decide +kernel
theorem dX7_scan_1 : decode cX7_scan 1 = .ok (.iload_n 1, 1) := by decide +kernel
theorem dX7_scan_2 : decode cX7_scan 2 = .ok (.sipush 600, 3) := by decide +kernel
theorem dX7_scan_5 : decode cX7_scan 5 = .ok (.invokestatic 28, 3) := by decide +kernel
theorem dX7_scan_8 : decode cX7_scan 8 = .ok (.putfield 34, 3) := by decide +kernel
theorem dX7_scan_11 : decode cX7_scan 11 = .ok (.iconst 0, 1) := by decide +kernel
theorem dX7_scan_12 : decode cX7_scan 12 = .ok (.istore_n 2, 1) := by decide +kernel
theorem dX7_scan_13 : decode cX7_scan 13 = .ok (.iconst 0, 1) := by decide +kernel
theorem dX7_scan_14 : decode cX7_scan 14 = .ok (.istore_n 3, 1) := by decide +kernel
theorem dX7_scan_15 : decode cX7_scan 15 = .ok (.iload_n 3, 1) := by decide +kernel
theorem dX7_scan_16 : decode cX7_scan 16 = .ok (.aload_n 0, 1) := by decide +kernel
theorem dX7_scan_17 : decode cX7_scan 17 = .ok (.getfield 34, 3) := by decide +kernel
theorem dX7_scan_20 : decode cX7_scan 20 = .ok (.if_icmp .ge 45, 3) := by decide +kernel
theorem dX7_scan_23 : decode cX7_scan 23 = .ok (.aload_n 0, 1) := by decide +kernel
theorem dX7_scan_24 : decode cX7_scan 24 = .ok (.getfield 24, 3) := by decide +kernel
theorem dX7_scan_27 : decode cX7_scan 27 = .ok (.iload_n 3, 1) := by decide +kernel
theorem dX7_scan_28 : decode cX7_scan 28 = .ok (.baload, 1) := by decide +kernel
theorem dX7_scan_29 : decode cX7_scan 29 = .ok (.bipush 32, 2) := by decide +kernel
theorem dX7_scan_31 : decode cX7_scan 31 = .ok (.if_icmp .ne 9, 3) := by decide +kernel
theorem dX7_scan_34 : decode cX7_scan 34 = .ok (.iinc 3 1, 3) := by decide +kernel
theorem dX7_scan_37 : decode cX7_scan 37 = .ok (.goto (-22), 3) := by decide +kernel
theorem dX7_scan_40 : decode cX7_scan 40 = .ok (.aload_n 0, 1) := by decide +kernel
theorem dX7_scan_41 : decode cX7_scan 41 = .ok (.iload_n 2, 1) := by decide +kernel
theorem dX7_scan_42 : decode cX7_scan 42 = .ok (.iload_n 3, 1) := by decide +kernel
theorem dX7_scan_43 : decode cX7_scan 43 = .ok (.invokevirtual 38, 3) := by decide +kernel
theorem dX7_scan_46 : decode cX7_scan 46 = .ok (.iload_n 3, 1) := by decide +kernel
theorem dX7_scan_47 : decode cX7_scan 47 = .ok (.iconst 1, 1) := by decide +kernel
theorem dX7_scan_48 : decode cX7_scan 48 = .ok (.aload_n 0, 1) := by decide +kernel
theorem dX7_scan_49 : decode cX7_scan 49 = .ok (.getfield 18, 3) := by decide +kernel
theorem dX7_scan_52 : decode cX7_scan 52 = .ok (.iload_n 2, 1) := by decide +kernel
theorem dX7_scan_53 : decode cX7_scan 53 = .ok (.iaload, 1) := by decide +kernel
theorem dX7_scan_54 : decode cX7_scan 54 = .ok (.invokestatic 42, 3) := by decide +kernel
theorem dX7_scan_57 : decode cX7_scan 57 = .ok (.iadd, 1) := by decide +kernel
theorem dX7_scan_58 : decode cX7_scan 58 = .ok (.istore_n 3, 1) := by decide +kernel
theorem dX7_scan_59 : decode cX7_scan 59 = .ok (.iinc 2 1, 3) := by decide +kernel
theorem dX7_scan_62 : decode cX7_scan 62 = .ok (.goto (-47), 3) := by decide +kernel
theorem dX7_scan_65 : decode cX7_scan 65 = .ok (.aload_n 0, 1) := by decide +kernel
theorem dX7_scan_66 : decode cX7_scan 66 = .ok (.getfield 9, 3) := by decide +kernel
theorem dX7_scan_69 : decode cX7_scan 69 = .ok (.iload_n 2, 1) := by decide +kernel
theorem dX7_scan_70 : decode cX7_scan 70 = .ok (.iconst 0, 1) := by decide +kernel
theorem dX7_scan_71 : decode cX7_scan 71 = .ok (.iastore, 1) := by decide +kernel
theorem dX7_scan_72 : decode cX7_scan 72 = .ok (.aload_n 0, 1) := by decide +kernel
theorem dX7_scan_73 : decode cX7_scan 73 = .ok (.getfield 15, 3) := by decide +kernel
theorem dX7_scan_76 : decode cX7_scan 76 = .ok (.iload_n 2, 1) := by decide +kernel
theorem dX7_scan_77 : decode cX7_scan 77 = .ok (.aload_n 0, 1) := by decide +kernel
theorem dX7_scan_78 : decode cX7_scan 78 = .ok (.getfield 34, 3) := by decide +kernel
theorem dX7_scan_81 : decode cX7_scan 81 = .ok (.iastore, 1) := by decide +kernel
theorem dX7_scan_82 : decode cX7_scan 82 = .ok (.return_, 1) := by decide +kernel
theorem dX7_scanToken_0 : decode cX7_scanToken 0 = .ok (.aload_n 0, 1) := by decide +kernel
theorem dX7_scanToken_1 : decode cX7_scanToken 1 = .ok (.getfield 15, 3) := by decide +kernel
theorem dX7_scanToken_4 : decode cX7_scanToken 4 = .ok (.iload_n 1, 1) := by decide +kernel
theorem dX7_scanToken_5 : decode cX7_scanToken 5 = .ok (.iload_n 2, 1) := by decide +kernel
theorem dX7_scanToken_6 : decode cX7_scanToken 6 = .ok (.iastore, 1) := by decide +kernel
theorem dX7_scanToken_7 : decode cX7_scanToken 7 = .ok (.aload_n 0, 1) := by decide +kernel
theorem dX7_scanToken_8 : decode cX7_scanToken 8 = .ok (.iload_n 2, 1) := by decide +kernel
theorem dX7_scanToken_9 : decode cX7_scanToken 9 = .ok (.invokevirtual 45, 3) := by decide +kernel
theorem dX7_scanToken_12 : decode cX7_scanToken 12 = .ok (.ifCond .eq 12, 3) := by decide +kernel
theorem dX7_scanToken_15 : decode cX7_scanToken 15 = .ok (.aload_n 0, 1) := by decide +kernel
theorem dX7_scanToken_16 : decode cX7_scanToken 16 = .ok (.iload_n 1, 1) := by decide +kernel
theorem dX7_scanToken_17 : decode cX7_scanToken 17 = .ok (.iload_n 2, 1) := by decide +kernel
theorem dX7_scanToken_18 : decode cX7_scanToken 18 = .ok (.invokevirtual 49, 3) := by decide +kernel
theorem dX7_scanToken_21 : decode cX7_scanToken 21 = .ok (.goto 64, 3) := by decide +kernel
theorem dX7_scanToken_24 : decode cX7_scanToken 24 = .ok (.aload_n 0, 1) := by decide +kernel
theorem dX7_scanToken_25 : decode cX7_scanToken 25 = .ok (.iload_n 2, 1) := by decide +kernel
theorem dX7_scanToken_26 : decode cX7_scanToken 26 = .ok (.invokevirtual 52, 3) := by decide +kernel
theorem dX7_scanToken_29 : decode cX7_scanToken 29 = .ok (.ifCond .eq 12, 3) := by decide +kernel
theorem dX7_scanToken_32 : decode cX7_scanToken 32 = .ok (.aload_n 0, 1) := by decide +kernel
theorem dX7_scanToken_33 : decode cX7_scanToken 33 = .ok (.iload_n 1, 1) := by decide +kernel
theorem dX7_scanToken_34 : decode cX7_scanToken 34 = .ok (.iload_n 2, 1) := by decide +kernel
theorem dX7_scanToken_35 : decode cX7_scanToken 35 = .ok (.invokevirtual 55, 3) := by decide +kernel
theorem dX7_scanToken_38 : decode cX7_scanToken 38 = .ok (.goto 47, 3) := by decide +kernel
theorem dX7_scanToken_41 : decode cX7_scanToken 41 = .ok (.aload_n 0, 1) := by decide +kernel
theorem dX7_scanToken_42 : decode cX7_scanToken 42 = .ok (.getfield 9, 3) := by decide +kernel
theorem dX7_scanToken_45 : decode cX7_scanToken 45 = .ok (.iload_n 1, 1) := by decide +kernel
theorem dX7_scanToken_46 : decode cX7_scanToken 46 = .ok (.aload_n 0, 1) := by decide +kernel
theorem dX7_scanToken_47 : decode cX7_scanToken 47 = .ok (.getfield 24, 3) := by decide +kernel
theorem dX7_scanToken_50 : decode cX7_scanToken 50 = .ok (.iload_n 2, 1) := by decide +kernel
theorem dX7_scanToken_51 : decode cX7_scanToken 51 = .ok (.baload, 1) := by decide +kernel
theorem dX7_scanToken_52 : decode cX7_scanToken 52 = .ok (.bipush 59, 2) := by decide +kernel
theorem dX7_scanToken_54 : decode cX7_scanToken 54 = .ok (.if_icmp .ne 7, 3) := by decide +kernel
theorem dX7_scanToken_57 : decode cX7_scanToken 57 = .ok (.iconst 3, 1) := by decide +kernel
theorem dX7_scanToken_58 : decode cX7_scanToken 58 = .ok (.goto 19, 3) := by decide +kernel
theorem dX7_scanToken_61 : decode cX7_scanToken 61 = .ok (.aload_n 0, 1) := by decide +kernel
theorem dX7_scanToken_62 : decode cX7_scanToken 62 = .ok (.getfield 24, 3) := by decide +kernel
theorem dX7_scanToken_65 : decode cX7_scanToken 65 = .ok (.iload_n 2, 1) := by decide +kernel
theorem dX7_scanToken_66 : decode cX7_scanToken 66 = .ok (.baload, 1) := by decide +kernel
theorem dX7_scanToken_67 : decode cX7_scanToken 67 = .ok (.bipush 44, 2) := by decide +kernel
theorem dX7_scanToken_69 : decode cX7_scanToken 69 = .ok (.if_icmp .ne 7, 3) := by decide +kernel
theorem dX7_scanToken_72 : decode cX7_scanToken 72 = .ok (.iconst 4, 1) := by decide +kernel
theorem dX7_scanToken_73 : decode cX7_scanToken 73 = .ok (.goto 4, 3) := by decide +kernel
theorem dX7_scanToken_76 : decode cX7_scanToken 76 = .ok (.iconst 5, 1) := by decide +kernel
theorem dX7_scanToken_77 : decode cX7_scanToken 77 = .ok (.iastore, 1) := by decide +kernel
theorem dX7_scanToken_78 : decode cX7_scanToken 78 = .ok (.aload_n 0, 1) := by decide +kernel
theorem dX7_scanToken_79 : decode cX7_scanToken 79 = .ok (.getfield 18, 3) := by decide +kernel
theorem dX7_scanToken_82 : decode cX7_scanToken 82 = .ok (.iload_n 1, 1) := by decide +kernel
theorem dX7_scanToken_83 : decode cX7_scanToken 83 = .ok (.iconst 1, 1) := by decide +kernel
theorem dX7_scanToken_84 : decode cX7_scanToken 84 = .ok (.iastore, 1) := by decide +kernel
theorem dX7_scanToken_85 : decode cX7_scanToken 85 = .ok (.return_, 1) := by decide +kernel
theorem dX7_scanWord_0 : decode cX7_scanWord 0 = .ok (.iload_n 2, 1) := by decide +kernel
theorem dX7_scanWord_1 : decode cX7_scanWord 1 = .ok (.istore_n 3, 1) := by decide +kernel
theorem dX7_scanWord_2 : decode cX7_scanWord 2 = .ok (.iload_n 3, 1) := by decide +kernel
theorem dX7_scanWord_3 : decode cX7_scanWord 3 = .ok (.aload_n 0, 1) := by decide +kernel
theorem dX7_scanWord_4 : decode cX7_scanWord 4 = .ok (.getfield 34, 3) := by decide +kernel
theorem dX7_scanWord_7 : decode cX7_scanWord 7 = .ok (.if_icmp .ge 17, 3) := by decide +kernel
theorem dX7_scanWord_10 : decode cX7_scanWord 10 = .ok (.aload_n 0, 1) := by decide +kernel
theorem dX7_scanWord_11 : decode cX7_scanWord 11 = .ok (.iload_n 3, 1) := by decide +kernel
theorem dX7_scanWord_12 : decode cX7_scanWord 12 = .ok (.invokevirtual 45, 3) := by decide +kernel
theorem dX7_scanWord_15 : decode cX7_scanWord 15 = .ok (.ifCond .eq 9, 3) := by decide +kernel
theorem dX7_scanWord_18 : decode cX7_scanWord 18 = .ok (.iinc 3 1, 3) := by decide +kernel
theorem dX7_scanWord_21 : decode cX7_scanWord 21 = .ok (.goto (-19), 3) := by decide +kernel
theorem dX7_scanWord_24 : decode cX7_scanWord 24 = .ok (.aload_n 0, 1) := by decide +kernel
theorem dX7_scanWord_25 : decode cX7_scanWord 25 = .ok (.getfield 18, 3) := by decide +kernel
theorem dX7_scanWord_28 : decode cX7_scanWord 28 = .ok (.iload_n 1, 1) := by decide +kernel
theorem dX7_scanWord_29 : decode cX7_scanWord 29 = .ok (.iload_n 3, 1) := by decide +kernel
theorem dX7_scanWord_30 : decode cX7_scanWord 30 = .ok (.iload_n 2, 1) := by decide +kernel
theorem dX7_scanWord_31 : decode cX7_scanWord 31 = .ok (.isub, 1) := by decide +kernel
theorem dX7_scanWord_32 : decode cX7_scanWord 32 = .ok (.iastore, 1) := by decide +kernel
theorem dX7_scanWord_33 : decode cX7_scanWord 33 = .ok (.aload_n 0, 1) := by decide +kernel
theorem dX7_scanWord_34 : decode cX7_scanWord 34 = .ok (.getfield 9, 3) := by decide +kernel
theorem dX7_scanWord_37 : decode cX7_scanWord 37 = .ok (.iload_n 1, 1) := by decide +kernel
theorem dX7_scanWord_38 : decode cX7_scanWord 38 = .ok (.aload_n 0, 1) := by decide +kernel
theorem dX7_scanWord_39 : decode cX7_scanWord 39 = .ok (.getfield 18, 3) := by decide +kernel
theorem dX7_scanWord_42 : decode cX7_scanWord 42 = .ok (.iload_n 1, 1) := by decide +kernel
theorem dX7_scanWord_43 : decode cX7_scanWord 43 = .ok (.iaload, 1) := by decide +kernel
theorem dX7_scanWord_44 : decode cX7_scanWord 44 = .ok (.bipush 6, 2) := by decide +kernel
theorem dX7_scanWord_46 : decode cX7_scanWord 46 = .ok (.if_icmp .gt 7, 3) := by decide +kernel
theorem dX7_scanWord_49 : decode cX7_scanWord 49 = .ok (.iconst 1, 1) := by decide +kernel
theorem dX7_scanWord_50 : decode cX7_scanWord 50 = .ok (.goto 4, 3) := by decide +kernel
theorem dX7_scanWord_53 : decode cX7_scanWord 53 = .ok (.iconst 5, 1) := by decide +kernel
theorem dX7_scanWord_54 : decode cX7_scanWord 54 = .ok (.iastore, 1) := by decide +kernel
theorem dX7_scanWord_55 : decode cX7_scanWord 55 = .ok (.aload_n 0, 1) := by decide +kernel
theorem dX7_scanWord_56 : decode cX7_scanWord 56 = .ok (.getfield 21, 3) := by decide +kernel
theorem dX7_scanWord_59 : decode cX7_scanWord 59 = .ok (.iload_n 1, 1) := by decide +kernel
theorem dX7_scanWord_60 : decode cX7_scanWord 60 = .ok (.bipush 12, 2) := by decide +kernel
theorem dX7_scanWord_62 : decode cX7_scanWord 62 = .ok (.iastore, 1) := by decide +kernel
theorem dX7_scanWord_63 : decode cX7_scanWord 63 = .ok (.iconst 0, 1) := by decide +kernel
theorem dX7_scanWord_64 : decode cX7_scanWord 64 = .ok (.istore 4, 2) := by decide +kernel
theorem dX7_scanWord_66 : decode cX7_scanWord 66 = .ok (.iload 4, 2) := by decide +kernel
theorem dX7_scanWord_68 : decode cX7_scanWord 68 = .ok (.bipush 12, 2) := by decide +kernel
theorem dX7_scanWord_70 : decode cX7_scanWord 70 = .ok (.if_icmp .ge 36, 3) := by decide +kernel
theorem dX7_scanWord_73 : decode cX7_scanWord 73 = .ok (.aload_n 0, 1) := by decide +kernel
theorem dX7_scanWord_74 : decode cX7_scanWord 74 = .ok (.iload_n 2, 1) := by decide +kernel
theorem dX7_scanWord_75 : decode cX7_scanWord 75 = .ok (.aload_n 0, 1) := by decide +kernel
theorem dX7_scanWord_76 : decode cX7_scanWord 76 = .ok (.getfield 18, 3) := by decide +kernel
theorem dX7_scanWord_79 : decode cX7_scanWord 79 = .ok (.iload_n 1, 1) := by decide +kernel
theorem dX7_scanWord_80 : decode cX7_scanWord 80 = .ok (.iaload, 1) := by decide +kernel
theorem dX7_scanWord_81 : decode cX7_scanWord 81 = .ok (.bipush 6, 2) := by decide +kernel
theorem dX7_scanWord_83 : decode cX7_scanWord 83 = .ok (.iload 4, 2) := by decide +kernel
theorem dX7_scanWord_85 : decode cX7_scanWord 85 = .ok (.imul, 1) := by decide +kernel
theorem dX7_scanWord_86 : decode cX7_scanWord 86 = .ok (.invokevirtual 58, 3) := by decide +kernel
theorem dX7_scanWord_89 : decode cX7_scanWord 89 = .ok (.ifCond .eq 11, 3) := by decide +kernel
theorem dX7_scanWord_92 : decode cX7_scanWord 92 = .ok (.aload_n 0, 1) := by decide +kernel
theorem dX7_scanWord_93 : decode cX7_scanWord 93 = .ok (.getfield 21, 3) := by decide +kernel
theorem dX7_scanWord_96 : decode cX7_scanWord 96 = .ok (.iload_n 1, 1) := by decide +kernel
theorem dX7_scanWord_97 : decode cX7_scanWord 97 = .ok (.iload 4, 2) := by decide +kernel
theorem dX7_scanWord_99 : decode cX7_scanWord 99 = .ok (.iastore, 1) := by decide +kernel
theorem dX7_scanWord_100 : decode cX7_scanWord 100 = .ok (.iinc 4 1, 3) := by decide +kernel
theorem dX7_scanWord_103 : decode cX7_scanWord 103 = .ok (.goto (-37), 3) := by decide +kernel
theorem dX7_scanWord_106 : decode cX7_scanWord 106 = .ok (.return_, 1) := by decide +kernel
theorem dX7_scanWhole_0 : decode cX7_scanWhole 0 = .ok (.iload_n 2, 1) := by decide +kernel
theorem dX7_scanWhole_1 : decode cX7_scanWhole 1 = .ok (.istore_n 3, 1) := by decide +kernel
theorem dX7_scanWhole_2 : decode cX7_scanWhole 2 = .ok (.iconst 0, 1) := by decide +kernel
theorem dX7_scanWhole_3 : decode cX7_scanWhole 3 = .ok (.istore 4, 2) := by decide +kernel
theorem dX7_scanWhole_5 : decode cX7_scanWhole 5 = .ok (.iload_n 3, 1) := by decide +kernel
theorem dX7_scanWhole_6 : decode cX7_scanWhole 6 = .ok (.aload_n 0, 1) := by decide +kernel
theorem dX7_scanWhole_7 : decode cX7_scanWhole 7 = .ok (.getfield 34, 3) := by decide +kernel
theorem dX7_scanWhole_10 : decode cX7_scanWhole 10 = .ok (.if_icmp .ge 34, 3) := by decide +kernel
theorem dX7_scanWhole_13 : decode cX7_scanWhole 13 = .ok (.aload_n 0, 1) := by decide +kernel
theorem dX7_scanWhole_14 : decode cX7_scanWhole 14 = .ok (.iload_n 3, 1) := by decide +kernel
theorem dX7_scanWhole_15 : decode cX7_scanWhole 15 = .ok (.invokevirtual 52, 3) := by decide +kernel
theorem dX7_scanWhole_18 : decode cX7_scanWhole 18 = .ok (.ifCond .eq 26, 3) := by decide +kernel
theorem dX7_scanWhole_21 : decode cX7_scanWhole 21 = .ok (.bipush 10, 2) := by decide +kernel
theorem dX7_scanWhole_23 : decode cX7_scanWhole 23 = .ok (.iload 4, 2) := by decide +kernel
theorem dX7_scanWhole_25 : decode cX7_scanWhole 25 = .ok (.imul, 1) := by decide +kernel
theorem dX7_scanWhole_26 : decode cX7_scanWhole 26 = .ok (.aload_n 0, 1) := by decide +kernel
theorem dX7_scanWhole_27 : decode cX7_scanWhole 27 = .ok (.getfield 24, 3) := by decide +kernel
theorem dX7_scanWhole_30 : decode cX7_scanWhole 30 = .ok (.iload_n 3, 1) := by decide +kernel
theorem dX7_scanWhole_31 : decode cX7_scanWhole 31 = .ok (.baload, 1) := by decide +kernel
theorem dX7_scanWhole_32 : decode cX7_scanWhole 32 = .ok (.iadd, 1) := by decide +kernel
theorem dX7_scanWhole_33 : decode cX7_scanWhole 33 = .ok (.bipush 48, 2) := by decide +kernel
theorem dX7_scanWhole_35 : decode cX7_scanWhole 35 = .ok (.isub, 1) := by decide +kernel
theorem dX7_scanWhole_36 : decode cX7_scanWhole 36 = .ok (.istore 4, 2) := by decide +kernel
theorem dX7_scanWhole_38 : decode cX7_scanWhole 38 = .ok (.iinc 3 1, 3) := by decide +kernel
theorem dX7_scanWhole_41 : decode cX7_scanWhole 41 = .ok (.goto (-36), 3) := by decide +kernel
theorem dX7_scanWhole_44 : decode cX7_scanWhole 44 = .ok (.aload_n 0, 1) := by decide +kernel
theorem dX7_scanWhole_45 : decode cX7_scanWhole 45 = .ok (.getfield 18, 3) := by decide +kernel
theorem dX7_scanWhole_48 : decode cX7_scanWhole 48 = .ok (.iload_n 1, 1) := by decide +kernel
theorem dX7_scanWhole_49 : decode cX7_scanWhole 49 = .ok (.iload_n 3, 1) := by decide +kernel
theorem dX7_scanWhole_50 : decode cX7_scanWhole 50 = .ok (.iload_n 2, 1) := by decide +kernel
theorem dX7_scanWhole_51 : decode cX7_scanWhole 51 = .ok (.isub, 1) := by decide +kernel
theorem dX7_scanWhole_52 : decode cX7_scanWhole 52 = .ok (.iastore, 1) := by decide +kernel
theorem dX7_scanWhole_53 : decode cX7_scanWhole 53 = .ok (.aload_n 0, 1) := by decide +kernel
theorem dX7_scanWhole_54 : decode cX7_scanWhole 54 = .ok (.getfield 9, 3) := by decide +kernel
theorem dX7_scanWhole_57 : decode cX7_scanWhole 57 = .ok (.iload_n 1, 1) := by decide +kernel
theorem dX7_scanWhole_58 : decode cX7_scanWhole 58 = .ok (.aload_n 0, 1) := by decide +kernel
theorem dX7_scanWhole_59 : decode cX7_scanWhole 59 = .ok (.getfield 18, 3) := by decide +kernel
theorem dX7_scanWhole_62 : decode cX7_scanWhole 62 = .ok (.iload_n 1, 1) := by decide +kernel
theorem dX7_scanWhole_63 : decode cX7_scanWhole 63 = .ok (.iaload, 1) := by decide +kernel
theorem dX7_scanWhole_64 : decode cX7_scanWhole 64 = .ok (.iconst 4, 1) := by decide +kernel
theorem dX7_scanWhole_65 : decode cX7_scanWhole 65 = .ok (.if_icmp .gt 7, 3) := by decide +kernel
theorem dX7_scanWhole_68 : decode cX7_scanWhole 68 = .ok (.iconst 2, 1) := by decide +kernel
theorem dX7_scanWhole_69 : decode cX7_scanWhole 69 = .ok (.goto 4, 3) := by decide +kernel
theorem dX7_scanWhole_72 : decode cX7_scanWhole 72 = .ok (.iconst 5, 1) := by decide +kernel
theorem dX7_scanWhole_73 : decode cX7_scanWhole 73 = .ok (.iastore, 1) := by decide +kernel
theorem dX7_scanWhole_74 : decode cX7_scanWhole 74 = .ok (.aload_n 0, 1) := by decide +kernel
theorem dX7_scanWhole_75 : decode cX7_scanWhole 75 = .ok (.getfield 21, 3) := by decide +kernel
theorem dX7_scanWhole_78 : decode cX7_scanWhole 78 = .ok (.iload_n 1, 1) := by decide +kernel
theorem dX7_scanWhole_79 : decode cX7_scanWhole 79 = .ok (.iload 4, 2) := by decide +kernel
theorem dX7_scanWhole_81 : decode cX7_scanWhole 81 = .ok (.iastore, 1) := by decide +kernel
theorem dX7_scanWhole_82 : decode cX7_scanWhole 82 = .ok (.return_, 1) := by decide +kernel
theorem dX7_isSpelled_0 : decode cX7_isSpelled 0 = .ok (.iconst 0, 1) := by decide +kernel
theorem dX7_isSpelled_1 : decode cX7_isSpelled 1 = .ok (.istore 4, 2) := by decide +kernel
theorem dX7_isSpelled_3 : decode cX7_isSpelled 3 = .ok (.iload 4, 2) := by decide +kernel
theorem dX7_isSpelled_5 : decode cX7_isSpelled 5 = .ok (.bipush 6, 2) := by decide +kernel
theorem dX7_isSpelled_7 : decode cX7_isSpelled 7 = .ok (.if_icmp .ge 47, 3) := by decide +kernel
theorem dX7_isSpelled_10 : decode cX7_isSpelled 10 = .ok (.iload 4, 2) := by decide +kernel
theorem dX7_isSpelled_12 : decode cX7_isSpelled 12 = .ok (.iload_n 2, 1) := by decide +kernel
theorem dX7_isSpelled_13 : decode cX7_isSpelled 13 = .ok (.if_icmp .ge 15, 3) := by decide +kernel
theorem dX7_isSpelled_16 : decode cX7_isSpelled 16 = .ok (.aload_n 0, 1) := by decide +kernel
theorem dX7_isSpelled_17 : decode cX7_isSpelled 17 = .ok (.getfield 24, 3) := by decide +kernel
theorem dX7_isSpelled_20 : decode cX7_isSpelled 20 = .ok (.iload_n 1, 1) := by decide +kernel
theorem dX7_isSpelled_21 : decode cX7_isSpelled 21 = .ok (.iload 4, 2) := by decide +kernel
theorem dX7_isSpelled_23 : decode cX7_isSpelled 23 = .ok (.iadd, 1) := by decide +kernel
theorem dX7_isSpelled_24 : decode cX7_isSpelled 24 = .ok (.baload, 1) := by decide +kernel
theorem dX7_isSpelled_25 : decode cX7_isSpelled 25 = .ok (.goto 5, 3) := by decide +kernel
theorem dX7_isSpelled_28 : decode cX7_isSpelled 28 = .ok (.bipush 32, 2) := by decide +kernel
theorem dX7_isSpelled_30 : decode cX7_isSpelled 30 = .ok (.istore 5, 2) := by decide +kernel
theorem dX7_isSpelled_32 : decode cX7_isSpelled 32 = .ok (.ldc 62, 2) := by decide +kernel
theorem dX7_isSpelled_34 : decode cX7_isSpelled 34 = .ok (.iload_n 3, 1) := by decide +kernel
theorem dX7_isSpelled_35 : decode cX7_isSpelled 35 = .ok (.iload 4, 2) := by decide +kernel
theorem dX7_isSpelled_37 : decode cX7_isSpelled 37 = .ok (.iadd, 1) := by decide +kernel
theorem dX7_isSpelled_38 : decode cX7_isSpelled 38 = .ok (.invokevirtual 64, 3) := by decide +kernel
theorem dX7_isSpelled_41 : decode cX7_isSpelled 41 = .ok (.iload 5, 2) := by decide +kernel
theorem dX7_isSpelled_43 : decode cX7_isSpelled 43 = .ok (.if_icmp .eq 5, 3) := by decide +kernel
theorem dX7_isSpelled_46 : decode cX7_isSpelled 46 = .ok (.iconst 0, 1) := by decide +kernel
theorem dX7_isSpelled_47 : decode cX7_isSpelled 47 = .ok (.ireturn, 1) := by decide +kernel
theorem dX7_isSpelled_48 : decode cX7_isSpelled 48 = .ok (.iinc 4 1, 3) := by decide +kernel
theorem dX7_isSpelled_51 : decode cX7_isSpelled 51 = .ok (.goto (-48), 3) := by decide +kernel
theorem dX7_isSpelled_54 : decode cX7_isSpelled 54 = .ok (.iconst 1, 1) := by decide +kernel
theorem dX7_isSpelled_55 : decode cX7_isSpelled 55 = .ok (.ireturn, 1) := by decide +kernel
theorem dX7_isLetter_0 : decode cX7_isLetter 0 = .ok (.aload_n 0, 1) := by decide +kernel
theorem dX7_isLetter_1 : decode cX7_isLetter 1 = .ok (.getfield 24, 3) := by decide +kernel
theorem dX7_isLetter_4 : decode cX7_isLetter 4 = .ok (.iload_n 1, 1) := by decide +kernel
theorem dX7_isLetter_5 : decode cX7_isLetter 5 = .ok (.baload, 1) := by decide +kernel
theorem dX7_isLetter_6 : decode cX7_isLetter 6 = .ok (.bipush 97, 2) := by decide +kernel
theorem dX7_isLetter_8 : decode cX7_isLetter 8 = .ok (.if_icmp .lt 18, 3) := by decide +kernel
theorem dX7_isLetter_11 : decode cX7_isLetter 11 = .ok (.aload_n 0, 1) := by decide +kernel
theorem dX7_isLetter_12 : decode cX7_isLetter 12 = .ok (.getfield 24, 3) := by decide +kernel
theorem dX7_isLetter_15 : decode cX7_isLetter 15 = .ok (.iload_n 1, 1) := by decide +kernel
theorem dX7_isLetter_16 : decode cX7_isLetter 16 = .ok (.baload, 1) := by decide +kernel
theorem dX7_isLetter_17 : decode cX7_isLetter 17 = .ok (.bipush 122, 2) := by decide +kernel
theorem dX7_isLetter_19 : decode cX7_isLetter 19 = .ok (.if_icmp .gt 7, 3) := by decide +kernel
theorem dX7_isLetter_22 : decode cX7_isLetter 22 = .ok (.iconst 1, 1) := by decide +kernel
theorem dX7_isLetter_23 : decode cX7_isLetter 23 = .ok (.goto 4, 3) := by decide +kernel
theorem dX7_isLetter_26 : decode cX7_isLetter 26 = .ok (.iconst 0, 1) := by decide +kernel
theorem dX7_isLetter_27 : decode cX7_isLetter 27 = .ok (.ireturn, 1) := by decide +kernel
theorem dX7_isDigit_0 : decode cX7_isDigit 0 = .ok (.aload_n 0, 1) := by decide +kernel
theorem dX7_isDigit_1 : decode cX7_isDigit 1 = .ok (.getfield 24, 3) := by decide +kernel
theorem dX7_isDigit_4 : decode cX7_isDigit 4 = .ok (.iload_n 1, 1) := by decide +kernel
theorem dX7_isDigit_5 : decode cX7_isDigit 5 = .ok (.baload, 1) := by decide +kernel
theorem dX7_isDigit_6 : decode cX7_isDigit 6 = .ok (.bipush 48, 2) := by decide +kernel
theorem dX7_isDigit_8 : decode cX7_isDigit 8 = .ok (.if_icmp .lt 18, 3) := by decide +kernel
theorem dX7_isDigit_11 : decode cX7_isDigit 11 = .ok (.aload_n 0, 1) := by decide +kernel
theorem dX7_isDigit_12 : decode cX7_isDigit 12 = .ok (.getfield 24, 3) := by decide +kernel
theorem dX7_isDigit_15 : decode cX7_isDigit 15 = .ok (.iload_n 1, 1) := by decide +kernel
theorem dX7_isDigit_16 : decode cX7_isDigit 16 = .ok (.baload, 1) := by decide +kernel
theorem dX7_isDigit_17 : decode cX7_isDigit 17 = .ok (.bipush 57, 2) := by decide +kernel
theorem dX7_isDigit_19 : decode cX7_isDigit 19 = .ok (.if_icmp .gt 7, 3) := by decide +kernel
theorem dX7_isDigit_22 : decode cX7_isDigit 22 = .ok (.iconst 1, 1) := by decide +kernel
theorem dX7_isDigit_23 : decode cX7_isDigit 23 = .ok (.goto 4, 3) := by decide +kernel
theorem dX7_isDigit_26 : decode cX7_isDigit 26 = .ok (.iconst 0, 1) := by decide +kernel
theorem dX7_isDigit_27 : decode cX7_isDigit 27 = .ok (.ireturn, 1) := by decide +kernel
theorem dX7_letterAt_0 : decode cX7_letterAt 0 = .ok (.aload_n 0, 1) := by decide +kernel
theorem dX7_letterAt_1 : decode cX7_letterAt 1 = .ok (.getfield 15, 3) := by decide +kernel
theorem dX7_letterAt_4 : decode cX7_letterAt 4 = .ok (.iload_n 1, 1) := by decide +kernel
theorem dX7_letterAt_5 : decode cX7_letterAt 5 = .ok (.iaload, 1) := by decide +kernel
theorem dX7_letterAt_6 : decode cX7_letterAt 6 = .ok (.iload_n 2, 1) := by decide +kernel
theorem dX7_letterAt_7 : decode cX7_letterAt 7 = .ok (.iadd, 1) := by decide +kernel
theorem dX7_letterAt_8 : decode cX7_letterAt 8 = .ok (.istore_n 3, 1) := by decide +kernel
theorem dX7_letterAt_9 : decode cX7_letterAt 9 = .ok (.iload_n 3, 1) := by decide +kernel
theorem dX7_letterAt_10 : decode cX7_letterAt 10 = .ok (.ifCond .lt 22, 3) := by decide +kernel
theorem dX7_letterAt_13 : decode cX7_letterAt 13 = .ok (.iload_n 3, 1) := by decide +kernel
theorem dX7_letterAt_14 : decode cX7_letterAt 14 = .ok (.sipush 600, 3) := by decide +kernel
theorem dX7_letterAt_17 : decode cX7_letterAt 17 = .ok (.if_icmp .ge 15, 3) := by decide +kernel
theorem dX7_letterAt_20 : decode cX7_letterAt 20 = .ok (.aload_n 0, 1) := by decide +kernel
theorem dX7_letterAt_21 : decode cX7_letterAt 21 = .ok (.getfield 24, 3) := by decide +kernel
theorem dX7_letterAt_24 : decode cX7_letterAt 24 = .ok (.iload_n 3, 1) := by decide +kernel
theorem dX7_letterAt_25 : decode cX7_letterAt 25 = .ok (.baload, 1) := by decide +kernel
theorem dX7_letterAt_26 : decode cX7_letterAt 26 = .ok (.bipush 97, 2) := by decide +kernel
theorem dX7_letterAt_28 : decode cX7_letterAt 28 = .ok (.isub, 1) := by decide +kernel
theorem dX7_letterAt_29 : decode cX7_letterAt 29 = .ok (.goto 4, 3) := by decide +kernel
theorem dX7_letterAt_32 : decode cX7_letterAt 32 = .ok (.iconst (-1), 1) := by decide +kernel
theorem dX7_letterAt_33 : decode cX7_letterAt 33 = .ok (.ireturn, 1) := by decide +kernel
theorem dX8_clear_0 : decode cX8_clear 0 = .ok (.aload_n 0, 1) := by decide +kernel
theorem dX8_clear_1 : decode cX8_clear 1 = .ok (.getfield 17, 3) := by decide +kernel
theorem dX8_clear_4 : decode cX8_clear 4 = .ok (.iconst (-1), 1) := by decide +kernel
theorem dX8_clear_5 : decode cX8_clear 5 = .ok (.invokestatic 24, 3) := by decide +kernel
theorem dX8_clear_8 : decode cX8_clear 8 = .ok (.return_, 1) := by decide +kernel
theorem dX8_earlierLike_0 : decode cX8_earlierLike 0 = .ok (.iload_n 2, 1) := by decide +kernel
theorem dX8_earlierLike_1 : decode cX8_earlierLike 1 = .ok (.ifCond .lt 10, 3) := by decide +kernel
theorem dX8_earlierLike_4 : decode cX8_earlierLike 4 = .ok (.iload_n 2, 1) := by decide +kernel
theorem dX8_earlierLike_5 : decode cX8_earlierLike 5 = .ok (.sipush 2000, 3) := by decide +kernel
theorem dX8_earlierLike_8 : decode cX8_earlierLike 8 = .ok (.if_icmp .lt 5, 3) := by decide +kernel
theorem dX8_earlierLike_11 : decode cX8_earlierLike 11 = .ok (.iconst (-1), 1) := by decide +kernel
theorem dX8_earlierLike_12 : decode cX8_earlierLike 12 = .ok (.ireturn, 1) := by decide +kernel
theorem dX8_earlierLike_13 : decode cX8_earlierLike 13 = .ok (.aload_n 1, 1) := by decide +kernel
theorem dX8_earlierLike_14 : decode cX8_earlierLike 14 = .ok (.aload_n 0, 1) := by decide +kernel
theorem dX8_earlierLike_15 : decode cX8_earlierLike 15 = .ok (.getfield 13, 3) := by decide +kernel
theorem dX8_earlierLike_18 : decode cX8_earlierLike 18 = .ok (.iconst 5, 1) := by decide +kernel
theorem dX8_earlierLike_19 : decode cX8_earlierLike 19 = .ok (.iload_n 2, 1) := by decide +kernel
theorem dX8_earlierLike_20 : decode cX8_earlierLike 20 = .ok (.imul, 1) := by decide +kernel
theorem dX8_earlierLike_21 : decode cX8_earlierLike 21 = .ok (.invokevirtual 30, 3) := by decide +kernel
theorem dX8_earlierLike_24 : decode cX8_earlierLike 24 = .ok (.aload_n 0, 1) := by decide +kernel
theorem dX8_earlierLike_25 : decode cX8_earlierLike 25 = .ok (.iload_n 2, 1) := by decide +kernel
theorem dX8_earlierLike_26 : decode cX8_earlierLike 26 = .ok (.invokevirtual 34, 3) := by decide +kernel
theorem dX8_earlierLike_29 : decode cX8_earlierLike 29 = .ok (.istore_n 3, 1) := by decide +kernel
theorem dX8_earlierLike_30 : decode cX8_earlierLike 30 = .ok (.aload_n 0, 1) := by decide +kernel
theorem dX8_earlierLike_31 : decode cX8_earlierLike 31 = .ok (.getfield 17, 3) := by decide +kernel
theorem dX8_earlierLike_34 : decode cX8_earlierLike 34 = .ok (.iload_n 3, 1) := by decide +kernel
theorem dX8_earlierLike_35 : decode cX8_earlierLike 35 = .ok (.iaload, 1) := by decide +kernel
theorem dX8_earlierLike_36 : decode cX8_earlierLike 36 = .ok (.istore 4, 2) := by decide +kernel
theorem dX8_earlierLike_38 : decode cX8_earlierLike 38 = .ok (.iconst 0, 1) := by decide +kernel
theorem dX8_earlierLike_39 : decode cX8_earlierLike 39 = .ok (.istore 5, 2) := by decide +kernel
theorem dX8_earlierLike_41 : decode cX8_earlierLike 41 = .ok (.iload 5, 2) := by decide +kernel
theorem dX8_earlierLike_43 : decode cX8_earlierLike 43 = .ok (.sipush 2000, 3) := by decide +kernel
theorem dX8_earlierLike_46 : decode cX8_earlierLike 46 = .ok (.if_icmp .ge 37, 3) := by decide +kernel
theorem dX8_earlierLike_49 : decode cX8_earlierLike 49 = .ok (.iload 4, 2) := by decide +kernel
theorem dX8_earlierLike_51 : decode cX8_earlierLike 51 = .ok (.iconst (-1), 1) := by decide +kernel
theorem dX8_earlierLike_52 : decode cX8_earlierLike 52 = .ok (.if_icmp .eq 31, 3) := by decide +kernel
theorem dX8_earlierLike_55 : decode cX8_earlierLike 55 = .ok (.aload_n 0, 1) := by decide +kernel
theorem dX8_earlierLike_56 : decode cX8_earlierLike 56 = .ok (.iload_n 2, 1) := by decide +kernel
theorem dX8_earlierLike_57 : decode cX8_earlierLike 57 = .ok (.iload 4, 2) := by decide +kernel
theorem dX8_earlierLike_59 : decode cX8_earlierLike 59 = .ok (.invokevirtual 38, 3) := by decide +kernel
theorem dX8_earlierLike_62 : decode cX8_earlierLike 62 = .ok (.ifCond .eq 6, 3) := by decide +kernel
theorem dX8_earlierLike_65 : decode cX8_earlierLike 65 = .ok (.iload 4, 2) := by decide +kernel
theorem dX8_earlierLike_67 : decode cX8_earlierLike 67 = .ok (.ireturn, 1) := by decide +kernel
theorem dX8_earlierLike_68 : decode cX8_earlierLike 68 = .ok (.aload_n 0, 1) := by decide +kernel
theorem dX8_earlierLike_69 : decode cX8_earlierLike 69 = .ok (.getfield 21, 3) := by decide +kernel
theorem dX8_earlierLike_72 : decode cX8_earlierLike 72 = .ok (.iload 4, 2) := by decide +kernel
theorem dX8_earlierLike_74 : decode cX8_earlierLike 74 = .ok (.iaload, 1) := by decide +kernel
theorem dX8_earlierLike_75 : decode cX8_earlierLike 75 = .ok (.istore 4, 2) := by decide +kernel
theorem dX8_earlierLike_77 : decode cX8_earlierLike 77 = .ok (.iinc 5 1, 3) := by decide +kernel
theorem dX8_earlierLike_80 : decode cX8_earlierLike 80 = .ok (.goto (-39), 3) := by decide +kernel
theorem dX8_earlierLike_83 : decode cX8_earlierLike 83 = .ok (.aload_n 0, 1) := by decide +kernel
theorem dX8_earlierLike_84 : decode cX8_earlierLike 84 = .ok (.getfield 21, 3) := by decide +kernel
theorem dX8_earlierLike_87 : decode cX8_earlierLike 87 = .ok (.iload_n 2, 1) := by decide +kernel
theorem dX8_earlierLike_88 : decode cX8_earlierLike 88 = .ok (.aload_n 0, 1) := by decide +kernel
theorem dX8_earlierLike_89 : decode cX8_earlierLike 89 = .ok (.getfield 17, 3) := by decide +kernel
theorem dX8_earlierLike_92 : decode cX8_earlierLike 92 = .ok (.iload_n 3, 1) := by decide +kernel
theorem dX8_earlierLike_93 : decode cX8_earlierLike 93 = .ok (.iaload, 1) := by decide +kernel
theorem dX8_earlierLike_94 : decode cX8_earlierLike 94 = .ok (.iastore, 1) := by decide +kernel
theorem dX8_earlierLike_95 : decode cX8_earlierLike 95 = .ok (.aload_n 0, 1) := by decide +kernel
theorem dX8_earlierLike_96 : decode cX8_earlierLike 96 = .ok (.getfield 17, 3) := by decide +kernel
theorem dX8_earlierLike_99 : decode cX8_earlierLike 99 = .ok (.iload_n 3, 1) := by decide +kernel
theorem dX8_earlierLike_100 : decode cX8_earlierLike 100 = .ok (.iload_n 2, 1) := by decide +kernel
theorem dX8_earlierLike_101 : decode cX8_earlierLike 101 = .ok (.iastore, 1) := by decide +kernel
theorem dX8_earlierLike_102 : decode cX8_earlierLike 102 = .ok (.iconst (-1), 1) := by decide +kernel
theorem dX8_earlierLike_103 : decode cX8_earlierLike 103 = .ok (.ireturn, 1) := by decide +kernel
theorem dX8_bucketOf_0 : decode cX8_bucketOf 0 = .ok (.lconst 0, 1) := by decide +kernel
theorem dX8_bucketOf_1 : decode cX8_bucketOf 1 = .ok (.lstore_n 2, 1) := by decide +kernel
theorem dX8_bucketOf_2 : decode cX8_bucketOf 2 = .ok (.iconst 0, 1) := by decide +kernel
theorem dX8_bucketOf_3 : decode cX8_bucketOf 3 = .ok (.istore 4, 2) := by decide +kernel
theorem dX8_bucketOf_5 : decode cX8_bucketOf 5 = .ok (.iload 4, 2) := by decide +kernel
theorem dX8_bucketOf_7 : decode cX8_bucketOf 7 = .ok (.iconst 5, 1) := by decide +kernel
theorem dX8_bucketOf_8 : decode cX8_bucketOf 8 = .ok (.if_icmp .ge 34, 3) := by decide +kernel
theorem dX8_bucketOf_11 : decode cX8_bucketOf 11 = .ok (.lload_n 2, 1) := by decide +kernel
theorem dX8_bucketOf_12 : decode cX8_bucketOf 12 = .ok (.aload_n 0, 1) := by decide +kernel
theorem dX8_bucketOf_13 : decode cX8_bucketOf 13 = .ok (.getfield 13, 3) := by decide +kernel
theorem dX8_bucketOf_16 : decode cX8_bucketOf 16 = .ok (.iconst 5, 1) := by decide +kernel
theorem dX8_bucketOf_17 : decode cX8_bucketOf 17 = .ok (.iload_n 1, 1) := by decide +kernel
theorem dX8_bucketOf_18 : decode cX8_bucketOf 18 = .ok (.imul, 1) := by decide +kernel
theorem dX8_bucketOf_19 : decode cX8_bucketOf 19 = .ok (.iload 4, 2) := by decide +kernel
theorem dX8_bucketOf_21 : decode cX8_bucketOf 21 = .ok (.iadd, 1) := by decide +kernel
theorem dX8_bucketOf_22 : decode cX8_bucketOf 22 = .ok (.laload, 1) := by decide +kernel
theorem dX8_bucketOf_23 : decode cX8_bucketOf 23 = .ok (.lxor, 1) := by decide +kernel
theorem dX8_bucketOf_24 : decode cX8_bucketOf 24 = .ok (.ldc2_w 42, 3) := by decide +kernel
theorem dX8_bucketOf_27 : decode cX8_bucketOf 27 = .ok (.lmul, 1) := by decide +kernel
theorem dX8_bucketOf_28 : decode cX8_bucketOf 28 = .ok (.lstore_n 2, 1) := by decide +kernel
theorem dX8_bucketOf_29 : decode cX8_bucketOf 29 = .ok (.lload_n 2, 1) := by decide +kernel
theorem dX8_bucketOf_30 : decode cX8_bucketOf 30 = .ok (.lload_n 2, 1) := by decide +kernel
theorem dX8_bucketOf_31 : decode cX8_bucketOf 31 = .ok (.bipush 32, 2) := by decide +kernel
theorem dX8_bucketOf_33 : decode cX8_bucketOf 33 = .ok (.lushr, 1) := by decide +kernel
theorem dX8_bucketOf_34 : decode cX8_bucketOf 34 = .ok (.lxor, 1) := by decide +kernel
theorem dX8_bucketOf_35 : decode cX8_bucketOf 35 = .ok (.lstore_n 2, 1) := by decide +kernel
theorem dX8_bucketOf_36 : decode cX8_bucketOf 36 = .ok (.iinc 4 1, 3) := by decide +kernel
theorem dX8_bucketOf_39 : decode cX8_bucketOf 39 = .ok (.goto (-34), 3) := by decide +kernel
theorem dX8_bucketOf_42 : decode cX8_bucketOf 42 = .ok (.lload_n 2, 1) := by decide +kernel
theorem dX8_bucketOf_43 : decode cX8_bucketOf 43 = .ok (.ldc2_w 42, 3) := by decide +kernel
theorem dX8_bucketOf_46 : decode cX8_bucketOf 46 = .ok (.lmul, 1) := by decide +kernel
theorem dX8_bucketOf_47 : decode cX8_bucketOf 47 = .ok (.bipush 54, 2) := by decide +kernel
theorem dX8_bucketOf_49 : decode cX8_bucketOf 49 = .ok (.lushr, 1) := by decide +kernel
theorem dX8_bucketOf_50 : decode cX8_bucketOf 50 = .ok (.l2i, 1) := by decide +kernel
theorem dX8_bucketOf_51 : decode cX8_bucketOf 51 = .ok (.ireturn, 1) := by decide +kernel
theorem dX8_isAlike_0 : decode cX8_isAlike 0 = .ok (.iconst 0, 1) := by decide +kernel
theorem dX8_isAlike_1 : decode cX8_isAlike 1 = .ok (.istore_n 3, 1) := by decide +kernel
theorem dX8_isAlike_2 : decode cX8_isAlike 2 = .ok (.iload_n 3, 1) := by decide +kernel
theorem dX8_isAlike_3 : decode cX8_isAlike 3 = .ok (.iconst 5, 1) := by decide +kernel
theorem dX8_isAlike_4 : decode cX8_isAlike 4 = .ok (.if_icmp .ge 39, 3) := by decide +kernel
theorem dX8_isAlike_7 : decode cX8_isAlike 7 = .ok (.iconst 5, 1) := by decide +kernel
theorem dX8_isAlike_8 : decode cX8_isAlike 8 = .ok (.iload_n 1, 1) := by decide +kernel
theorem dX8_isAlike_9 : decode cX8_isAlike 9 = .ok (.imul, 1) := by decide +kernel
theorem dX8_isAlike_10 : decode cX8_isAlike 10 = .ok (.iload_n 3, 1) := by decide +kernel
theorem dX8_isAlike_11 : decode cX8_isAlike 11 = .ok (.iadd, 1) := by decide +kernel
theorem dX8_isAlike_12 : decode cX8_isAlike 12 = .ok (.istore 4, 2) := by decide +kernel
theorem dX8_isAlike_14 : decode cX8_isAlike 14 = .ok (.aload_n 0, 1) := by decide +kernel
theorem dX8_isAlike_15 : decode cX8_isAlike 15 = .ok (.getfield 13, 3) := by decide +kernel
theorem dX8_isAlike_18 : decode cX8_isAlike 18 = .ok (.iload 4, 2) := by decide +kernel
theorem dX8_isAlike_20 : decode cX8_isAlike 20 = .ok (.laload, 1) := by decide +kernel
theorem dX8_isAlike_21 : decode cX8_isAlike 21 = .ok (.aload_n 0, 1) := by decide +kernel
theorem dX8_isAlike_22 : decode cX8_isAlike 22 = .ok (.getfield 13, 3) := by decide +kernel
theorem dX8_isAlike_25 : decode cX8_isAlike 25 = .ok (.iconst 5, 1) := by decide +kernel
theorem dX8_isAlike_26 : decode cX8_isAlike 26 = .ok (.iload_n 2, 1) := by decide +kernel
theorem dX8_isAlike_27 : decode cX8_isAlike 27 = .ok (.imul, 1) := by decide +kernel
theorem dX8_isAlike_28 : decode cX8_isAlike 28 = .ok (.iload_n 3, 1) := by decide +kernel
theorem dX8_isAlike_29 : decode cX8_isAlike 29 = .ok (.iadd, 1) := by decide +kernel
theorem dX8_isAlike_30 : decode cX8_isAlike 30 = .ok (.laload, 1) := by decide +kernel
theorem dX8_isAlike_31 : decode cX8_isAlike 31 = .ok (.lcmp, 1) := by decide +kernel
theorem dX8_isAlike_32 : decode cX8_isAlike 32 = .ok (.ifCond .eq 5, 3) := by decide +kernel
theorem dX8_isAlike_35 : decode cX8_isAlike 35 = .ok (.iconst 0, 1) := by decide +kernel
theorem dX8_isAlike_36 : decode cX8_isAlike 36 = .ok (.ireturn, 1) := by decide +kernel
theorem dX8_isAlike_37 : decode cX8_isAlike 37 = .ok (.iinc 3 1, 3) := by decide +kernel
theorem dX8_isAlike_40 : decode cX8_isAlike 40 = .ok (.goto (-38), 3) := by decide +kernel
theorem dX8_isAlike_43 : decode cX8_isAlike 43 = .ok (.iconst 1, 1) := by decide +kernel
theorem dX8_isAlike_44 : decode cX8_isAlike 44 = .ok (.ireturn, 1) := by decide +kernel
theorem dX9_feed_0 : decode cX9_feed 0 = .ok (.aload_n 0, 1) := by decide +kernel
theorem dX9_feed_1 : decode cX9_feed 1 = .ok (.getfield 72, 3) := by decide +kernel
theorem dX9_feed_4 : decode cX9_feed 4 = .ok (.bipush 20, 2) := by decide +kernel
theorem dX9_feed_6 : decode cX9_feed 6 = .ok (.iadd, 1) := by decide +kernel
theorem dX9_feed_7 : decode cX9_feed 7 = .ok (.sipush 600, 3) := by decide +kernel
theorem dX9_feed_10 : decode cX9_feed 10 = .ok (.if_icmp .le 5, 3) := by decide +kernel
theorem dX9_feed_13 : decode cX9_feed 13 = .ok (.iconst (-1), 1) := by decide +kernel
theorem dX9_feed_14 : decode cX9_feed 14 = .ok (.ireturn, 1) := by decide +kernel
theorem dX9_feed_15 : decode cX9_feed 15 = .ok (.aload_n 0, 1) := by decide +kernel
theorem dX9_feed_16 : decode cX9_feed 16 = .ok (.iload_n 1, 1) := by decide +kernel
theorem dX9_feed_17 : decode cX9_feed 17 = .ok (.invokevirtual 75, 3) := by decide +kernel
theorem dX9_feed_20 : decode cX9_feed 20 = .ok (.aload_n 0, 1) := by decide +kernel
theorem dX9_feed_21 : decode cX9_feed 21 = .ok (.iload_n 2, 1) := by decide +kernel
theorem dX9_feed_22 : decode cX9_feed 22 = .ok (.invokevirtual 75, 3) := by decide +kernel
theorem dX9_feed_25 : decode cX9_feed 25 = .ok (.aload_n 0, 1) := by decide +kernel
theorem dX9_feed_26 : decode cX9_feed 26 = .ok (.iload_n 3, 1) := by decide +kernel
theorem dX9_feed_27 : decode cX9_feed 27 = .ok (.invokevirtual 75, 3) := by decide +kernel
theorem dX9_feed_30 : decode cX9_feed 30 = .ok (.aload_n 0, 1) := by decide +kernel
theorem dX9_feed_31 : decode cX9_feed 31 = .ok (.iload 4, 2) := by decide +kernel
theorem dX9_feed_33 : decode cX9_feed 33 = .ok (.invokevirtual 75, 3) := by decide +kernel
theorem dX9_feed_36 : decode cX9_feed 36 = .ok (.aload_n 0, 1) := by decide +kernel
theorem dX9_feed_37 : decode cX9_feed 37 = .ok (.iload 5, 2) := by decide +kernel
theorem dX9_feed_39 : decode cX9_feed 39 = .ok (.invokevirtual 75, 3) := by decide +kernel
theorem dX9_feed_42 : decode cX9_feed 42 = .ok (.aload_n 0, 1) := by decide +kernel
theorem dX9_feed_43 : decode cX9_feed 43 = .ok (.getfield 72, 3) := by decide +kernel
theorem dX9_feed_46 : decode cX9_feed 46 = .ok (.ireturn, 1) := by decide +kernel
theorem dX9_putBytes_0 : decode cX9_putBytes 0 = .ok (.bipush 24, 2) := by decide +kernel
theorem dX9_putBytes_2 : decode cX9_putBytes 2 = .ok (.istore_n 2, 1) := by decide +kernel
theorem dX9_putBytes_3 : decode cX9_putBytes 3 = .ok (.iload_n 2, 1) := by decide +kernel
theorem dX9_putBytes_4 : decode cX9_putBytes 4 = .ok (.ifCond .lt 42, 3) := by decide +kernel
theorem dX9_putBytes_7 : decode cX9_putBytes 7 = .ok (.aload_n 0, 1) := by decide +kernel
theorem dX9_putBytes_8 : decode cX9_putBytes 8 = .ok (.getfield 72, 3) := by decide +kernel
theorem dX9_putBytes_11 : decode cX9_putBytes 11 = .ok (.sipush 600, 3) := by decide +kernel
theorem dX9_putBytes_14 : decode cX9_putBytes 14 = .ok (.if_icmp .ge 32, 3) := by decide +kernel
theorem dX9_putBytes_17 : decode cX9_putBytes 17 = .ok (.aload_n 0, 1) := by decide +kernel
theorem dX9_putBytes_18 : decode cX9_putBytes 18 = .ok (.getfield 9, 3) := by decide +kernel
theorem dX9_putBytes_21 : decode cX9_putBytes 21 = .ok (.aload_n 0, 1) := by decide +kernel
theorem dX9_putBytes_22 : decode cX9_putBytes 22 = .ok (.getfield 72, 3) := by decide +kernel
theorem dX9_putBytes_25 : decode cX9_putBytes 25 = .ok (.iload_n 1, 1) := by decide +kernel
theorem dX9_putBytes_26 : decode cX9_putBytes 26 = .ok (.iload_n 2, 1) := by decide +kernel
theorem dX9_putBytes_27 : decode cX9_putBytes 27 = .ok (.ishr, 1) := by decide +kernel
theorem dX9_putBytes_28 : decode cX9_putBytes 28 = .ok (.i2b, 1) := by decide +kernel
theorem dX9_putBytes_29 : decode cX9_putBytes 29 = .ok (.bastore, 1) := by decide +kernel
theorem dX9_putBytes_30 : decode cX9_putBytes 30 = .ok (.aload_n 0, 1) := by decide +kernel
theorem dX9_putBytes_31 : decode cX9_putBytes 31 = .ok (.dup, 1) := by decide +kernel
theorem dX9_putBytes_32 : decode cX9_putBytes 32 = .ok (.getfield 72, 3) := by decide +kernel
theorem dX9_putBytes_35 : decode cX9_putBytes 35 = .ok (.iconst 1, 1) := by decide +kernel
theorem dX9_putBytes_36 : decode cX9_putBytes 36 = .ok (.iadd, 1) := by decide +kernel
theorem dX9_putBytes_37 : decode cX9_putBytes 37 = .ok (.putfield 72, 3) := by decide +kernel
theorem dX9_putBytes_40 : decode cX9_putBytes 40 = .ok (.iinc 2 (-8), 3) := by decide +kernel
theorem dX9_putBytes_43 : decode cX9_putBytes 43 = .ok (.goto (-40), 3) := by decide +kernel
theorem dX9_putBytes_46 : decode cX9_putBytes 46 = .ok (.return_, 1) := by decide +kernel
theorem dX9_text_0 : decode cX9_text 0 = .ok (.iload_n 1, 1) := by decide +kernel
theorem dX9_text_1 : decode cX9_text 1 = .ok (.ifCond .lt 11, 3) := by decide +kernel
theorem dX9_text_4 : decode cX9_text 4 = .ok (.iload_n 1, 1) := by decide +kernel
theorem dX9_text_5 : decode cX9_text 5 = .ok (.aload_n 0, 1) := by decide +kernel
theorem dX9_text_6 : decode cX9_text 6 = .ok (.getfield 72, 3) := by decide +kernel
theorem dX9_text_9 : decode cX9_text 9 = .ok (.if_icmp .le 9, 3) := by decide +kernel
theorem dX9_text_12 : decode cX9_text 12 = .ok (.aload_n 0, 1) := by decide +kernel
theorem dX9_text_13 : decode cX9_text 13 = .ok (.iconst 2, 1) := by decide +kernel
theorem dX9_text_14 : decode cX9_text 14 = .ok (.invokevirtual 79, 3) := by decide +kernel
theorem dX9_text_17 : decode cX9_text 17 = .ok (.ireturn, 1) := by decide +kernel
theorem dX9_text_18 : decode cX9_text 18 = .ok (.aload_n 0, 1) := by decide +kernel
theorem dX9_text_19 : decode cX9_text 19 = .ok (.iconst 0, 1) := by decide +kernel
theorem dX9_text_20 : decode cX9_text 20 = .ok (.putfield 72, 3) := by decide +kernel
theorem dX9_text_23 : decode cX9_text 23 = .ok (.aload_n 0, 1) := by decide +kernel
theorem dX9_text_24 : decode cX9_text 24 = .ok (.aload_n 0, 1) := by decide +kernel
theorem dX9_text_25 : decode cX9_text 25 = .ok (.getfield 25, 3) := by decide +kernel
theorem dX9_text_28 : decode cX9_text 28 = .ok (.iload_n 1, 1) := by decide +kernel
theorem dX9_text_29 : decode cX9_text 29 = .ok (.invokevirtual 83, 3) := by decide +kernel
theorem dX9_text_32 : decode cX9_text 32 = .ok (.putfield 86, 3) := by decide +kernel
theorem dX9_text_35 : decode cX9_text 35 = .ok (.aload_n 0, 1) := by decide +kernel
theorem dX9_text_36 : decode cX9_text 36 = .ok (.getfield 86, 3) := by decide +kernel
theorem dX9_text_39 : decode cX9_text 39 = .ok (.ifCond .eq 22, 3) := by decide +kernel
theorem dX9_text_42 : decode cX9_text 42 = .ok (.aload_n 0, 1) := by decide +kernel
theorem dX9_text_43 : decode cX9_text 43 = .ok (.iconst 4, 1) := by decide +kernel
theorem dX9_text_44 : decode cX9_text 44 = .ok (.invokevirtual 79, 3) := by decide +kernel
theorem dX9_text_47 : decode cX9_text 47 = .ok (.pop, 1) := by decide +kernel
theorem dX9_text_48 : decode cX9_text 48 = .ok (.aload_n 0, 1) := by decide +kernel
theorem dX9_text_49 : decode cX9_text 49 = .ok (.aload_n 0, 1) := by decide +kernel
theorem dX9_text_50 : decode cX9_text 50 = .ok (.getfield 25, 3) := by decide +kernel
theorem dX9_text_53 : decode cX9_text 53 = .ok (.invokevirtual 89, 3) := by decide +kernel
theorem dX9_text_56 : decode cX9_text 56 = .ok (.putfield 68, 3) := by decide +kernel
theorem dX9_text_59 : decode cX9_text 59 = .ok (.iconst (-1), 1) := by decide +kernel
theorem dX9_text_60 : decode cX9_text 60 = .ok (.ireturn, 1) := by decide +kernel
theorem dX9_text_61 : decode cX9_text 61 = .ok (.aload_n 0, 1) := by decide +kernel
theorem dX9_text_62 : decode cX9_text 62 = .ok (.getfield 16, 3) := by decide +kernel
theorem dX9_text_65 : decode cX9_text 65 = .ok (.aload_n 0, 1) := by decide +kernel
theorem dX9_text_66 : decode cX9_text 66 = .ok (.getfield 25, 3) := by decide +kernel
theorem dX9_text_69 : decode cX9_text 69 = .ok (.getfield 93, 3) := by decide +kernel
theorem dX9_text_72 : decode cX9_text 72 = .ok (.invokevirtual 94, 3) := by decide +kernel
theorem dX9_text_75 : decode cX9_text 75 = .ok (.aload_n 0, 1) := by decide +kernel
theorem dX9_text_76 : decode cX9_text 76 = .ok (.getfield 32, 3) := by decide +kernel
theorem dX9_text_79 : decode cX9_text 79 = .ok (.aload_n 0, 1) := by decide +kernel
theorem dX9_text_80 : decode cX9_text 80 = .ok (.getfield 16, 3) := by decide +kernel
theorem dX9_text_83 : decode cX9_text 83 = .ok (.getfield 97, 3) := by decide +kernel
theorem dX9_text_86 : decode cX9_text 86 = .ok (.invokevirtual 100, 3) := by decide +kernel
theorem dX9_text_89 : decode cX9_text 89 = .ok (.aload_n 0, 1) := by decide +kernel
theorem dX9_text_90 : decode cX9_text 90 = .ok (.iconst 1, 1) := by decide +kernel
theorem dX9_text_91 : decode cX9_text 91 = .ok (.putfield 103, 3) := by decide +kernel
theorem dX9_text_94 : decode cX9_text 94 = .ok (.aload_n 0, 1) := by decide +kernel
theorem dX9_text_95 : decode cX9_text 95 = .ok (.getfield 41, 3) := by decide +kernel
theorem dX9_text_98 : decode cX9_text 98 = .ok (.iconst 0, 1) := by decide +kernel
theorem dX9_text_99 : decode cX9_text 99 = .ok (.invokevirtual 106, 3) := by decide +kernel
theorem dX9_text_102 : decode cX9_text 102 = .ok (.aload_n 0, 1) := by decide +kernel
theorem dX9_text_103 : decode cX9_text 103 = .ok (.invokevirtual 110, 3) := by decide +kernel
theorem dX9_text_106 : decode cX9_text 106 = .ok (.aload_n 0, 1) := by decide +kernel
theorem dX9_text_107 : decode cX9_text 107 = .ok (.aload_n 0, 1) := by decide +kernel
theorem dX9_text_108 : decode cX9_text 108 = .ok (.getfield 16, 3) := by decide +kernel
theorem dX9_text_111 : decode cX9_text 111 = .ok (.getfield 113, 3) := by decide +kernel
theorem dX9_text_114 : decode cX9_text 114 = .ok (.invokevirtual 116, 3) := by decide +kernel
theorem dX9_text_117 : decode cX9_text 117 = .ok (.ireturn, 1) := by decide +kernel
theorem dX9_forget_0 : decode cX9_forget 0 = .ok (.aload_n 0, 1) := by decide +kernel
theorem dX9_forget_1 : decode cX9_forget 1 = .ok (.getfield 55, 3) := by decide +kernel
theorem dX9_forget_4 : decode cX9_forget 4 = .ok (.iconst 0, 1) := by decide +kernel
theorem dX9_forget_5 : decode cX9_forget 5 = .ok (.putfield 119, 3) := by decide +kernel
theorem dX9_forget_8 : decode cX9_forget 8 = .ok (.iconst 0, 1) := by decide +kernel
theorem dX9_forget_9 : decode cX9_forget 9 = .ok (.istore_n 1, 1) := by decide +kernel
theorem dX9_forget_10 : decode cX9_forget 10 = .ok (.iload_n 1, 1) := by decide +kernel
theorem dX9_forget_11 : decode cX9_forget 11 = .ok (.iconst 2, 1) := by decide +kernel
theorem dX9_forget_12 : decode cX9_forget 12 = .ok (.if_icmp .ge 19, 3) := by decide +kernel
theorem dX9_forget_15 : decode cX9_forget 15 = .ok (.aload_n 0, 1) := by decide +kernel
theorem dX9_forget_16 : decode cX9_forget 16 = .ok (.getfield 61, 3) := by decide +kernel
theorem dX9_forget_19 : decode cX9_forget 19 = .ok (.iload_n 1, 1) := by decide +kernel
theorem dX9_forget_20 : decode cX9_forget 20 = .ok (.aaload, 1) := by decide +kernel
theorem dX9_forget_21 : decode cX9_forget 21 = .ok (.iconst 0, 1) := by decide +kernel
theorem dX9_forget_22 : decode cX9_forget 22 = .ok (.putfield 122, 3) := by decide +kernel
theorem dX9_forget_25 : decode cX9_forget 25 = .ok (.iinc 1 1, 3) := by decide +kernel
theorem dX9_forget_28 : decode cX9_forget 28 = .ok (.goto (-18), 3) := by decide +kernel
theorem dX9_forget_31 : decode cX9_forget 31 = .ok (.return_, 1) := by decide +kernel
theorem dX9_fault_0 : decode cX9_fault 0 = .ok (.aload_n 0, 1) := by decide +kernel
theorem dX9_fault_1 : decode cX9_fault 1 = .ok (.getfield 86, 3) := by decide +kernel
theorem dX9_fault_4 : decode cX9_fault 4 = .ok (.ireturn, 1) := by decide +kernel
theorem dX9_where_0 : decode cX9_where 0 = .ok (.aload_n 0, 1) := by decide +kernel
theorem dX9_where_1 : decode cX9_where 1 = .ok (.getfield 68, 3) := by decide +kernel
theorem dX9_where_4 : decode cX9_where 4 = .ok (.ireturn, 1) := by decide +kernel
theorem dX9_refused_0 : decode cX9_refused 0 = .ok (.aload_n 0, 1) := by decide +kernel
theorem dX9_refused_1 : decode cX9_refused 1 = .ok (.iload_n 1, 1) := by decide +kernel
theorem dX9_refused_2 : decode cX9_refused 2 = .ok (.putfield 125, 3) := by decide +kernel
theorem dX9_refused_5 : decode cX9_refused 5 = .ok (.aload_n 0, 1) := by decide +kernel
theorem dX9_refused_6 : decode cX9_refused 6 = .ok (.iconst (-1), 1) := by decide +kernel
theorem dX9_refused_7 : decode cX9_refused 7 = .ok (.putfield 68, 3) := by decide +kernel
theorem dX9_refused_10 : decode cX9_refused 10 = .ok (.iconst (-1), 1) := by decide +kernel
theorem dX9_refused_11 : decode cX9_refused 11 = .ok (.ireturn, 1) := by decide +kernel
theorem dX9_granted_0 : decode cX9_granted 0 = .ok (.aload_n 0, 1) := by decide +kernel
theorem dX9_granted_1 : decode cX9_granted 1 = .ok (.iconst 0, 1) := by decide +kernel
theorem dX9_granted_2 : decode cX9_granted 2 = .ok (.putfield 125, 3) := by decide +kernel
theorem dX9_granted_5 : decode cX9_granted 5 = .ok (.aload_n 0, 1) := by decide +kernel
theorem dX9_granted_6 : decode cX9_granted 6 = .ok (.iconst (-1), 1) := by decide +kernel
theorem dX9_granted_7 : decode cX9_granted 7 = .ok (.putfield 68, 3) := by decide +kernel
theorem dX9_granted_10 : decode cX9_granted 10 = .ok (.iload_n 1, 1) := by decide +kernel
theorem dX9_granted_11 : decode cX9_granted 11 = .ok (.ireturn, 1) := by decide +kernel
theorem dX9_about_0 : decode cX9_about 0 = .ok (.aload_n 0, 1) := by decide +kernel
theorem dX9_about_1 : decode cX9_about 1 = .ok (.getfield 103, 3) := by decide +kernel
theorem dX9_about_4 : decode cX9_about 4 = .ok (.ifCond .eq 12, 3) := by decide +kernel
theorem dX9_about_7 : decode cX9_about 7 = .ok (.iload_n 1, 1) := by decide +kernel
theorem dX9_about_8 : decode cX9_about 8 = .ok (.bipush 7, 2) := by decide +kernel
theorem dX9_about_10 : decode cX9_about 10 = .ok (.invokestatic 128, 3) := by decide +kernel
theorem dX9_about_13 : decode cX9_about 13 = .ok (.ifCond .ne 9, 3) := by decide +kernel
theorem dX9_about_16 : decode cX9_about 16 = .ok (.aload_n 0, 1) := by decide +kernel
theorem dX9_about_17 : decode cX9_about 17 = .ok (.iconst 1, 1) := by decide +kernel
theorem dX9_about_18 : decode cX9_about 18 = .ok (.invokevirtual 79, 3) := by decide +kernel
theorem dX9_about_21 : decode cX9_about 21 = .ok (.ireturn, 1) := by decide +kernel
theorem dX9_about_22 : decode cX9_about 22 = .ok (.iload_n 1, 1) := by decide +kernel
theorem dX9_about_23 : decode cX9_about 23 = .ok (.tableswitch 125 0 6 #[41, 53, 65, 77, 89, 101, 113], 41) := by decide +kernel
theorem dX9_about_64 : decode cX9_about 64 = .ok (.aload_n 0, 1) := by decide +kernel
theorem dX9_about_65 : decode cX9_about 65 = .ok (.aload_n 0, 1) := by decide +kernel
theorem dX9_about_66 : decode cX9_about 66 = .ok (.getfield 16, 3) := by decide +kernel
theorem dX9_about_69 : decode cX9_about 69 = .ok (.getfield 132, 3) := by decide +kernel
theorem dX9_about_72 : decode cX9_about 72 = .ok (.invokevirtual 116, 3) := by decide +kernel
theorem dX9_about_75 : decode cX9_about 75 = .ok (.ireturn, 1) := by decide +kernel
theorem dX9_about_76 : decode cX9_about 76 = .ok (.aload_n 0, 1) := by decide +kernel
theorem dX9_about_77 : decode cX9_about 77 = .ok (.aload_n 0, 1) := by decide +kernel
theorem dX9_about_78 : decode cX9_about 78 = .ok (.getfield 16, 3) := by decide +kernel
theorem dX9_about_81 : decode cX9_about 81 = .ok (.getfield 113, 3) := by decide +kernel
theorem dX9_about_84 : decode cX9_about 84 = .ok (.invokevirtual 116, 3) := by decide +kernel
theorem dX9_about_87 : decode cX9_about 87 = .ok (.ireturn, 1) := by decide +kernel
theorem dX9_about_88 : decode cX9_about 88 = .ok (.aload_n 0, 1) := by decide +kernel
theorem dX9_about_89 : decode cX9_about 89 = .ok (.aload_n 0, 1) := by decide +kernel
theorem dX9_about_90 : decode cX9_about 90 = .ok (.getfield 16, 3) := by decide +kernel
theorem dX9_about_93 : decode cX9_about 93 = .ok (.getfield 135, 3) := by decide +kernel
theorem dX9_about_96 : decode cX9_about 96 = .ok (.invokevirtual 116, 3) := by decide +kernel
theorem dX9_about_99 : decode cX9_about 99 = .ok (.ireturn, 1) := by decide +kernel
theorem dX9_about_100 : decode cX9_about 100 = .ok (.aload_n 0, 1) := by decide +kernel
theorem dX9_about_101 : decode cX9_about 101 = .ok (.aload_n 0, 1) := by decide +kernel
theorem dX9_about_102 : decode cX9_about 102 = .ok (.getfield 32, 3) := by decide +kernel
theorem dX9_about_105 : decode cX9_about 105 = .ok (.getfield 138, 3) := by decide +kernel
theorem dX9_about_108 : decode cX9_about 108 = .ok (.invokevirtual 116, 3) := by decide +kernel
theorem dX9_about_111 : decode cX9_about 111 = .ok (.ireturn, 1) := by decide +kernel
theorem dX9_about_112 : decode cX9_about 112 = .ok (.aload_n 0, 1) := by decide +kernel
theorem dX9_about_113 : decode cX9_about 113 = .ok (.aload_n 0, 1) := by decide +kernel
theorem dX9_about_114 : decode cX9_about 114 = .ok (.getfield 41, 3) := by decide +kernel
theorem dX9_about_117 : decode cX9_about 117 = .ok (.getfield 141, 3) := by decide +kernel
theorem dX9_about_120 : decode cX9_about 120 = .ok (.invokevirtual 116, 3) := by decide +kernel
theorem dX9_about_123 : decode cX9_about 123 = .ok (.ireturn, 1) := by decide +kernel
theorem dX9_about_124 : decode cX9_about 124 = .ok (.aload_n 0, 1) := by decide +kernel
theorem dX9_about_125 : decode cX9_about 125 = .ok (.aload_n 0, 1) := by decide +kernel
theorem dX9_about_126 : decode cX9_about 126 = .ok (.getfield 32, 3) := by decide +kernel
theorem dX9_about_129 : decode cX9_about 129 = .ok (.invokevirtual 144, 3) := by decide +kernel
theorem dX9_about_132 : decode cX9_about 132 = .ok (.invokevirtual 116, 3) := by decide +kernel
theorem dX9_about_135 : decode cX9_about 135 = .ok (.ireturn, 1) := by decide +kernel
theorem dX9_about_136 : decode cX9_about 136 = .ok (.aload_n 0, 1) := by decide +kernel
theorem dX9_about_137 : decode cX9_about 137 = .ok (.aload_n 0, 1) := by decide +kernel
theorem dX9_about_138 : decode cX9_about 138 = .ok (.getfield 41, 3) := by decide +kernel
theorem dX9_about_141 : decode cX9_about 141 = .ok (.invokevirtual 147, 3) := by decide +kernel
theorem dX9_about_144 : decode cX9_about 144 = .ok (.invokevirtual 116, 3) := by decide +kernel
theorem dX9_about_147 : decode cX9_about 147 = .ok (.ireturn, 1) := by decide +kernel
theorem dX9_about_148 : decode cX9_about 148 = .ok (.aload_n 0, 1) := by decide +kernel
theorem dX9_about_149 : decode cX9_about 149 = .ok (.aload_n 0, 1) := by decide +kernel
theorem dX9_about_150 : decode cX9_about 150 = .ok (.getfield 55, 3) := by decide +kernel
theorem dX9_about_153 : decode cX9_about 153 = .ok (.getfield 119, 3) := by decide +kernel
theorem dX9_about_156 : decode cX9_about 156 = .ok (.invokevirtual 116, 3) := by decide +kernel
theorem dX9_about_159 : decode cX9_about 159 = .ok (.ireturn, 1) := by decide +kernel
theorem dX9_bench_0 : decode cX9_bench 0 = .ok (.aload_n 0, 1) := by decide +kernel
theorem dX9_bench_1 : decode cX9_bench 1 = .ok (.iload_n 1, 1) := by decide +kernel
theorem dX9_bench_2 : decode cX9_bench 2 = .ok (.invokevirtual 150, 3) := by decide +kernel
theorem dX9_bench_5 : decode cX9_bench 5 = .ok (.ifCond .eq 11, 3) := by decide +kernel
theorem dX9_bench_8 : decode cX9_bench 8 = .ok (.iload_n 2, 1) := by decide +kernel
theorem dX9_bench_9 : decode cX9_bench 9 = .ok (.iconst 3, 1) := by decide +kernel
theorem dX9_bench_10 : decode cX9_bench 10 = .ok (.invokestatic 128, 3) := by decide +kernel
theorem dX9_bench_13 : decode cX9_bench 13 = .ok (.ifCond .ne 9, 3) := by decide +kernel
theorem dX9_bench_16 : decode cX9_bench 16 = .ok (.aload_n 0, 1) := by decide +kernel
theorem dX9_bench_17 : decode cX9_bench 17 = .ok (.iconst 1, 1) := by decide +kernel
theorem dX9_bench_18 : decode cX9_bench 18 = .ok (.invokevirtual 79, 3) := by decide +kernel
theorem dX9_bench_21 : decode cX9_bench 21 = .ok (.ireturn, 1) := by decide +kernel
theorem dX9_bench_22 : decode cX9_bench 22 = .ok (.iload_n 2, 1) := by decide +kernel
theorem dX9_bench_23 : decode cX9_bench 23 = .ok (.tableswitch 67 0 2 #[25, 39, 53], 25) := by decide +kernel
theorem dX9_bench_48 : decode cX9_bench 48 = .ok (.aload_n 0, 1) := by decide +kernel
theorem dX9_bench_49 : decode cX9_bench 49 = .ok (.aload_n 0, 1) := by decide +kernel
theorem dX9_bench_50 : decode cX9_bench 50 = .ok (.getfield 16, 3) := by decide +kernel
theorem dX9_bench_53 : decode cX9_bench 53 = .ok (.getfield 154, 3) := by decide +kernel
theorem dX9_bench_56 : decode cX9_bench 56 = .ok (.iload_n 1, 1) := by decide +kernel
theorem dX9_bench_57 : decode cX9_bench 57 = .ok (.iaload, 1) := by decide +kernel
theorem dX9_bench_58 : decode cX9_bench 58 = .ok (.invokevirtual 116, 3) := by decide +kernel
theorem dX9_bench_61 : decode cX9_bench 61 = .ok (.ireturn, 1) := by decide +kernel
theorem dX9_bench_62 : decode cX9_bench 62 = .ok (.aload_n 0, 1) := by decide +kernel
theorem dX9_bench_63 : decode cX9_bench 63 = .ok (.aload_n 0, 1) := by decide +kernel
theorem dX9_bench_64 : decode cX9_bench 64 = .ok (.getfield 16, 3) := by decide +kernel
theorem dX9_bench_67 : decode cX9_bench 67 = .ok (.getfield 158, 3) := by decide +kernel
theorem dX9_bench_70 : decode cX9_bench 70 = .ok (.iload_n 1, 1) := by decide +kernel
theorem dX9_bench_71 : decode cX9_bench 71 = .ok (.iaload, 1) := by decide +kernel
theorem dX9_bench_72 : decode cX9_bench 72 = .ok (.invokevirtual 116, 3) := by decide +kernel
theorem dX9_bench_75 : decode cX9_bench 75 = .ok (.ireturn, 1) := by decide +kernel
theorem dX9_bench_76 : decode cX9_bench 76 = .ok (.aload_n 0, 1) := by decide +kernel
theorem dX9_bench_77 : decode cX9_bench 77 = .ok (.aload_n 0, 1) := by decide +kernel
theorem dX9_bench_78 : decode cX9_bench 78 = .ok (.getfield 16, 3) := by decide +kernel
theorem dX9_bench_81 : decode cX9_bench 81 = .ok (.getfield 161, 3) := by decide +kernel
theorem dX9_bench_84 : decode cX9_bench 84 = .ok (.iload_n 1, 1) := by decide +kernel
theorem dX9_bench_85 : decode cX9_bench 85 = .ok (.iaload, 1) := by decide +kernel
theorem dX9_bench_86 : decode cX9_bench 86 = .ok (.invokevirtual 116, 3) := by decide +kernel
theorem dX9_bench_89 : decode cX9_bench 89 = .ok (.ireturn, 1) := by decide +kernel
theorem dX9_bench_90 : decode cX9_bench 90 = .ok (.aload_n 0, 1) := by decide +kernel
theorem dX9_bench_91 : decode cX9_bench 91 = .ok (.aload_n 0, 1) := by decide +kernel
theorem dX9_bench_92 : decode cX9_bench 92 = .ok (.getfield 32, 3) := by decide +kernel
theorem dX9_bench_95 : decode cX9_bench 95 = .ok (.iload_n 1, 1) := by decide +kernel
theorem dX9_bench_96 : decode cX9_bench 96 = .ok (.invokevirtual 164, 3) := by decide +kernel
theorem dX9_bench_99 : decode cX9_bench 99 = .ok (.invokevirtual 116, 3) := by decide +kernel
theorem dX9_bench_102 : decode cX9_bench 102 = .ok (.ireturn, 1) := by decide +kernel
theorem dX9_timeOf_0 : decode cX9_timeOf 0 = .ok (.aload_n 0, 1) := by decide +kernel
theorem dX9_timeOf_1 : decode cX9_timeOf 1 = .ok (.iload_n 1, 1) := by decide +kernel
theorem dX9_timeOf_2 : decode cX9_timeOf 2 = .ok (.invokevirtual 150, 3) := by decide +kernel
theorem dX9_timeOf_5 : decode cX9_timeOf 5 = .ok (.ifCond .eq 11, 3) := by decide +kernel
theorem dX9_timeOf_8 : decode cX9_timeOf 8 = .ok (.aload_n 0, 1) := by decide +kernel
theorem dX9_timeOf_9 : decode cX9_timeOf 9 = .ok (.iload_n 2, 1) := by decide +kernel
theorem dX9_timeOf_10 : decode cX9_timeOf 10 = .ok (.invokevirtual 167, 3) := by decide +kernel
theorem dX9_timeOf_13 : decode cX9_timeOf 13 = .ok (.ifCond .ne 9, 3) := by decide +kernel
theorem dX9_timeOf_16 : decode cX9_timeOf 16 = .ok (.aload_n 0, 1) := by decide +kernel
theorem dX9_timeOf_17 : decode cX9_timeOf 17 = .ok (.iconst 1, 1) := by decide +kernel
theorem dX9_timeOf_18 : decode cX9_timeOf 18 = .ok (.invokevirtual 79, 3) := by decide +kernel
theorem dX9_timeOf_21 : decode cX9_timeOf 21 = .ok (.ireturn, 1) := by decide +kernel
theorem dX9_timeOf_22 : decode cX9_timeOf 22 = .ok (.aload_n 0, 1) := by decide +kernel
theorem dX9_timeOf_23 : decode cX9_timeOf 23 = .ok (.aload_n 0, 1) := by decide +kernel
theorem dX9_timeOf_24 : decode cX9_timeOf 24 = .ok (.getfield 32, 3) := by decide +kernel
theorem dX9_timeOf_27 : decode cX9_timeOf 27 = .ok (.getfield 170, 3) := by decide +kernel
theorem dX9_timeOf_30 : decode cX9_timeOf 30 = .ok (.iload_n 1, 1) := by decide +kernel
theorem dX9_timeOf_31 : decode cX9_timeOf 31 = .ok (.iload_n 2, 1) := by decide +kernel
theorem dX9_timeOf_32 : decode cX9_timeOf 32 = .ok (.invokestatic 173, 3) := by decide +kernel
theorem dX9_timeOf_35 : decode cX9_timeOf 35 = .ok (.iaload, 1) := by decide +kernel
theorem dX9_timeOf_36 : decode cX9_timeOf 36 = .ok (.invokevirtual 116, 3) := by decide +kernel
theorem dX9_timeOf_39 : decode cX9_timeOf 39 = .ok (.ireturn, 1) := by decide +kernel
theorem dX9_stream_0 : decode cX9_stream 0 = .ok (.aload_n 0, 1) := by decide +kernel
theorem dX9_stream_1 : decode cX9_stream 1 = .ok (.getfield 103, 3) := by decide +kernel
theorem dX9_stream_4 : decode cX9_stream 4 = .ok (.ifCond .eq 27, 3) := by decide +kernel
theorem dX9_stream_7 : decode cX9_stream 7 = .ok (.iload_n 1, 1) := by decide +kernel
theorem dX9_stream_8 : decode cX9_stream 8 = .ok (.aload_n 0, 1) := by decide +kernel
theorem dX9_stream_9 : decode cX9_stream 9 = .ok (.getfield 16, 3) := by decide +kernel
theorem dX9_stream_12 : decode cX9_stream 12 = .ok (.getfield 135, 3) := by decide +kernel
theorem dX9_stream_15 : decode cX9_stream 15 = .ok (.iconst 1, 1) := by decide +kernel
theorem dX9_stream_16 : decode cX9_stream 16 = .ok (.isub, 1) := by decide +kernel
theorem dX9_stream_17 : decode cX9_stream 17 = .ok (.invokestatic 128, 3) := by decide +kernel
theorem dX9_stream_20 : decode cX9_stream 20 = .ok (.ifCond .eq 11, 3) := by decide +kernel
theorem dX9_stream_23 : decode cX9_stream 23 = .ok (.iload_n 2, 1) := by decide +kernel
theorem dX9_stream_24 : decode cX9_stream 24 = .ok (.iconst 2, 1) := by decide +kernel
theorem dX9_stream_25 : decode cX9_stream 25 = .ok (.invokestatic 128, 3) := by decide +kernel
theorem dX9_stream_28 : decode cX9_stream 28 = .ok (.ifCond .ne 9, 3) := by decide +kernel
theorem dX9_stream_31 : decode cX9_stream 31 = .ok (.aload_n 0, 1) := by decide +kernel
theorem dX9_stream_32 : decode cX9_stream 32 = .ok (.iconst 1, 1) := by decide +kernel
theorem dX9_stream_33 : decode cX9_stream 33 = .ok (.invokevirtual 79, 3) := by decide +kernel
theorem dX9_stream_36 : decode cX9_stream 36 = .ok (.ireturn, 1) := by decide +kernel
theorem dX9_stream_37 : decode cX9_stream 37 = .ok (.iload_n 2, 1) := by decide +kernel
theorem dX9_stream_38 : decode cX9_stream 38 = .ok (.lookupswitch 54 #[(0, 26), (1, 40)], 26) := by decide +kernel
theorem dX9_stream_64 : decode cX9_stream 64 = .ok (.aload_n 0, 1) := by decide +kernel
theorem dX9_stream_65 : decode cX9_stream 65 = .ok (.aload_n 0, 1) := by decide +kernel
theorem dX9_stream_66 : decode cX9_stream 66 = .ok (.getfield 16, 3) := by decide +kernel
theorem dX9_stream_69 : decode cX9_stream 69 = .ok (.getfield 177, 3) := by decide +kernel
theorem dX9_stream_72 : decode cX9_stream 72 = .ok (.iload_n 1, 1) := by decide +kernel
theorem dX9_stream_73 : decode cX9_stream 73 = .ok (.iaload, 1) := by decide +kernel
theorem dX9_stream_74 : decode cX9_stream 74 = .ok (.invokevirtual 116, 3) := by decide +kernel
theorem dX9_stream_77 : decode cX9_stream 77 = .ok (.ireturn, 1) := by decide +kernel
theorem dX9_stream_78 : decode cX9_stream 78 = .ok (.aload_n 0, 1) := by decide +kernel
theorem dX9_stream_79 : decode cX9_stream 79 = .ok (.aload_n 0, 1) := by decide +kernel
theorem dX9_stream_80 : decode cX9_stream 80 = .ok (.getfield 16, 3) := by decide +kernel
theorem dX9_stream_83 : decode cX9_stream 83 = .ok (.getfield 180, 3) := by decide +kernel
theorem dX9_stream_86 : decode cX9_stream 86 = .ok (.iload_n 1, 1) := by decide +kernel
theorem dX9_stream_87 : decode cX9_stream 87 = .ok (.iaload, 1) := by decide +kernel
theorem dX9_stream_88 : decode cX9_stream 88 = .ok (.invokevirtual 116, 3) := by decide +kernel
theorem dX9_stream_91 : decode cX9_stream 91 = .ok (.ireturn, 1) := by decide +kernel
theorem dX9_stream_92 : decode cX9_stream 92 = .ok (.aload_n 0, 1) := by decide +kernel
theorem dX9_stream_93 : decode cX9_stream 93 = .ok (.aload_n 0, 1) := by decide +kernel
theorem dX9_stream_94 : decode cX9_stream 94 = .ok (.getfield 16, 3) := by decide +kernel
theorem dX9_stream_97 : decode cX9_stream 97 = .ok (.getfield 183, 3) := by decide +kernel
theorem dX9_stream_100 : decode cX9_stream 100 = .ok (.iload_n 1, 1) := by decide +kernel
theorem dX9_stream_101 : decode cX9_stream 101 = .ok (.iaload, 1) := by decide +kernel
theorem dX9_stream_102 : decode cX9_stream 102 = .ok (.invokevirtual 116, 3) := by decide +kernel
theorem dX9_stream_105 : decode cX9_stream 105 = .ok (.ireturn, 1) := by decide +kernel
theorem dX9_cardsOf_0 : decode cX9_cardsOf 0 = .ok (.aload_n 0, 1) := by decide +kernel
theorem dX9_cardsOf_1 : decode cX9_cardsOf 1 = .ok (.iload_n 1, 1) := by decide +kernel
theorem dX9_cardsOf_2 : decode cX9_cardsOf 2 = .ok (.invokevirtual 150, 3) := by decide +kernel
theorem dX9_cardsOf_5 : decode cX9_cardsOf 5 = .ok (.ifCond .eq 19, 3) := by decide +kernel
theorem dX9_cardsOf_8 : decode cX9_cardsOf 8 = .ok (.aload_n 0, 1) := by decide +kernel
theorem dX9_cardsOf_9 : decode cX9_cardsOf 9 = .ok (.iload_n 2, 1) := by decide +kernel
theorem dX9_cardsOf_10 : decode cX9_cardsOf 10 = .ok (.invokevirtual 167, 3) := by decide +kernel
theorem dX9_cardsOf_13 : decode cX9_cardsOf 13 = .ok (.ifCond .eq 11, 3) := by decide +kernel
theorem dX9_cardsOf_16 : decode cX9_cardsOf 16 = .ok (.iload_n 3, 1) := by decide +kernel
theorem dX9_cardsOf_17 : decode cX9_cardsOf 17 = .ok (.iconst 3, 1) := by decide +kernel
theorem dX9_cardsOf_18 : decode cX9_cardsOf 18 = .ok (.invokestatic 128, 3) := by decide +kernel
theorem dX9_cardsOf_21 : decode cX9_cardsOf 21 = .ok (.ifCond .ne 9, 3) := by decide +kernel
theorem dX9_cardsOf_24 : decode cX9_cardsOf 24 = .ok (.aload_n 0, 1) := by decide +kernel
theorem dX9_cardsOf_25 : decode cX9_cardsOf 25 = .ok (.iconst 1, 1) := by decide +kernel
theorem dX9_cardsOf_26 : decode cX9_cardsOf 26 = .ok (.invokevirtual 79, 3) := by decide +kernel
theorem dX9_cardsOf_29 : decode cX9_cardsOf 29 = .ok (.ireturn, 1) := by decide +kernel
theorem dX9_cardsOf_30 : decode cX9_cardsOf 30 = .ok (.iload_n 1, 1) := by decide +kernel
theorem dX9_cardsOf_31 : decode cX9_cardsOf 31 = .ok (.iload_n 2, 1) := by decide +kernel
theorem dX9_cardsOf_32 : decode cX9_cardsOf 32 = .ok (.invokestatic 173, 3) := by decide +kernel
theorem dX9_cardsOf_35 : decode cX9_cardsOf 35 = .ok (.istore 4, 2) := by decide +kernel
theorem dX9_cardsOf_37 : decode cX9_cardsOf 37 = .ok (.iload_n 3, 1) := by decide +kernel
theorem dX9_cardsOf_38 : decode cX9_cardsOf 38 = .ok (.tableswitch 82 0 2 #[26, 41, 56], 26) := by decide +kernel
theorem dX9_cardsOf_64 : decode cX9_cardsOf 64 = .ok (.aload_n 0, 1) := by decide +kernel
theorem dX9_cardsOf_65 : decode cX9_cardsOf 65 = .ok (.aload_n 0, 1) := by decide +kernel
theorem dX9_cardsOf_66 : decode cX9_cardsOf 66 = .ok (.getfield 32, 3) := by decide +kernel
theorem dX9_cardsOf_69 : decode cX9_cardsOf 69 = .ok (.getfield 186, 3) := by decide +kernel
theorem dX9_cardsOf_72 : decode cX9_cardsOf 72 = .ok (.iload 4, 2) := by decide +kernel
theorem dX9_cardsOf_74 : decode cX9_cardsOf 74 = .ok (.iaload, 1) := by decide +kernel
theorem dX9_cardsOf_75 : decode cX9_cardsOf 75 = .ok (.invokevirtual 116, 3) := by decide +kernel
theorem dX9_cardsOf_78 : decode cX9_cardsOf 78 = .ok (.ireturn, 1) := by decide +kernel
theorem dX9_cardsOf_79 : decode cX9_cardsOf 79 = .ok (.aload_n 0, 1) := by decide +kernel
theorem dX9_cardsOf_80 : decode cX9_cardsOf 80 = .ok (.aload_n 0, 1) := by decide +kernel
theorem dX9_cardsOf_81 : decode cX9_cardsOf 81 = .ok (.getfield 41, 3) := by decide +kernel
theorem dX9_cardsOf_84 : decode cX9_cardsOf 84 = .ok (.getfield 189, 3) := by decide +kernel
theorem dX9_cardsOf_87 : decode cX9_cardsOf 87 = .ok (.iload 4, 2) := by decide +kernel
theorem dX9_cardsOf_89 : decode cX9_cardsOf 89 = .ok (.iaload, 1) := by decide +kernel
theorem dX9_cardsOf_90 : decode cX9_cardsOf 90 = .ok (.invokevirtual 116, 3) := by decide +kernel
theorem dX9_cardsOf_93 : decode cX9_cardsOf 93 = .ok (.ireturn, 1) := by decide +kernel
theorem dX9_cardsOf_94 : decode cX9_cardsOf 94 = .ok (.aload_n 0, 1) := by decide +kernel
theorem dX9_cardsOf_95 : decode cX9_cardsOf 95 = .ok (.aload_n 0, 1) := by decide +kernel
theorem dX9_cardsOf_96 : decode cX9_cardsOf 96 = .ok (.getfield 41, 3) := by decide +kernel
theorem dX9_cardsOf_99 : decode cX9_cardsOf 99 = .ok (.getfield 192, 3) := by decide +kernel
theorem dX9_cardsOf_102 : decode cX9_cardsOf 102 = .ok (.iload 4, 2) := by decide +kernel
theorem dX9_cardsOf_104 : decode cX9_cardsOf 104 = .ok (.iaload, 1) := by decide +kernel
theorem dX9_cardsOf_105 : decode cX9_cardsOf 105 = .ok (.aload_n 0, 1) := by decide +kernel
theorem dX9_cardsOf_106 : decode cX9_cardsOf 106 = .ok (.getfield 41, 3) := by decide +kernel
theorem dX9_cardsOf_109 : decode cX9_cardsOf 109 = .ok (.getfield 189, 3) := by decide +kernel
theorem dX9_cardsOf_112 : decode cX9_cardsOf 112 = .ok (.iload 4, 2) := by decide +kernel
theorem dX9_cardsOf_114 : decode cX9_cardsOf 114 = .ok (.iaload, 1) := by decide +kernel
theorem dX9_cardsOf_115 : decode cX9_cardsOf 115 = .ok (.isub, 1) := by decide +kernel
theorem dX9_cardsOf_116 : decode cX9_cardsOf 116 = .ok (.invokevirtual 116, 3) := by decide +kernel
theorem dX9_cardsOf_119 : decode cX9_cardsOf 119 = .ok (.ireturn, 1) := by decide +kernel
theorem dX9_cardsOf_120 : decode cX9_cardsOf 120 = .ok (.aload_n 0, 1) := by decide +kernel
theorem dX9_cardsOf_121 : decode cX9_cardsOf 121 = .ok (.aload_n 0, 1) := by decide +kernel
theorem dX9_cardsOf_122 : decode cX9_cardsOf 122 = .ok (.getfield 41, 3) := by decide +kernel
theorem dX9_cardsOf_125 : decode cX9_cardsOf 125 = .ok (.iload 4, 2) := by decide +kernel
theorem dX9_cardsOf_127 : decode cX9_cardsOf 127 = .ok (.invokevirtual 195, 3) := by decide +kernel
theorem dX9_cardsOf_130 : decode cX9_cardsOf 130 = .ok (.invokevirtual 116, 3) := by decide +kernel
theorem dX9_cardsOf_133 : decode cX9_cardsOf 133 = .ok (.ireturn, 1) := by decide +kernel
theorem dX9_within_0 : decode cX9_within 0 = .ok (.iload_n 0, 1) := by decide +kernel
theorem dX9_within_1 : decode cX9_within 1 = .ok (.ifCond .lt 12, 3) := by decide +kernel
theorem dX9_within_4 : decode cX9_within 4 = .ok (.iload_n 0, 1) := by decide +kernel
theorem dX9_within_5 : decode cX9_within 5 = .ok (.iload_n 1, 1) := by decide +kernel
theorem dX9_within_6 : decode cX9_within 6 = .ok (.if_icmp .gt 7, 3) := by decide +kernel
theorem dX9_within_9 : decode cX9_within 9 = .ok (.iconst 1, 1) := by decide +kernel
theorem dX9_within_10 : decode cX9_within 10 = .ok (.goto 4, 3) := by decide +kernel
theorem dX9_within_13 : decode cX9_within 13 = .ok (.iconst 0, 1) := by decide +kernel
theorem dX9_within_14 : decode cX9_within 14 = .ok (.ireturn, 1) := by decide +kernel
theorem dX9_cell_0 : decode cX9_cell 0 = .ok (.iconst 3, 1) := by decide +kernel
theorem dX9_cell_1 : decode cX9_cell 1 = .ok (.iload_n 0, 1) := by decide +kernel
theorem dX9_cell_2 : decode cX9_cell 2 = .ok (.imul, 1) := by decide +kernel
theorem dX9_cell_3 : decode cX9_cell 3 = .ok (.iload_n 1, 1) := by decide +kernel
theorem dX9_cell_4 : decode cX9_cell 4 = .ok (.iadd, 1) := by decide +kernel
theorem dX9_cell_5 : decode cX9_cell 5 = .ok (.ireturn, 1) := by decide +kernel
theorem dX9_remainder_0 : decode cX9_remainder 0 = .ok (.iload_n 1, 1) := by decide +kernel
theorem dX9_remainder_1 : decode cX9_remainder 1 = .ok (.ifCond .le 9, 3) := by decide +kernel
theorem dX9_remainder_4 : decode cX9_remainder 4 = .ok (.iload_n 0, 1) := by decide +kernel
theorem dX9_remainder_5 : decode cX9_remainder 5 = .ok (.iload_n 1, 1) := by decide +kernel
theorem dX9_remainder_6 : decode cX9_remainder 6 = .ok (.irem, 1) := by decide +kernel
theorem dX9_remainder_7 : decode cX9_remainder 7 = .ok (.goto 4, 3) := by decide +kernel
theorem dX9_remainder_10 : decode cX9_remainder 10 = .ok (.iconst 0, 1) := by decide +kernel
theorem dX9_remainder_11 : decode cX9_remainder 11 = .ok (.ireturn, 1) := by decide +kernel
theorem dX9_isBench_0 : decode cX9_isBench 0 = .ok (.aload_n 0, 1) := by decide +kernel
theorem dX9_isBench_1 : decode cX9_isBench 1 = .ok (.getfield 103, 3) := by decide +kernel
theorem dX9_isBench_4 : decode cX9_isBench 4 = .ok (.ifCond .eq 23, 3) := by decide +kernel
theorem dX9_isBench_7 : decode cX9_isBench 7 = .ok (.iload_n 1, 1) := by decide +kernel
theorem dX9_isBench_8 : decode cX9_isBench 8 = .ok (.aload_n 0, 1) := by decide +kernel
theorem dX9_isBench_9 : decode cX9_isBench 9 = .ok (.getfield 16, 3) := by decide +kernel
theorem dX9_isBench_12 : decode cX9_isBench 12 = .ok (.getfield 113, 3) := by decide +kernel
theorem dX9_isBench_15 : decode cX9_isBench 15 = .ok (.iconst 1, 1) := by decide +kernel
theorem dX9_isBench_16 : decode cX9_isBench 16 = .ok (.isub, 1) := by decide +kernel
theorem dX9_isBench_17 : decode cX9_isBench 17 = .ok (.invokestatic 128, 3) := by decide +kernel
theorem dX9_isBench_20 : decode cX9_isBench 20 = .ok (.ifCond .eq 7, 3) := by decide +kernel
theorem dX9_isBench_23 : decode cX9_isBench 23 = .ok (.iconst 1, 1) := by decide +kernel
theorem dX9_isBench_24 : decode cX9_isBench 24 = .ok (.goto 4, 3) := by decide +kernel
theorem dX9_isBench_27 : decode cX9_isBench 27 = .ok (.iconst 0, 1) := by decide +kernel
theorem dX9_isBench_28 : decode cX9_isBench 28 = .ok (.ireturn, 1) := by decide +kernel
theorem dX9_isKind_0 : decode cX9_isKind 0 = .ok (.aload_n 0, 1) := by decide +kernel
theorem dX9_isKind_1 : decode cX9_isKind 1 = .ok (.getfield 103, 3) := by decide +kernel
theorem dX9_isKind_4 : decode cX9_isKind 4 = .ok (.ifCond .eq 23, 3) := by decide +kernel
theorem dX9_isKind_7 : decode cX9_isKind 7 = .ok (.iload_n 1, 1) := by decide +kernel
theorem dX9_isKind_8 : decode cX9_isKind 8 = .ok (.aload_n 0, 1) := by decide +kernel
theorem dX9_isKind_9 : decode cX9_isKind 9 = .ok (.getfield 16, 3) := by decide +kernel
theorem dX9_isKind_12 : decode cX9_isKind 12 = .ok (.getfield 132, 3) := by decide +kernel
theorem dX9_isKind_15 : decode cX9_isKind 15 = .ok (.iconst 1, 1) := by decide +kernel
theorem dX9_isKind_16 : decode cX9_isKind 16 = .ok (.isub, 1) := by decide +kernel
theorem dX9_isKind_17 : decode cX9_isKind 17 = .ok (.invokestatic 128, 3) := by decide +kernel
theorem dX9_isKind_20 : decode cX9_isKind 20 = .ok (.ifCond .eq 7, 3) := by decide +kernel
theorem dX9_isKind_23 : decode cX9_isKind 23 = .ok (.iconst 1, 1) := by decide +kernel
theorem dX9_isKind_24 : decode cX9_isKind 24 = .ok (.goto 4, 3) := by decide +kernel
theorem dX9_isKind_27 : decode cX9_isKind 27 = .ok (.iconst 0, 1) := by decide +kernel
theorem dX9_isKind_28 : decode cX9_isKind 28 = .ok (.ireturn, 1) := by decide +kernel
theorem dX9_begin_0 : decode cX9_begin 0 = .ok (.aload_n 0, 1) := by decide +kernel
theorem dX9_begin_1 : decode cX9_begin 1 = .ok (.getfield 103, 3) := by decide +kernel
theorem dX9_begin_4 : decode cX9_begin 4 = .ok (.ifCond .ne 11, 3) := by decide +kernel
theorem dX9_begin_7 : decode cX9_begin 7 = .ok (.aload_n 0, 1) := by decide +kernel
theorem dX9_begin_8 : decode cX9_begin 8 = .ok (.iconst 1, 1) := by decide +kernel
theorem dX9_begin_9 : decode cX9_begin 9 = .ok (.invokevirtual 79, 3) := by decide +kernel
theorem dX9_begin_12 : decode cX9_begin 12 = .ok (.pop, 1) := by decide +kernel
theorem dX9_begin_13 : decode cX9_begin 13 = .ok (.iconst 0, 1) := by decide +kernel
theorem dX9_begin_14 : decode cX9_begin 14 = .ok (.ireturn, 1) := by decide +kernel
theorem dX9_begin_15 : decode cX9_begin 15 = .ok (.aload_n 0, 1) := by decide +kernel
theorem dX9_begin_16 : decode cX9_begin 16 = .ok (.getfield 41, 3) := by decide +kernel
theorem dX9_begin_19 : decode cX9_begin 19 = .ok (.iload_n 1, 1) := by decide +kernel
theorem dX9_begin_20 : decode cX9_begin 20 = .ok (.invokevirtual 106, 3) := by decide +kernel
theorem dX9_begin_23 : decode cX9_begin 23 = .ok (.aload_n 0, 1) := by decide +kernel
theorem dX9_begin_24 : decode cX9_begin 24 = .ok (.iconst 0, 1) := by decide +kernel
theorem dX9_begin_25 : decode cX9_begin 25 = .ok (.invokevirtual 116, 3) := by decide +kernel
theorem dX9_begin_28 : decode cX9_begin 28 = .ok (.pop, 1) := by decide +kernel
theorem dX9_begin_29 : decode cX9_begin 29 = .ok (.iconst 1, 1) := by decide +kernel
theorem dX9_begin_30 : decode cX9_begin 30 = .ok (.ireturn, 1) := by decide +kernel
theorem dX9_run_0 : decode cX9_run 0 = .ok (.aload_n 0, 1) := by decide +kernel
theorem dX9_run_1 : decode cX9_run 1 = .ok (.getfield 103, 3) := by decide +kernel
theorem dX9_run_4 : decode cX9_run 4 = .ok (.ifCond .ne 9, 3) := by decide +kernel
theorem dX9_run_7 : decode cX9_run 7 = .ok (.aload_n 0, 1) := by decide +kernel
theorem dX9_run_8 : decode cX9_run 8 = .ok (.iconst 1, 1) := by decide +kernel
theorem dX9_run_9 : decode cX9_run 9 = .ok (.invokevirtual 79, 3) := by decide +kernel
theorem dX9_run_12 : decode cX9_run 12 = .ok (.ireturn, 1) := by decide +kernel
theorem dX9_run_13 : decode cX9_run 13 = .ok (.iload_n 1, 1) := by decide +kernel
theorem dX9_run_14 : decode cX9_run 14 = .ok (.iconst 1, 1) := by decide +kernel
theorem dX9_run_15 : decode cX9_run 15 = .ok (.if_icmp .lt 10, 3) := by decide +kernel
theorem dX9_run_18 : decode cX9_run 18 = .ok (.iload_n 1, 1) := by decide +kernel
theorem dX9_run_19 : decode cX9_run 19 = .ok (.sipush 500, 3) := by decide +kernel
theorem dX9_run_22 : decode cX9_run 22 = .ok (.if_icmp .le 9, 3) := by decide +kernel
theorem dX9_run_25 : decode cX9_run 25 = .ok (.aload_n 0, 1) := by decide +kernel
theorem dX9_run_26 : decode cX9_run 26 = .ok (.iconst 2, 1) := by decide +kernel
theorem dX9_run_27 : decode cX9_run 27 = .ok (.invokevirtual 79, 3) := by decide +kernel
theorem dX9_run_30 : decode cX9_run 30 = .ok (.ireturn, 1) := by decide +kernel
theorem dX9_run_31 : decode cX9_run 31 = .ok (.aload_n 0, 1) := by decide +kernel
theorem dX9_run_32 : decode cX9_run 32 = .ok (.getfield 41, 3) := by decide +kernel
theorem dX9_run_35 : decode cX9_run 35 = .ok (.getfield 141, 3) := by decide +kernel
theorem dX9_run_38 : decode cX9_run 38 = .ok (.iload_n 1, 1) := by decide +kernel
theorem dX9_run_39 : decode cX9_run 39 = .ok (.iadd, 1) := by decide +kernel
theorem dX9_run_40 : decode cX9_run 40 = .ok (.sipush 9999, 3) := by decide +kernel
theorem dX9_run_43 : decode cX9_run 43 = .ok (.if_icmp .le 9, 3) := by decide +kernel
theorem dX9_run_46 : decode cX9_run 46 = .ok (.aload_n 0, 1) := by decide +kernel
theorem dX9_run_47 : decode cX9_run 47 = .ok (.iconst 5, 1) := by decide +kernel
theorem dX9_run_48 : decode cX9_run 48 = .ok (.invokevirtual 79, 3) := by decide +kernel
theorem dX9_run_51 : decode cX9_run 51 = .ok (.ireturn, 1) := by decide +kernel
theorem dX9_run_52 : decode cX9_run 52 = .ok (.aload_n 0, 1) := by decide +kernel
theorem dX9_run_53 : decode cX9_run 53 = .ok (.getfield 41, 3) := by decide +kernel
theorem dX9_run_56 : decode cX9_run 56 = .ok (.getfield 198, 3) := by decide +kernel
theorem dX9_run_59 : decode cX9_run 59 = .ok (.istore_n 2, 1) := by decide +kernel
theorem dX9_run_60 : decode cX9_run 60 = .ok (.iconst 0, 1) := by decide +kernel
theorem dX9_run_61 : decode cX9_run 61 = .ok (.istore_n 3, 1) := by decide +kernel
theorem dX9_run_62 : decode cX9_run 62 = .ok (.iload_n 3, 1) := by decide +kernel
theorem dX9_run_63 : decode cX9_run 63 = .ok (.iload_n 1, 1) := by decide +kernel
theorem dX9_run_64 : decode cX9_run 64 = .ok (.if_icmp .ge 16, 3) := by decide +kernel
theorem dX9_run_67 : decode cX9_run 67 = .ok (.aload_n 0, 1) := by decide +kernel
theorem dX9_run_68 : decode cX9_run 68 = .ok (.getfield 41, 3) := by decide +kernel
theorem dX9_run_71 : decode cX9_run 71 = .ok (.invokevirtual 201, 3) := by decide +kernel
theorem dX9_run_74 : decode cX9_run 74 = .ok (.iinc 3 1, 3) := by decide +kernel
theorem dX9_run_77 : decode cX9_run 77 = .ok (.goto (-15), 3) := by decide +kernel
theorem dX9_run_80 : decode cX9_run 80 = .ok (.aload_n 0, 1) := by decide +kernel
theorem dX9_run_81 : decode cX9_run 81 = .ok (.aload_n 0, 1) := by decide +kernel
theorem dX9_run_82 : decode cX9_run 82 = .ok (.getfield 41, 3) := by decide +kernel
theorem dX9_run_85 : decode cX9_run 85 = .ok (.getfield 198, 3) := by decide +kernel
theorem dX9_run_88 : decode cX9_run 88 = .ok (.iload_n 2, 1) := by decide +kernel
theorem dX9_run_89 : decode cX9_run 89 = .ok (.isub, 1) := by decide +kernel
theorem dX9_run_90 : decode cX9_run 90 = .ok (.invokevirtual 116, 3) := by decide +kernel
theorem dX9_run_93 : decode cX9_run 93 = .ok (.ireturn, 1) := by decide +kernel
theorem dX9_does_0 : decode cX9_does 0 = .ok (.aload_n 0, 1) := by decide +kernel
theorem dX9_does_1 : decode cX9_does 1 = .ok (.iload_n 1, 1) := by decide +kernel
theorem dX9_does_2 : decode cX9_does 2 = .ok (.invokevirtual 150, 3) := by decide +kernel
theorem dX9_does_5 : decode cX9_does 5 = .ok (.ifCond .eq 11, 3) := by decide +kernel
theorem dX9_does_8 : decode cX9_does 8 = .ok (.iload_n 2, 1) := by decide +kernel
theorem dX9_does_9 : decode cX9_does 9 = .ok (.iconst 3, 1) := by decide +kernel
theorem dX9_does_10 : decode cX9_does 10 = .ok (.invokestatic 128, 3) := by decide +kernel
theorem dX9_does_13 : decode cX9_does 13 = .ok (.ifCond .ne 9, 3) := by decide +kernel
theorem dX9_does_16 : decode cX9_does 16 = .ok (.aload_n 0, 1) := by decide +kernel
theorem dX9_does_17 : decode cX9_does 17 = .ok (.iconst 1, 1) := by decide +kernel
theorem dX9_does_18 : decode cX9_does 18 = .ok (.invokevirtual 79, 3) := by decide +kernel
theorem dX9_does_21 : decode cX9_does 21 = .ok (.ireturn, 1) := by decide +kernel
theorem dX9_does_22 : decode cX9_does 22 = .ok (.iload_n 2, 1) := by decide +kernel
theorem dX9_does_23 : decode cX9_does 23 = .ok (.tableswitch 84 0 2 #[25, 39, 71], 25) := by decide +kernel
theorem dX9_does_48 : decode cX9_does 48 = .ok (.aload_n 0, 1) := by decide +kernel
theorem dX9_does_49 : decode cX9_does 49 = .ok (.aload_n 0, 1) := by decide +kernel
theorem dX9_does_50 : decode cX9_does 50 = .ok (.getfield 41, 3) := by decide +kernel
theorem dX9_does_53 : decode cX9_does 53 = .ok (.getfield 204, 3) := by decide +kernel
theorem dX9_does_56 : decode cX9_does 56 = .ok (.iload_n 1, 1) := by decide +kernel
theorem dX9_does_57 : decode cX9_does 57 = .ok (.iaload, 1) := by decide +kernel
theorem dX9_does_58 : decode cX9_does 58 = .ok (.invokevirtual 116, 3) := by decide +kernel
theorem dX9_does_61 : decode cX9_does 61 = .ok (.ireturn, 1) := by decide +kernel
theorem dX9_does_62 : decode cX9_does 62 = .ok (.aload_n 0, 1) := by decide +kernel
theorem dX9_does_63 : decode cX9_does 63 = .ok (.aload_n 0, 1) := by decide +kernel
theorem dX9_does_64 : decode cX9_does 64 = .ok (.getfield 41, 3) := by decide +kernel
theorem dX9_does_67 : decode cX9_does 67 = .ok (.getfield 204, 3) := by decide +kernel
theorem dX9_does_70 : decode cX9_does 70 = .ok (.iload_n 1, 1) := by decide +kernel
theorem dX9_does_71 : decode cX9_does 71 = .ok (.iaload, 1) := by decide +kernel
theorem dX9_does_72 : decode cX9_does 72 = .ok (.iconst 1, 1) := by decide +kernel
theorem dX9_does_73 : decode cX9_does 73 = .ok (.if_icmp .ne 15, 3) := by decide +kernel
theorem dX9_does_76 : decode cX9_does 76 = .ok (.aload_n 0, 1) := by decide +kernel
theorem dX9_does_77 : decode cX9_does 77 = .ok (.getfield 41, 3) := by decide +kernel
theorem dX9_does_80 : decode cX9_does 80 = .ok (.getfield 207, 3) := by decide +kernel
theorem dX9_does_83 : decode cX9_does 83 = .ok (.iload_n 1, 1) := by decide +kernel
theorem dX9_does_84 : decode cX9_does 84 = .ok (.iaload, 1) := by decide +kernel
theorem dX9_does_85 : decode cX9_does 85 = .ok (.goto 5, 3) := by decide +kernel
theorem dX9_does_88 : decode cX9_does 88 = .ok (.bipush (-2), 2) := by decide +kernel
theorem dX9_does_90 : decode cX9_does 90 = .ok (.invokevirtual 116, 3) := by decide +kernel
theorem dX9_does_93 : decode cX9_does 93 = .ok (.ireturn, 1) := by decide +kernel
theorem dX9_does_94 : decode cX9_does 94 = .ok (.aload_n 0, 1) := by decide +kernel
theorem dX9_does_95 : decode cX9_does 95 = .ok (.aload_n 0, 1) := by decide +kernel
theorem dX9_does_96 : decode cX9_does 96 = .ok (.getfield 41, 3) := by decide +kernel
theorem dX9_does_99 : decode cX9_does 99 = .ok (.iload_n 1, 1) := by decide +kernel
theorem dX9_does_100 : decode cX9_does 100 = .ok (.invokevirtual 210, 3) := by decide +kernel
theorem dX9_does_103 : decode cX9_does 103 = .ok (.invokevirtual 116, 3) := by decide +kernel
theorem dX9_does_106 : decode cX9_does 106 = .ok (.ireturn, 1) := by decide +kernel
theorem dX9_does_107 : decode cX9_does 107 = .ok (.aload_n 0, 1) := by decide +kernel
theorem dX9_does_108 : decode cX9_does 108 = .ok (.aload_n 0, 1) := by decide +kernel
theorem dX9_does_109 : decode cX9_does 109 = .ok (.getfield 41, 3) := by decide +kernel
theorem dX9_does_112 : decode cX9_does 112 = .ok (.getfield 207, 3) := by decide +kernel
theorem dX9_does_115 : decode cX9_does 115 = .ok (.iload_n 1, 1) := by decide +kernel
theorem dX9_does_116 : decode cX9_does 116 = .ok (.iaload, 1) := by decide +kernel
theorem dX9_does_117 : decode cX9_does 117 = .ok (.invokevirtual 116, 3) := by decide +kernel
theorem dX9_does_120 : decode cX9_does 120 = .ok (.ireturn, 1) := by decide +kernel
theorem dX9_counts_0 : decode cX9_counts 0 = .ok (.aload_n 0, 1) := by decide +kernel
theorem dX9_counts_1 : decode cX9_counts 1 = .ok (.iload_n 1, 1) := by decide +kernel
theorem dX9_counts_2 : decode cX9_counts 2 = .ok (.invokevirtual 150, 3) := by decide +kernel
theorem dX9_counts_5 : decode cX9_counts 5 = .ok (.ifCond .eq 11, 3) := by decide +kernel
theorem dX9_counts_8 : decode cX9_counts 8 = .ok (.iload_n 2, 1) := by decide +kernel
theorem dX9_counts_9 : decode cX9_counts 9 = .ok (.iconst 4, 1) := by decide +kernel
theorem dX9_counts_10 : decode cX9_counts 10 = .ok (.invokestatic 128, 3) := by decide +kernel
theorem dX9_counts_13 : decode cX9_counts 13 = .ok (.ifCond .ne 9, 3) := by decide +kernel
theorem dX9_counts_16 : decode cX9_counts 16 = .ok (.aload_n 0, 1) := by decide +kernel
theorem dX9_counts_17 : decode cX9_counts 17 = .ok (.iconst 1, 1) := by decide +kernel
theorem dX9_counts_18 : decode cX9_counts 18 = .ok (.invokevirtual 79, 3) := by decide +kernel
theorem dX9_counts_21 : decode cX9_counts 21 = .ok (.ireturn, 1) := by decide +kernel
theorem dX9_counts_22 : decode cX9_counts 22 = .ok (.aload_n 0, 1) := by decide +kernel
theorem dX9_counts_23 : decode cX9_counts 23 = .ok (.iload_n 2, 1) := by decide +kernel
theorem dX9_counts_24 : decode cX9_counts 24 = .ok (.ifCond .ne 15, 3) := by decide +kernel
theorem dX9_counts_27 : decode cX9_counts 27 = .ok (.aload_n 0, 1) := by decide +kernel
theorem dX9_counts_28 : decode cX9_counts 28 = .ok (.getfield 41, 3) := by decide +kernel
theorem dX9_counts_31 : decode cX9_counts 31 = .ok (.getfield 213, 3) := by decide +kernel
theorem dX9_counts_34 : decode cX9_counts 34 = .ok (.iload_n 1, 1) := by decide +kernel
theorem dX9_counts_35 : decode cX9_counts 35 = .ok (.iaload, 1) := by decide +kernel
theorem dX9_counts_36 : decode cX9_counts 36 = .ok (.goto 14, 3) := by decide +kernel
theorem dX9_counts_39 : decode cX9_counts 39 = .ok (.aload_n 0, 1) := by decide +kernel
theorem dX9_counts_40 : decode cX9_counts 40 = .ok (.getfield 41, 3) := by decide +kernel
theorem dX9_counts_43 : decode cX9_counts 43 = .ok (.iload_n 1, 1) := by decide +kernel
theorem dX9_counts_44 : decode cX9_counts 44 = .ok (.iload_n 2, 1) := by decide +kernel
theorem dX9_counts_45 : decode cX9_counts 45 = .ok (.iconst 1, 1) := by decide +kernel
theorem dX9_counts_46 : decode cX9_counts 46 = .ok (.isub, 1) := by decide +kernel
theorem dX9_counts_47 : decode cX9_counts 47 = .ok (.invokevirtual 216, 3) := by decide +kernel
theorem dX9_counts_50 : decode cX9_counts 50 = .ok (.invokevirtual 116, 3) := by decide +kernel
theorem dX9_counts_53 : decode cX9_counts 53 = .ok (.ireturn, 1) := by decide +kernel
theorem dX9_orders_0 : decode cX9_orders 0 = .ok (.aload_n 0, 1) := by decide +kernel
theorem dX9_orders_1 : decode cX9_orders 1 = .ok (.iload_n 1, 1) := by decide +kernel
theorem dX9_orders_2 : decode cX9_orders 2 = .ok (.invokevirtual 167, 3) := by decide +kernel
theorem dX9_orders_5 : decode cX9_orders 5 = .ok (.ifCond .eq 11, 3) := by decide +kernel
theorem dX9_orders_8 : decode cX9_orders 8 = .ok (.iload_n 2, 1) := by decide +kernel
theorem dX9_orders_9 : decode cX9_orders 9 = .ok (.iconst 3, 1) := by decide +kernel
theorem dX9_orders_10 : decode cX9_orders 10 = .ok (.invokestatic 128, 3) := by decide +kernel
theorem dX9_orders_13 : decode cX9_orders 13 = .ok (.ifCond .ne 9, 3) := by decide +kernel
theorem dX9_orders_16 : decode cX9_orders 16 = .ok (.aload_n 0, 1) := by decide +kernel
theorem dX9_orders_17 : decode cX9_orders 17 = .ok (.iconst 1, 1) := by decide +kernel
theorem dX9_orders_18 : decode cX9_orders 18 = .ok (.invokevirtual 79, 3) := by decide +kernel
theorem dX9_orders_21 : decode cX9_orders 21 = .ok (.ireturn, 1) := by decide +kernel
theorem dX9_orders_22 : decode cX9_orders 22 = .ok (.iload_n 2, 1) := by decide +kernel
theorem dX9_orders_23 : decode cX9_orders 23 = .ok (.tableswitch 77 0 2 #[25, 39, 63], 25) := by decide +kernel
theorem dX9_orders_48 : decode cX9_orders 48 = .ok (.aload_n 0, 1) := by decide +kernel
theorem dX9_orders_49 : decode cX9_orders 49 = .ok (.aload_n 0, 1) := by decide +kernel
theorem dX9_orders_50 : decode cX9_orders 50 = .ok (.getfield 41, 3) := by decide +kernel
theorem dX9_orders_53 : decode cX9_orders 53 = .ok (.getfield 219, 3) := by decide +kernel
theorem dX9_orders_56 : decode cX9_orders 56 = .ok (.iload_n 1, 1) := by decide +kernel
theorem dX9_orders_57 : decode cX9_orders 57 = .ok (.iaload, 1) := by decide +kernel
theorem dX9_orders_58 : decode cX9_orders 58 = .ok (.invokevirtual 116, 3) := by decide +kernel
theorem dX9_orders_61 : decode cX9_orders 61 = .ok (.ireturn, 1) := by decide +kernel
theorem dX9_orders_62 : decode cX9_orders 62 = .ok (.aload_n 0, 1) := by decide +kernel
theorem dX9_orders_63 : decode cX9_orders 63 = .ok (.aload_n 0, 1) := by decide +kernel
theorem dX9_orders_64 : decode cX9_orders 64 = .ok (.getfield 41, 3) := by decide +kernel
theorem dX9_orders_67 : decode cX9_orders 67 = .ok (.getfield 219, 3) := by decide +kernel
theorem dX9_orders_70 : decode cX9_orders 70 = .ok (.iload_n 1, 1) := by decide +kernel
theorem dX9_orders_71 : decode cX9_orders 71 = .ok (.iaload, 1) := by decide +kernel
theorem dX9_orders_72 : decode cX9_orders 72 = .ok (.aload_n 0, 1) := by decide +kernel
theorem dX9_orders_73 : decode cX9_orders 73 = .ok (.getfield 41, 3) := by decide +kernel
theorem dX9_orders_76 : decode cX9_orders 76 = .ok (.getfield 222, 3) := by decide +kernel
theorem dX9_orders_79 : decode cX9_orders 79 = .ok (.iload_n 1, 1) := by decide +kernel
theorem dX9_orders_80 : decode cX9_orders 80 = .ok (.iaload, 1) := by decide +kernel
theorem dX9_orders_81 : decode cX9_orders 81 = .ok (.isub, 1) := by decide +kernel
theorem dX9_orders_82 : decode cX9_orders 82 = .ok (.invokevirtual 116, 3) := by decide +kernel
theorem dX9_orders_85 : decode cX9_orders 85 = .ok (.ireturn, 1) := by decide +kernel
theorem dX9_orders_86 : decode cX9_orders 86 = .ok (.aload_n 0, 1) := by decide +kernel
theorem dX9_orders_87 : decode cX9_orders 87 = .ok (.aload_n 0, 1) := by decide +kernel
theorem dX9_orders_88 : decode cX9_orders 88 = .ok (.getfield 41, 3) := by decide +kernel
theorem dX9_orders_91 : decode cX9_orders 91 = .ok (.getfield 222, 3) := by decide +kernel
theorem dX9_orders_94 : decode cX9_orders 94 = .ok (.iload_n 1, 1) := by decide +kernel
theorem dX9_orders_95 : decode cX9_orders 95 = .ok (.iaload, 1) := by decide +kernel
theorem dX9_orders_96 : decode cX9_orders 96 = .ok (.invokevirtual 116, 3) := by decide +kernel
theorem dX9_orders_99 : decode cX9_orders 99 = .ok (.ireturn, 1) := by decide +kernel
theorem dX9_orders_100 : decode cX9_orders 100 = .ok (.aload_n 0, 1) := by decide +kernel
theorem dX9_orders_101 : decode cX9_orders 101 = .ok (.aload_n 0, 1) := by decide +kernel
theorem dX9_orders_102 : decode cX9_orders 102 = .ok (.getfield 41, 3) := by decide +kernel
theorem dX9_orders_105 : decode cX9_orders 105 = .ok (.getfield 225, 3) := by decide +kernel
theorem dX9_orders_108 : decode cX9_orders 108 = .ok (.iload_n 1, 1) := by decide +kernel
theorem dX9_orders_109 : decode cX9_orders 109 = .ok (.iaload, 1) := by decide +kernel
theorem dX9_orders_110 : decode cX9_orders 110 = .ok (.invokevirtual 116, 3) := by decide +kernel
theorem dX9_orders_113 : decode cX9_orders 113 = .ok (.ireturn, 1) := by decide +kernel
theorem dX9_starved_0 : decode cX9_starved 0 = .ok (.aload_n 0, 1) := by decide +kernel
theorem dX9_starved_1 : decode cX9_starved 1 = .ok (.getfield 103, 3) := by decide +kernel
theorem dX9_starved_4 : decode cX9_starved 4 = .ok (.ifCond .eq 11, 3) := by decide +kernel
theorem dX9_starved_7 : decode cX9_starved 7 = .ok (.iload_n 1, 1) := by decide +kernel
theorem dX9_starved_8 : decode cX9_starved 8 = .ok (.iconst 1, 1) := by decide +kernel
theorem dX9_starved_9 : decode cX9_starved 9 = .ok (.invokestatic 128, 3) := by decide +kernel
theorem dX9_starved_12 : decode cX9_starved 12 = .ok (.ifCond .ne 9, 3) := by decide +kernel
theorem dX9_starved_15 : decode cX9_starved 15 = .ok (.aload_n 0, 1) := by decide +kernel
theorem dX9_starved_16 : decode cX9_starved 16 = .ok (.iconst 1, 1) := by decide +kernel
theorem dX9_starved_17 : decode cX9_starved 17 = .ok (.invokevirtual 79, 3) := by decide +kernel
theorem dX9_starved_20 : decode cX9_starved 20 = .ok (.ireturn, 1) := by decide +kernel
theorem dX9_starved_21 : decode cX9_starved 21 = .ok (.aload_n 0, 1) := by decide +kernel
theorem dX9_starved_22 : decode cX9_starved 22 = .ok (.getfield 41, 3) := by decide +kernel
theorem dX9_starved_25 : decode cX9_starved 25 = .ok (.getfield 228, 3) := by decide +kernel
theorem dX9_starved_28 : decode cX9_starved 28 = .ok (.bipush (-2), 2) := by decide +kernel
theorem dX9_starved_30 : decode cX9_starved 30 = .ok (.if_icmp .ne 10, 3) := by decide +kernel
theorem dX9_starved_33 : decode cX9_starved 33 = .ok (.aload_n 0, 1) := by decide +kernel
theorem dX9_starved_34 : decode cX9_starved 34 = .ok (.bipush 6, 2) := by decide +kernel
theorem dX9_starved_36 : decode cX9_starved 36 = .ok (.invokevirtual 79, 3) := by decide +kernel
theorem dX9_starved_39 : decode cX9_starved 39 = .ok (.ireturn, 1) := by decide +kernel
theorem dX9_starved_40 : decode cX9_starved 40 = .ok (.aload_n 0, 1) := by decide +kernel
theorem dX9_starved_41 : decode cX9_starved 41 = .ok (.iload_n 1, 1) := by decide +kernel
theorem dX9_starved_42 : decode cX9_starved 42 = .ok (.ifCond .ne 13, 3) := by decide +kernel
theorem dX9_starved_45 : decode cX9_starved 45 = .ok (.aload_n 0, 1) := by decide +kernel
theorem dX9_starved_46 : decode cX9_starved 46 = .ok (.getfield 41, 3) := by decide +kernel
theorem dX9_starved_49 : decode cX9_starved 49 = .ok (.getfield 228, 3) := by decide +kernel
theorem dX9_starved_52 : decode cX9_starved 52 = .ok (.goto 10, 3) := by decide +kernel
theorem dX9_starved_55 : decode cX9_starved 55 = .ok (.aload_n 0, 1) := by decide +kernel
theorem dX9_starved_56 : decode cX9_starved 56 = .ok (.getfield 41, 3) := by decide +kernel
theorem dX9_starved_59 : decode cX9_starved 59 = .ok (.getfield 231, 3) := by decide +kernel
theorem dX9_starved_62 : decode cX9_starved 62 = .ok (.invokevirtual 116, 3) := by decide +kernel
theorem dX9_starved_65 : decode cX9_starved 65 = .ok (.ireturn, 1) := by decide +kernel
theorem dX9_peak_0 : decode cX9_peak 0 = .ok (.aload_n 0, 1) := by decide +kernel
theorem dX9_peak_1 : decode cX9_peak 1 = .ok (.iload_n 1, 1) := by decide +kernel
theorem dX9_peak_2 : decode cX9_peak 2 = .ok (.invokevirtual 150, 3) := by decide +kernel
theorem dX9_peak_5 : decode cX9_peak 5 = .ok (.ifCond .eq 19, 3) := by decide +kernel
theorem dX9_peak_8 : decode cX9_peak 8 = .ok (.aload_n 0, 1) := by decide +kernel
theorem dX9_peak_9 : decode cX9_peak 9 = .ok (.aload_n 0, 1) := by decide +kernel
theorem dX9_peak_10 : decode cX9_peak 10 = .ok (.getfield 41, 3) := by decide +kernel
theorem dX9_peak_13 : decode cX9_peak 13 = .ok (.getfield 234, 3) := by decide +kernel
theorem dX9_peak_16 : decode cX9_peak 16 = .ok (.iload_n 1, 1) := by decide +kernel
theorem dX9_peak_17 : decode cX9_peak 17 = .ok (.iaload, 1) := by decide +kernel
theorem dX9_peak_18 : decode cX9_peak 18 = .ok (.invokevirtual 116, 3) := by decide +kernel
theorem dX9_peak_21 : decode cX9_peak 21 = .ok (.goto 8, 3) := by decide +kernel
theorem dX9_peak_24 : decode cX9_peak 24 = .ok (.aload_n 0, 1) := by decide +kernel
theorem dX9_peak_25 : decode cX9_peak 25 = .ok (.iconst 1, 1) := by decide +kernel
theorem dX9_peak_26 : decode cX9_peak 26 = .ok (.invokevirtual 79, 3) := by decide +kernel
theorem dX9_peak_29 : decode cX9_peak 29 = .ok (.ireturn, 1) := by decide +kernel
theorem dX9_firstOf_0 : decode cX9_firstOf 0 = .ok (.aload_n 0, 1) := by decide +kernel
theorem dX9_firstOf_1 : decode cX9_firstOf 1 = .ok (.iload_n 1, 1) := by decide +kernel
theorem dX9_firstOf_2 : decode cX9_firstOf 2 = .ok (.invokevirtual 167, 3) := by decide +kernel
theorem dX9_firstOf_5 : decode cX9_firstOf 5 = .ok (.ifCond .eq 19, 3) := by decide +kernel
theorem dX9_firstOf_8 : decode cX9_firstOf 8 = .ok (.aload_n 0, 1) := by decide +kernel
theorem dX9_firstOf_9 : decode cX9_firstOf 9 = .ok (.aload_n 0, 1) := by decide +kernel
theorem dX9_firstOf_10 : decode cX9_firstOf 10 = .ok (.getfield 41, 3) := by decide +kernel
theorem dX9_firstOf_13 : decode cX9_firstOf 13 = .ok (.getfield 237, 3) := by decide +kernel
theorem dX9_firstOf_16 : decode cX9_firstOf 16 = .ok (.iload_n 1, 1) := by decide +kernel
theorem dX9_firstOf_17 : decode cX9_firstOf 17 = .ok (.iaload, 1) := by decide +kernel
theorem dX9_firstOf_18 : decode cX9_firstOf 18 = .ok (.invokevirtual 116, 3) := by decide +kernel
theorem dX9_firstOf_21 : decode cX9_firstOf 21 = .ok (.goto 8, 3) := by decide +kernel
theorem dX9_firstOf_24 : decode cX9_firstOf 24 = .ok (.aload_n 0, 1) := by decide +kernel
theorem dX9_firstOf_25 : decode cX9_firstOf 25 = .ok (.iconst 1, 1) := by decide +kernel
theorem dX9_firstOf_26 : decode cX9_firstOf 26 = .ok (.invokevirtual 79, 3) := by decide +kernel
theorem dX9_firstOf_29 : decode cX9_firstOf 29 = .ok (.ireturn, 1) := by decide +kernel
theorem dX9_rate_0 : decode cX9_rate 0 = .ok (.aload_n 0, 1) := by decide +kernel
theorem dX9_rate_1 : decode cX9_rate 1 = .ok (.getfield 103, 3) := by decide +kernel
theorem dX9_rate_4 : decode cX9_rate 4 = .ok (.ifCond .eq 11, 3) := by decide +kernel
theorem dX9_rate_7 : decode cX9_rate 7 = .ok (.iload_n 1, 1) := by decide +kernel
theorem dX9_rate_8 : decode cX9_rate 8 = .ok (.iconst 1, 1) := by decide +kernel
theorem dX9_rate_9 : decode cX9_rate 9 = .ok (.invokestatic 128, 3) := by decide +kernel
theorem dX9_rate_12 : decode cX9_rate 12 = .ok (.ifCond .ne 9, 3) := by decide +kernel
theorem dX9_rate_15 : decode cX9_rate 15 = .ok (.aload_n 0, 1) := by decide +kernel
theorem dX9_rate_16 : decode cX9_rate 16 = .ok (.iconst 1, 1) := by decide +kernel
theorem dX9_rate_17 : decode cX9_rate 17 = .ok (.invokevirtual 79, 3) := by decide +kernel
theorem dX9_rate_20 : decode cX9_rate 20 = .ok (.ireturn, 1) := by decide +kernel
theorem dX9_rate_21 : decode cX9_rate 21 = .ok (.aload_n 0, 1) := by decide +kernel
theorem dX9_rate_22 : decode cX9_rate 22 = .ok (.getfield 41, 3) := by decide +kernel
theorem dX9_rate_25 : decode cX9_rate 25 = .ok (.getfield 141, 3) := by decide +kernel
theorem dX9_rate_28 : decode cX9_rate 28 = .ok (.ifCond .ne 9, 3) := by decide +kernel
theorem dX9_rate_31 : decode cX9_rate 31 = .ok (.aload_n 0, 1) := by decide +kernel
theorem dX9_rate_32 : decode cX9_rate 32 = .ok (.iconst 5, 1) := by decide +kernel
theorem dX9_rate_33 : decode cX9_rate 33 = .ok (.invokevirtual 79, 3) := by decide +kernel
theorem dX9_rate_36 : decode cX9_rate 36 = .ok (.ireturn, 1) := by decide +kernel
theorem dX9_rate_37 : decode cX9_rate 37 = .ok (.aload_n 0, 1) := by decide +kernel
theorem dX9_rate_38 : decode cX9_rate 38 = .ok (.getfield 41, 3) := by decide +kernel
theorem dX9_rate_41 : decode cX9_rate 41 = .ok (.getfield 198, 3) := by decide +kernel
theorem dX9_rate_44 : decode cX9_rate 44 = .ok (.aload_n 0, 1) := by decide +kernel
theorem dX9_rate_45 : decode cX9_rate 45 = .ok (.getfield 41, 3) := by decide +kernel
theorem dX9_rate_48 : decode cX9_rate 48 = .ok (.getfield 141, 3) := by decide +kernel
theorem dX9_rate_51 : decode cX9_rate 51 = .ok (.invokestatic 240, 3) := by decide +kernel
theorem dX9_rate_54 : decode cX9_rate 54 = .ok (.istore_n 2, 1) := by decide +kernel
theorem dX9_rate_55 : decode cX9_rate 55 = .ok (.iload_n 1, 1) := by decide +kernel
theorem dX9_rate_56 : decode cX9_rate 56 = .ok (.ifCond .ne 13, 3) := by decide +kernel
theorem dX9_rate_59 : decode cX9_rate 59 = .ok (.aload_n 0, 1) := by decide +kernel
theorem dX9_rate_60 : decode cX9_rate 60 = .ok (.getfield 41, 3) := by decide +kernel
theorem dX9_rate_63 : decode cX9_rate 63 = .ok (.getfield 198, 3) := by decide +kernel
theorem dX9_rate_66 : decode cX9_rate 66 = .ok (.goto 10, 3) := by decide +kernel
theorem dX9_rate_69 : decode cX9_rate 69 = .ok (.aload_n 0, 1) := by decide +kernel
theorem dX9_rate_70 : decode cX9_rate 70 = .ok (.getfield 41, 3) := by decide +kernel
theorem dX9_rate_73 : decode cX9_rate 73 = .ok (.getfield 141, 3) := by decide +kernel
theorem dX9_rate_76 : decode cX9_rate 76 = .ok (.istore_n 3, 1) := by decide +kernel
theorem dX9_rate_77 : decode cX9_rate 77 = .ok (.aload_n 0, 1) := by decide +kernel
theorem dX9_rate_78 : decode cX9_rate 78 = .ok (.iload_n 2, 1) := by decide +kernel
theorem dX9_rate_79 : decode cX9_rate 79 = .ok (.ifCond .le 9, 3) := by decide +kernel
theorem dX9_rate_82 : decode cX9_rate 82 = .ok (.iload_n 3, 1) := by decide +kernel
theorem dX9_rate_83 : decode cX9_rate 83 = .ok (.iload_n 2, 1) := by decide +kernel
theorem dX9_rate_84 : decode cX9_rate 84 = .ok (.idiv, 1) := by decide +kernel
theorem dX9_rate_85 : decode cX9_rate 85 = .ok (.goto 4, 3) := by decide +kernel
theorem dX9_rate_88 : decode cX9_rate 88 = .ok (.iload_n 3, 1) := by decide +kernel
theorem dX9_rate_89 : decode cX9_rate 89 = .ok (.invokevirtual 116, 3) := by decide +kernel
theorem dX9_rate_92 : decode cX9_rate 92 = .ok (.ireturn, 1) := by decide +kernel
theorem dX9_commonDivisor_0 : decode cX9_commonDivisor 0 = .ok (.iload_n 0, 1) := by decide +kernel
theorem dX9_commonDivisor_1 : decode cX9_commonDivisor 1 = .ok (.istore_n 2, 1) := by decide +kernel
theorem dX9_commonDivisor_2 : decode cX9_commonDivisor 2 = .ok (.iload_n 1, 1) := by decide +kernel
theorem dX9_commonDivisor_3 : decode cX9_commonDivisor 3 = .ok (.istore_n 3, 1) := by decide +kernel
theorem dX9_commonDivisor_4 : decode cX9_commonDivisor 4 = .ok (.iconst 0, 1) := by decide +kernel
theorem dX9_commonDivisor_5 : decode cX9_commonDivisor 5 = .ok (.istore 4, 2) := by decide +kernel
theorem dX9_commonDivisor_7 : decode cX9_commonDivisor 7 = .ok (.iload 4, 2) := by decide +kernel
theorem dX9_commonDivisor_9 : decode cX9_commonDivisor 9 = .ok (.bipush 64, 2) := by decide +kernel
theorem dX9_commonDivisor_11 : decode cX9_commonDivisor 11 = .ok (.if_icmp .ge 25, 3) := by decide +kernel
theorem dX9_commonDivisor_14 : decode cX9_commonDivisor 14 = .ok (.iload_n 3, 1) := by decide +kernel
theorem dX9_commonDivisor_15 : decode cX9_commonDivisor 15 = .ok (.ifCond .eq 21, 3) := by decide +kernel
theorem dX9_commonDivisor_18 : decode cX9_commonDivisor 18 = .ok (.iload_n 2, 1) := by decide +kernel
theorem dX9_commonDivisor_19 : decode cX9_commonDivisor 19 = .ok (.iload_n 3, 1) := by decide +kernel
theorem dX9_commonDivisor_20 : decode cX9_commonDivisor 20 = .ok (.invokestatic 243, 3) := by decide +kernel
theorem dX9_commonDivisor_23 : decode cX9_commonDivisor 23 = .ok (.istore 5, 2) := by decide +kernel
theorem dX9_commonDivisor_25 : decode cX9_commonDivisor 25 = .ok (.iload_n 3, 1) := by decide +kernel
theorem dX9_commonDivisor_26 : decode cX9_commonDivisor 26 = .ok (.istore_n 2, 1) := by decide +kernel
theorem dX9_commonDivisor_27 : decode cX9_commonDivisor 27 = .ok (.iload 5, 2) := by decide +kernel
theorem dX9_commonDivisor_29 : decode cX9_commonDivisor 29 = .ok (.istore_n 3, 1) := by decide +kernel
theorem dX9_commonDivisor_30 : decode cX9_commonDivisor 30 = .ok (.iinc 4 1, 3) := by decide +kernel
theorem dX9_commonDivisor_33 : decode cX9_commonDivisor 33 = .ok (.goto (-26), 3) := by decide +kernel
theorem dX9_commonDivisor_36 : decode cX9_commonDivisor 36 = .ok (.iload_n 2, 1) := by decide +kernel
theorem dX9_commonDivisor_37 : decode cX9_commonDivisor 37 = .ok (.ireturn, 1) := by decide +kernel
theorem dX9_busiest_0 : decode cX9_busiest 0 = .ok (.aload_n 0, 1) := by decide +kernel
theorem dX9_busiest_1 : decode cX9_busiest 1 = .ok (.getfield 103, 3) := by decide +kernel
theorem dX9_busiest_4 : decode cX9_busiest 4 = .ok (.ifCond .eq 17, 3) := by decide +kernel
theorem dX9_busiest_7 : decode cX9_busiest 7 = .ok (.aload_n 0, 1) := by decide +kernel
theorem dX9_busiest_8 : decode cX9_busiest 8 = .ok (.aload_n 0, 1) := by decide +kernel
theorem dX9_busiest_9 : decode cX9_busiest 9 = .ok (.getfield 41, 3) := by decide +kernel
theorem dX9_busiest_12 : decode cX9_busiest 12 = .ok (.invokevirtual 246, 3) := by decide +kernel
theorem dX9_busiest_15 : decode cX9_busiest 15 = .ok (.invokevirtual 116, 3) := by decide +kernel
theorem dX9_busiest_18 : decode cX9_busiest 18 = .ok (.goto 8, 3) := by decide +kernel
theorem dX9_busiest_21 : decode cX9_busiest 21 = .ok (.aload_n 0, 1) := by decide +kernel
theorem dX9_busiest_22 : decode cX9_busiest 22 = .ok (.iconst 1, 1) := by decide +kernel
theorem dX9_busiest_23 : decode cX9_busiest 23 = .ok (.invokevirtual 79, 3) := by decide +kernel
theorem dX9_busiest_26 : decode cX9_busiest 26 = .ok (.ireturn, 1) := by decide +kernel
theorem dX9_yields_0 : decode cX9_yields 0 = .ok (.aload_n 0, 1) := by decide +kernel
theorem dX9_yields_1 : decode cX9_yields 1 = .ok (.iload_n 1, 1) := by decide +kernel
theorem dX9_yields_2 : decode cX9_yields 2 = .ok (.invokevirtual 249, 3) := by decide +kernel
theorem dX9_yields_5 : decode cX9_yields 5 = .ok (.ifCond .eq 7, 3) := by decide +kernel
theorem dX9_yields_8 : decode cX9_yields 8 = .ok (.iconst (-1), 1) := by decide +kernel
theorem dX9_yields_9 : decode cX9_yields 9 = .ok (.goto 15, 3) := by decide +kernel
theorem dX9_yields_12 : decode cX9_yields 12 = .ok (.aload_n 0, 1) := by decide +kernel
theorem dX9_yields_13 : decode cX9_yields 13 = .ok (.aload_n 0, 1) := by decide +kernel
theorem dX9_yields_14 : decode cX9_yields 14 = .ok (.getfield 48, 3) := by decide +kernel
theorem dX9_yields_17 : decode cX9_yields 17 = .ok (.iload_n 1, 1) := by decide +kernel
theorem dX9_yields_18 : decode cX9_yields 18 = .ok (.invokevirtual 252, 3) := by decide +kernel
theorem dX9_yields_21 : decode cX9_yields 21 = .ok (.invokevirtual 116, 3) := by decide +kernel
theorem dX9_yields_24 : decode cX9_yields 24 = .ok (.ireturn, 1) := by decide +kernel
theorem dX9_would_0 : decode cX9_would 0 = .ok (.aload_n 0, 1) := by decide +kernel
theorem dX9_would_1 : decode cX9_would 1 = .ok (.iload_n 1, 1) := by decide +kernel
theorem dX9_would_2 : decode cX9_would 2 = .ok (.invokevirtual 150, 3) := by decide +kernel
theorem dX9_would_5 : decode cX9_would 5 = .ok (.ifCond .eq 11, 3) := by decide +kernel
theorem dX9_would_8 : decode cX9_would 8 = .ok (.aload_n 0, 1) := by decide +kernel
theorem dX9_would_9 : decode cX9_would 9 = .ok (.iload_n 2, 1) := by decide +kernel
theorem dX9_would_10 : decode cX9_would 10 = .ok (.invokevirtual 167, 3) := by decide +kernel
theorem dX9_would_13 : decode cX9_would 13 = .ok (.ifCond .ne 9, 3) := by decide +kernel
theorem dX9_would_16 : decode cX9_would 16 = .ok (.aload_n 0, 1) := by decide +kernel
theorem dX9_would_17 : decode cX9_would 17 = .ok (.iconst 1, 1) := by decide +kernel
theorem dX9_would_18 : decode cX9_would 18 = .ok (.invokevirtual 79, 3) := by decide +kernel
theorem dX9_would_21 : decode cX9_would 21 = .ok (.ireturn, 1) := by decide +kernel
theorem dX9_would_22 : decode cX9_would 22 = .ok (.iload_n 3, 1) := by decide +kernel
theorem dX9_would_23 : decode cX9_would 23 = .ok (.bipush 9, 2) := by decide +kernel
theorem dX9_would_25 : decode cX9_would 25 = .ok (.invokestatic 128, 3) := by decide +kernel
theorem dX9_would_28 : decode cX9_would 28 = .ok (.ifCond .ne 9, 3) := by decide +kernel
theorem dX9_would_31 : decode cX9_would 31 = .ok (.aload_n 0, 1) := by decide +kernel
theorem dX9_would_32 : decode cX9_would 32 = .ok (.iconst 2, 1) := by decide +kernel
theorem dX9_would_33 : decode cX9_would 33 = .ok (.invokevirtual 79, 3) := by decide +kernel
theorem dX9_would_36 : decode cX9_would 36 = .ok (.ireturn, 1) := by decide +kernel
theorem dX9_would_37 : decode cX9_would 37 = .ok (.aload_n 0, 1) := by decide +kernel
theorem dX9_would_38 : decode cX9_would 38 = .ok (.iload 4, 2) := by decide +kernel
theorem dX9_would_40 : decode cX9_would 40 = .ok (.invokevirtual 249, 3) := by decide +kernel
theorem dX9_would_43 : decode cX9_would 43 = .ok (.ifCond .eq 7, 3) := by decide +kernel
theorem dX9_would_46 : decode cX9_would 46 = .ok (.iconst (-1), 1) := by decide +kernel
theorem dX9_would_47 : decode cX9_would 47 = .ok (.goto 22, 3) := by decide +kernel
theorem dX9_would_50 : decode cX9_would 50 = .ok (.aload_n 0, 1) := by decide +kernel
theorem dX9_would_51 : decode cX9_would 51 = .ok (.aload_n 0, 1) := by decide +kernel
theorem dX9_would_52 : decode cX9_would 52 = .ok (.getfield 48, 3) := by decide +kernel
theorem dX9_would_55 : decode cX9_would 55 = .ok (.iload_n 1, 1) := by decide +kernel
theorem dX9_would_56 : decode cX9_would 56 = .ok (.iload_n 2, 1) := by decide +kernel
theorem dX9_would_57 : decode cX9_would 57 = .ok (.invokestatic 173, 3) := by decide +kernel
theorem dX9_would_60 : decode cX9_would 60 = .ok (.iload_n 3, 1) := by decide +kernel
theorem dX9_would_61 : decode cX9_would 61 = .ok (.iload 4, 2) := by decide +kernel
theorem dX9_would_63 : decode cX9_would 63 = .ok (.invokevirtual 255, 3) := by decide +kernel
theorem dX9_would_66 : decode cX9_would 66 = .ok (.invokevirtual 116, 3) := by decide +kernel
theorem dX9_would_69 : decode cX9_would 69 = .ok (.ireturn, 1) := by decide +kernel
theorem dX9_fewest_0 : decode cX9_fewest 0 = .ok (.aload_n 0, 1) := by decide +kernel
theorem dX9_fewest_1 : decode cX9_fewest 1 = .ok (.iload_n 2, 1) := by decide +kernel
theorem dX9_fewest_2 : decode cX9_fewest 2 = .ok (.invokevirtual 249, 3) := by decide +kernel
theorem dX9_fewest_5 : decode cX9_fewest 5 = .ok (.ifCond .eq 5, 3) := by decide +kernel
theorem dX9_fewest_8 : decode cX9_fewest 8 = .ok (.iconst (-1), 1) := by decide +kernel
theorem dX9_fewest_9 : decode cX9_fewest 9 = .ok (.ireturn, 1) := by decide +kernel
theorem dX9_fewest_10 : decode cX9_fewest 10 = .ok (.iload_n 1, 1) := by decide +kernel
theorem dX9_fewest_11 : decode cX9_fewest 11 = .ok (.sipush 9999, 3) := by decide +kernel
theorem dX9_fewest_14 : decode cX9_fewest 14 = .ok (.invokestatic 128, 3) := by decide +kernel
theorem dX9_fewest_17 : decode cX9_fewest 17 = .ok (.ifCond .eq 19, 3) := by decide +kernel
theorem dX9_fewest_20 : decode cX9_fewest 20 = .ok (.aload_n 0, 1) := by decide +kernel
theorem dX9_fewest_21 : decode cX9_fewest 21 = .ok (.aload_n 0, 1) := by decide +kernel
theorem dX9_fewest_22 : decode cX9_fewest 22 = .ok (.getfield 48, 3) := by decide +kernel
theorem dX9_fewest_25 : decode cX9_fewest 25 = .ok (.iload_n 1, 1) := by decide +kernel
theorem dX9_fewest_26 : decode cX9_fewest 26 = .ok (.iload_n 2, 1) := by decide +kernel
theorem dX9_fewest_27 : decode cX9_fewest 27 = .ok (.invokevirtual 259, 3) := by decide +kernel
theorem dX9_fewest_30 : decode cX9_fewest 30 = .ok (.invokevirtual 116, 3) := by decide +kernel
theorem dX9_fewest_33 : decode cX9_fewest 33 = .ok (.goto 8, 3) := by decide +kernel
theorem dX9_fewest_36 : decode cX9_fewest 36 = .ok (.aload_n 0, 1) := by decide +kernel
theorem dX9_fewest_37 : decode cX9_fewest 37 = .ok (.iconst 2, 1) := by decide +kernel
theorem dX9_fewest_38 : decode cX9_fewest 38 = .ok (.invokevirtual 79, 3) := by decide +kernel
theorem dX9_fewest_41 : decode cX9_fewest 41 = .ok (.ireturn, 1) := by decide +kernel
theorem dX9_thin_0 : decode cX9_thin 0 = .ok (.aload_n 0, 1) := by decide +kernel
theorem dX9_thin_1 : decode cX9_thin 1 = .ok (.iload_n 1, 1) := by decide +kernel
theorem dX9_thin_2 : decode cX9_thin 2 = .ok (.invokevirtual 249, 3) := by decide +kernel
theorem dX9_thin_5 : decode cX9_thin 5 = .ok (.ifCond .eq 5, 3) := by decide +kernel
theorem dX9_thin_8 : decode cX9_thin 8 = .ok (.iconst (-1), 1) := by decide +kernel
theorem dX9_thin_9 : decode cX9_thin 9 = .ok (.ireturn, 1) := by decide +kernel
theorem dX9_thin_10 : decode cX9_thin 10 = .ok (.aload_n 0, 1) := by decide +kernel
theorem dX9_thin_11 : decode cX9_thin 11 = .ok (.getfield 48, 3) := by decide +kernel
theorem dX9_thin_14 : decode cX9_thin 14 = .ok (.iload_n 1, 1) := by decide +kernel
theorem dX9_thin_15 : decode cX9_thin 15 = .ok (.invokevirtual 262, 3) := by decide +kernel
theorem dX9_thin_18 : decode cX9_thin 18 = .ok (.aload_n 0, 1) := by decide +kernel
theorem dX9_thin_19 : decode cX9_thin 19 = .ok (.aload_n 0, 1) := by decide +kernel
theorem dX9_thin_20 : decode cX9_thin 20 = .ok (.getfield 48, 3) := by decide +kernel
theorem dX9_thin_23 : decode cX9_thin 23 = .ok (.getfield 265, 3) := by decide +kernel
theorem dX9_thin_26 : decode cX9_thin 26 = .ok (.invokevirtual 144, 3) := by decide +kernel
theorem dX9_thin_29 : decode cX9_thin 29 = .ok (.invokevirtual 116, 3) := by decide +kernel
theorem dX9_thin_32 : decode cX9_thin 32 = .ok (.ireturn, 1) := by decide +kernel
theorem dX9_thinAt_0 : decode cX9_thinAt 0 = .ok (.aload_n 0, 1) := by decide +kernel
theorem dX9_thinAt_1 : decode cX9_thinAt 1 = .ok (.iload_n 1, 1) := by decide +kernel
theorem dX9_thinAt_2 : decode cX9_thinAt 2 = .ok (.invokevirtual 150, 3) := by decide +kernel
theorem dX9_thinAt_5 : decode cX9_thinAt 5 = .ok (.ifCond .eq 11, 3) := by decide +kernel
theorem dX9_thinAt_8 : decode cX9_thinAt 8 = .ok (.aload_n 0, 1) := by decide +kernel
theorem dX9_thinAt_9 : decode cX9_thinAt 9 = .ok (.iload_n 2, 1) := by decide +kernel
theorem dX9_thinAt_10 : decode cX9_thinAt 10 = .ok (.invokevirtual 167, 3) := by decide +kernel
theorem dX9_thinAt_13 : decode cX9_thinAt 13 = .ok (.ifCond .ne 9, 3) := by decide +kernel
theorem dX9_thinAt_16 : decode cX9_thinAt 16 = .ok (.aload_n 0, 1) := by decide +kernel
theorem dX9_thinAt_17 : decode cX9_thinAt 17 = .ok (.iconst 1, 1) := by decide +kernel
theorem dX9_thinAt_18 : decode cX9_thinAt 18 = .ok (.invokevirtual 79, 3) := by decide +kernel
theorem dX9_thinAt_21 : decode cX9_thinAt 21 = .ok (.ireturn, 1) := by decide +kernel
theorem dX9_thinAt_22 : decode cX9_thinAt 22 = .ok (.aload_n 0, 1) := by decide +kernel
theorem dX9_thinAt_23 : decode cX9_thinAt 23 = .ok (.iload_n 3, 1) := by decide +kernel
theorem dX9_thinAt_24 : decode cX9_thinAt 24 = .ok (.invokevirtual 249, 3) := by decide +kernel
theorem dX9_thinAt_27 : decode cX9_thinAt 27 = .ok (.ifCond .eq 5, 3) := by decide +kernel
theorem dX9_thinAt_30 : decode cX9_thinAt 30 = .ok (.iconst (-1), 1) := by decide +kernel
theorem dX9_thinAt_31 : decode cX9_thinAt 31 = .ok (.ireturn, 1) := by decide +kernel
theorem dX9_thinAt_32 : decode cX9_thinAt 32 = .ok (.aload_n 0, 1) := by decide +kernel
theorem dX9_thinAt_33 : decode cX9_thinAt 33 = .ok (.getfield 48, 3) := by decide +kernel
theorem dX9_thinAt_36 : decode cX9_thinAt 36 = .ok (.iload_n 3, 1) := by decide +kernel
theorem dX9_thinAt_37 : decode cX9_thinAt 37 = .ok (.invokevirtual 262, 3) := by decide +kernel
theorem dX9_thinAt_40 : decode cX9_thinAt 40 = .ok (.aload_n 0, 1) := by decide +kernel
theorem dX9_thinAt_41 : decode cX9_thinAt 41 = .ok (.aload_n 0, 1) := by decide +kernel
theorem dX9_thinAt_42 : decode cX9_thinAt 42 = .ok (.getfield 48, 3) := by decide +kernel
theorem dX9_thinAt_45 : decode cX9_thinAt 45 = .ok (.getfield 265, 3) := by decide +kernel
theorem dX9_thinAt_48 : decode cX9_thinAt 48 = .ok (.getfield 186, 3) := by decide +kernel
theorem dX9_thinAt_51 : decode cX9_thinAt 51 = .ok (.iload_n 1, 1) := by decide +kernel
theorem dX9_thinAt_52 : decode cX9_thinAt 52 = .ok (.iload_n 2, 1) := by decide +kernel
theorem dX9_thinAt_53 : decode cX9_thinAt 53 = .ok (.invokestatic 173, 3) := by decide +kernel
theorem dX9_thinAt_56 : decode cX9_thinAt 56 = .ok (.iaload, 1) := by decide +kernel
theorem dX9_thinAt_57 : decode cX9_thinAt 57 = .ok (.invokevirtual 116, 3) := by decide +kernel
theorem dX9_thinAt_60 : decode cX9_thinAt 60 = .ok (.ireturn, 1) := by decide +kernel
theorem dX9_helps_0 : decode cX9_helps 0 = .ok (.aload_n 0, 1) := by decide +kernel
theorem dX9_helps_1 : decode cX9_helps 1 = .ok (.iload_n 1, 1) := by decide +kernel
theorem dX9_helps_2 : decode cX9_helps 2 = .ok (.invokevirtual 249, 3) := by decide +kernel
theorem dX9_helps_5 : decode cX9_helps 5 = .ok (.ifCond .eq 7, 3) := by decide +kernel
theorem dX9_helps_8 : decode cX9_helps 8 = .ok (.iconst (-1), 1) := by decide +kernel
theorem dX9_helps_9 : decode cX9_helps 9 = .ok (.goto 15, 3) := by decide +kernel
theorem dX9_helps_12 : decode cX9_helps 12 = .ok (.aload_n 0, 1) := by decide +kernel
theorem dX9_helps_13 : decode cX9_helps 13 = .ok (.aload_n 0, 1) := by decide +kernel
theorem dX9_helps_14 : decode cX9_helps 14 = .ok (.getfield 48, 3) := by decide +kernel
theorem dX9_helps_17 : decode cX9_helps 17 = .ok (.iload_n 1, 1) := by decide +kernel
theorem dX9_helps_18 : decode cX9_helps 18 = .ok (.invokevirtual 268, 3) := by decide +kernel
theorem dX9_helps_21 : decode cX9_helps 21 = .ok (.invokevirtual 116, 3) := by decide +kernel
theorem dX9_helps_24 : decode cX9_helps 24 = .ok (.ireturn, 1) := by decide +kernel
theorem dX9_holds_0 : decode cX9_holds 0 = .ok (.aload_n 0, 1) := by decide +kernel
theorem dX9_holds_1 : decode cX9_holds 1 = .ok (.iload_n 1, 1) := by decide +kernel
theorem dX9_holds_2 : decode cX9_holds 2 = .ok (.invokevirtual 249, 3) := by decide +kernel
theorem dX9_holds_5 : decode cX9_holds 5 = .ok (.ifCond .eq 7, 3) := by decide +kernel
theorem dX9_holds_8 : decode cX9_holds 8 = .ok (.iconst (-1), 1) := by decide +kernel
theorem dX9_holds_9 : decode cX9_holds 9 = .ok (.goto 15, 3) := by decide +kernel
theorem dX9_holds_12 : decode cX9_holds 12 = .ok (.aload_n 0, 1) := by decide +kernel
theorem dX9_holds_13 : decode cX9_holds 13 = .ok (.aload_n 0, 1) := by decide +kernel
theorem dX9_holds_14 : decode cX9_holds 14 = .ok (.getfield 48, 3) := by decide +kernel
theorem dX9_holds_17 : decode cX9_holds 17 = .ok (.iload_n 1, 1) := by decide +kernel
theorem dX9_holds_18 : decode cX9_holds 18 = .ok (.invokevirtual 271, 3) := by decide +kernel
theorem dX9_holds_21 : decode cX9_holds 21 = .ok (.invokevirtual 116, 3) := by decide +kernel
theorem dX9_holds_24 : decode cX9_holds 24 = .ok (.ireturn, 1) := by decide +kernel
theorem dX9_comesAgain_0 : decode cX9_comesAgain 0 = .ok (.aload_n 0, 1) := by decide +kernel
theorem dX9_comesAgain_1 : decode cX9_comesAgain 1 = .ok (.getfield 103, 3) := by decide +kernel
theorem dX9_comesAgain_4 : decode cX9_comesAgain 4 = .ok (.ifCond .eq 11, 3) := by decide +kernel
theorem dX9_comesAgain_7 : decode cX9_comesAgain 7 = .ok (.iload_n 2, 1) := by decide +kernel
theorem dX9_comesAgain_8 : decode cX9_comesAgain 8 = .ok (.iconst 1, 1) := by decide +kernel
theorem dX9_comesAgain_9 : decode cX9_comesAgain 9 = .ok (.invokestatic 128, 3) := by decide +kernel
theorem dX9_comesAgain_12 : decode cX9_comesAgain 12 = .ok (.ifCond .ne 9, 3) := by decide +kernel
theorem dX9_comesAgain_15 : decode cX9_comesAgain 15 = .ok (.aload_n 0, 1) := by decide +kernel
theorem dX9_comesAgain_16 : decode cX9_comesAgain 16 = .ok (.iconst 1, 1) := by decide +kernel
theorem dX9_comesAgain_17 : decode cX9_comesAgain 17 = .ok (.invokevirtual 79, 3) := by decide +kernel
theorem dX9_comesAgain_20 : decode cX9_comesAgain 20 = .ok (.ireturn, 1) := by decide +kernel
theorem dX9_comesAgain_21 : decode cX9_comesAgain 21 = .ok (.aload_n 0, 1) := by decide +kernel
theorem dX9_comesAgain_22 : decode cX9_comesAgain 22 = .ok (.iload_n 1, 1) := by decide +kernel
theorem dX9_comesAgain_23 : decode cX9_comesAgain 23 = .ok (.invokevirtual 249, 3) := by decide +kernel
theorem dX9_comesAgain_26 : decode cX9_comesAgain 26 = .ok (.ifCond .eq 5, 3) := by decide +kernel
theorem dX9_comesAgain_29 : decode cX9_comesAgain 29 = .ok (.iconst (-1), 1) := by decide +kernel
theorem dX9_comesAgain_30 : decode cX9_comesAgain 30 = .ok (.ireturn, 1) := by decide +kernel
theorem dX9_comesAgain_31 : decode cX9_comesAgain 31 = .ok (.aload_n 0, 1) := by decide +kernel
theorem dX9_comesAgain_32 : decode cX9_comesAgain 32 = .ok (.getfield 48, 3) := by decide +kernel
theorem dX9_comesAgain_35 : decode cX9_comesAgain 35 = .ok (.iload_n 1, 1) := by decide +kernel
theorem dX9_comesAgain_36 : decode cX9_comesAgain 36 = .ok (.invokevirtual 274, 3) := by decide +kernel
theorem dX9_comesAgain_39 : decode cX9_comesAgain 39 = .ok (.istore_n 3, 1) := by decide +kernel
theorem dX9_comesAgain_40 : decode cX9_comesAgain 40 = .ok (.aload_n 0, 1) := by decide +kernel
theorem dX9_comesAgain_41 : decode cX9_comesAgain 41 = .ok (.iload_n 2, 1) := by decide +kernel
theorem dX9_comesAgain_42 : decode cX9_comesAgain 42 = .ok (.ifCond .eq 9, 3) := by decide +kernel
theorem dX9_comesAgain_45 : decode cX9_comesAgain 45 = .ok (.iload_n 3, 1) := by decide +kernel
theorem dX9_comesAgain_46 : decode cX9_comesAgain 46 = .ok (.bipush (-2), 2) := by decide +kernel
theorem dX9_comesAgain_48 : decode cX9_comesAgain 48 = .ok (.if_icmp .ne 7, 3) := by decide +kernel
theorem dX9_comesAgain_51 : decode cX9_comesAgain 51 = .ok (.iload_n 3, 1) := by decide +kernel
theorem dX9_comesAgain_52 : decode cX9_comesAgain 52 = .ok (.goto 12, 3) := by decide +kernel
theorem dX9_comesAgain_55 : decode cX9_comesAgain 55 = .ok (.iload_n 3, 1) := by decide +kernel
theorem dX9_comesAgain_56 : decode cX9_comesAgain 56 = .ok (.aload_n 0, 1) := by decide +kernel
theorem dX9_comesAgain_57 : decode cX9_comesAgain 57 = .ok (.getfield 48, 3) := by decide +kernel
theorem dX9_comesAgain_60 : decode cX9_comesAgain 60 = .ok (.getfield 277, 3) := by decide +kernel
theorem dX9_comesAgain_63 : decode cX9_comesAgain 63 = .ok (.isub, 1) := by decide +kernel
theorem dX9_comesAgain_64 : decode cX9_comesAgain 64 = .ok (.invokevirtual 116, 3) := by decide +kernel
theorem dX9_comesAgain_67 : decode cX9_comesAgain 67 = .ok (.ireturn, 1) := by decide +kernel
theorem dX9_refusesPaper_0 : decode cX9_refusesPaper 0 = .ok (.aload_n 0, 1) := by decide +kernel
theorem dX9_refusesPaper_1 : decode cX9_refusesPaper 1 = .ok (.getfield 103, 3) := by decide +kernel
theorem dX9_refusesPaper_4 : decode cX9_refusesPaper 4 = .ok (.ifCond .ne 11, 3) := by decide +kernel
theorem dX9_refusesPaper_7 : decode cX9_refusesPaper 7 = .ok (.aload_n 0, 1) := by decide +kernel
theorem dX9_refusesPaper_8 : decode cX9_refusesPaper 8 = .ok (.iconst 1, 1) := by decide +kernel
theorem dX9_refusesPaper_9 : decode cX9_refusesPaper 9 = .ok (.invokevirtual 79, 3) := by decide +kernel
theorem dX9_refusesPaper_12 : decode cX9_refusesPaper 12 = .ok (.pop, 1) := by decide +kernel
theorem dX9_refusesPaper_13 : decode cX9_refusesPaper 13 = .ok (.iconst 1, 1) := by decide +kernel
theorem dX9_refusesPaper_14 : decode cX9_refusesPaper 14 = .ok (.ireturn, 1) := by decide +kernel
theorem dX9_refusesPaper_15 : decode cX9_refusesPaper 15 = .ok (.iload_n 1, 1) := by decide +kernel
theorem dX9_refusesPaper_16 : decode cX9_refusesPaper 16 = .ok (.iconst 1, 1) := by decide +kernel
theorem dX9_refusesPaper_17 : decode cX9_refusesPaper 17 = .ok (.if_icmp .lt 10, 3) := by decide +kernel
theorem dX9_refusesPaper_20 : decode cX9_refusesPaper 20 = .ok (.iload_n 1, 1) := by decide +kernel
theorem dX9_refusesPaper_21 : decode cX9_refusesPaper 21 = .ok (.sipush 2000, 3) := by decide +kernel
theorem dX9_refusesPaper_24 : decode cX9_refusesPaper 24 = .ok (.if_icmp .le 11, 3) := by decide +kernel
theorem dX9_refusesPaper_27 : decode cX9_refusesPaper 27 = .ok (.aload_n 0, 1) := by decide +kernel
theorem dX9_refusesPaper_28 : decode cX9_refusesPaper 28 = .ok (.iconst 2, 1) := by decide +kernel
theorem dX9_refusesPaper_29 : decode cX9_refusesPaper 29 = .ok (.invokevirtual 79, 3) := by decide +kernel
theorem dX9_refusesPaper_32 : decode cX9_refusesPaper 32 = .ok (.pop, 1) := by decide +kernel
theorem dX9_refusesPaper_33 : decode cX9_refusesPaper 33 = .ok (.iconst 1, 1) := by decide +kernel
theorem dX9_refusesPaper_34 : decode cX9_refusesPaper 34 = .ok (.ireturn, 1) := by decide +kernel
theorem dX9_refusesPaper_35 : decode cX9_refusesPaper 35 = .ok (.iconst 0, 1) := by decide +kernel
theorem dX9_refusesPaper_36 : decode cX9_refusesPaper 36 = .ok (.ireturn, 1) := by decide +kernel
theorem dX9_cards_0 : decode cX9_cards 0 = .ok (.aload_n 0, 1) := by decide +kernel
theorem dX9_cards_1 : decode cX9_cards 1 = .ok (.iload_n 1, 1) := by decide +kernel
theorem dX9_cards_2 : decode cX9_cards 2 = .ok (.invokevirtual 150, 3) := by decide +kernel
theorem dX9_cards_5 : decode cX9_cards 5 = .ok (.ifCond .eq 11, 3) := by decide +kernel
theorem dX9_cards_8 : decode cX9_cards 8 = .ok (.aload_n 0, 1) := by decide +kernel
theorem dX9_cards_9 : decode cX9_cards 9 = .ok (.iload_n 2, 1) := by decide +kernel
theorem dX9_cards_10 : decode cX9_cards 10 = .ok (.invokevirtual 167, 3) := by decide +kernel
theorem dX9_cards_13 : decode cX9_cards 13 = .ok (.ifCond .ne 9, 3) := by decide +kernel
theorem dX9_cards_16 : decode cX9_cards 16 = .ok (.aload_n 0, 1) := by decide +kernel
theorem dX9_cards_17 : decode cX9_cards 17 = .ok (.iconst 1, 1) := by decide +kernel
theorem dX9_cards_18 : decode cX9_cards 18 = .ok (.invokevirtual 79, 3) := by decide +kernel
theorem dX9_cards_21 : decode cX9_cards 21 = .ok (.ireturn, 1) := by decide +kernel
theorem dX9_cards_22 : decode cX9_cards 22 = .ok (.iload_n 3, 1) := by decide +kernel
theorem dX9_cards_23 : decode cX9_cards 23 = .ok (.bipush 9, 2) := by decide +kernel
theorem dX9_cards_25 : decode cX9_cards 25 = .ok (.invokestatic 128, 3) := by decide +kernel
theorem dX9_cards_28 : decode cX9_cards 28 = .ok (.ifCond .ne 9, 3) := by decide +kernel
theorem dX9_cards_31 : decode cX9_cards 31 = .ok (.aload_n 0, 1) := by decide +kernel
theorem dX9_cards_32 : decode cX9_cards 32 = .ok (.iconst 2, 1) := by decide +kernel
theorem dX9_cards_33 : decode cX9_cards 33 = .ok (.invokevirtual 79, 3) := by decide +kernel
theorem dX9_cards_36 : decode cX9_cards 36 = .ok (.ireturn, 1) := by decide +kernel
theorem dX9_cards_37 : decode cX9_cards 37 = .ok (.aload_n 0, 1) := by decide +kernel
theorem dX9_cards_38 : decode cX9_cards 38 = .ok (.aload_n 0, 1) := by decide +kernel
theorem dX9_cards_39 : decode cX9_cards 39 = .ok (.getfield 55, 3) := by decide +kernel
theorem dX9_cards_42 : decode cX9_cards 42 = .ok (.aload_n 0, 1) := by decide +kernel
theorem dX9_cards_43 : decode cX9_cards 43 = .ok (.getfield 32, 3) := by decide +kernel
theorem dX9_cards_46 : decode cX9_cards 46 = .ok (.iload_n 1, 1) := by decide +kernel
theorem dX9_cards_47 : decode cX9_cards 47 = .ok (.iload_n 2, 1) := by decide +kernel
theorem dX9_cards_48 : decode cX9_cards 48 = .ok (.invokestatic 173, 3) := by decide +kernel
theorem dX9_cards_51 : decode cX9_cards 51 = .ok (.iload_n 3, 1) := by decide +kernel
theorem dX9_cards_52 : decode cX9_cards 52 = .ok (.invokevirtual 280, 3) := by decide +kernel
theorem dX9_cards_55 : decode cX9_cards 55 = .ok (.invokevirtual 116, 3) := by decide +kernel
theorem dX9_cards_58 : decode cX9_cards 58 = .ok (.ireturn, 1) := by decide +kernel
theorem dX9_time_0 : decode cX9_time 0 = .ok (.aload_n 0, 1) := by decide +kernel
theorem dX9_time_1 : decode cX9_time 1 = .ok (.iload_n 1, 1) := by decide +kernel
theorem dX9_time_2 : decode cX9_time 2 = .ok (.invokevirtual 150, 3) := by decide +kernel
theorem dX9_time_5 : decode cX9_time 5 = .ok (.ifCond .eq 11, 3) := by decide +kernel
theorem dX9_time_8 : decode cX9_time 8 = .ok (.aload_n 0, 1) := by decide +kernel
theorem dX9_time_9 : decode cX9_time 9 = .ok (.iload_n 2, 1) := by decide +kernel
theorem dX9_time_10 : decode cX9_time 10 = .ok (.invokevirtual 167, 3) := by decide +kernel
theorem dX9_time_13 : decode cX9_time 13 = .ok (.ifCond .ne 9, 3) := by decide +kernel
theorem dX9_time_16 : decode cX9_time 16 = .ok (.aload_n 0, 1) := by decide +kernel
theorem dX9_time_17 : decode cX9_time 17 = .ok (.iconst 1, 1) := by decide +kernel
theorem dX9_time_18 : decode cX9_time 18 = .ok (.invokevirtual 79, 3) := by decide +kernel
theorem dX9_time_21 : decode cX9_time 21 = .ok (.ireturn, 1) := by decide +kernel
theorem dX9_time_22 : decode cX9_time 22 = .ok (.iload_n 3, 1) := by decide +kernel
theorem dX9_time_23 : decode cX9_time 23 = .ok (.iconst 1, 1) := by decide +kernel
theorem dX9_time_24 : decode cX9_time 24 = .ok (.if_icmp .lt 9, 3) := by decide +kernel
theorem dX9_time_27 : decode cX9_time 27 = .ok (.iload_n 3, 1) := by decide +kernel
theorem dX9_time_28 : decode cX9_time 28 = .ok (.bipush 60, 2) := by decide +kernel
theorem dX9_time_30 : decode cX9_time 30 = .ok (.if_icmp .le 9, 3) := by decide +kernel
theorem dX9_time_33 : decode cX9_time 33 = .ok (.aload_n 0, 1) := by decide +kernel
theorem dX9_time_34 : decode cX9_time 34 = .ok (.iconst 2, 1) := by decide +kernel
theorem dX9_time_35 : decode cX9_time 35 = .ok (.invokevirtual 79, 3) := by decide +kernel
theorem dX9_time_38 : decode cX9_time 38 = .ok (.ireturn, 1) := by decide +kernel
theorem dX9_time_39 : decode cX9_time 39 = .ok (.aload_n 0, 1) := by decide +kernel
theorem dX9_time_40 : decode cX9_time 40 = .ok (.aload_n 0, 1) := by decide +kernel
theorem dX9_time_41 : decode cX9_time 41 = .ok (.getfield 55, 3) := by decide +kernel
theorem dX9_time_44 : decode cX9_time 44 = .ok (.aload_n 0, 1) := by decide +kernel
theorem dX9_time_45 : decode cX9_time 45 = .ok (.getfield 32, 3) := by decide +kernel
theorem dX9_time_48 : decode cX9_time 48 = .ok (.bipush 18, 2) := by decide +kernel
theorem dX9_time_50 : decode cX9_time 50 = .ok (.iload_n 1, 1) := by decide +kernel
theorem dX9_time_51 : decode cX9_time 51 = .ok (.iload_n 2, 1) := by decide +kernel
theorem dX9_time_52 : decode cX9_time 52 = .ok (.invokestatic 173, 3) := by decide +kernel
theorem dX9_time_55 : decode cX9_time 55 = .ok (.iadd, 1) := by decide +kernel
theorem dX9_time_56 : decode cX9_time 56 = .ok (.iload_n 3, 1) := by decide +kernel
theorem dX9_time_57 : decode cX9_time 57 = .ok (.invokevirtual 280, 3) := by decide +kernel
theorem dX9_time_60 : decode cX9_time 60 = .ok (.invokevirtual 116, 3) := by decide +kernel
theorem dX9_time_63 : decode cX9_time 63 = .ok (.ireturn, 1) := by decide +kernel
theorem dX9_rule_0 : decode cX9_rule 0 = .ok (.aload_n 0, 1) := by decide +kernel
theorem dX9_rule_1 : decode cX9_rule 1 = .ok (.getfield 103, 3) := by decide +kernel
theorem dX9_rule_4 : decode cX9_rule 4 = .ok (.ifCond .ne 9, 3) := by decide +kernel
theorem dX9_rule_7 : decode cX9_rule 7 = .ok (.aload_n 0, 1) := by decide +kernel
theorem dX9_rule_8 : decode cX9_rule 8 = .ok (.iconst 1, 1) := by decide +kernel
theorem dX9_rule_9 : decode cX9_rule 9 = .ok (.invokevirtual 79, 3) := by decide +kernel
theorem dX9_rule_12 : decode cX9_rule 12 = .ok (.ireturn, 1) := by decide +kernel
theorem dX9_rule_13 : decode cX9_rule 13 = .ok (.iload_n 1, 1) := by decide +kernel
theorem dX9_rule_14 : decode cX9_rule 14 = .ok (.iconst 2, 1) := by decide +kernel
theorem dX9_rule_15 : decode cX9_rule 15 = .ok (.invokestatic 128, 3) := by decide +kernel
theorem dX9_rule_18 : decode cX9_rule 18 = .ok (.ifCond .ne 9, 3) := by decide +kernel
theorem dX9_rule_21 : decode cX9_rule 21 = .ok (.aload_n 0, 1) := by decide +kernel
theorem dX9_rule_22 : decode cX9_rule 22 = .ok (.iconst 2, 1) := by decide +kernel
theorem dX9_rule_23 : decode cX9_rule 23 = .ok (.invokevirtual 79, 3) := by decide +kernel
theorem dX9_rule_26 : decode cX9_rule 26 = .ok (.ireturn, 1) := by decide +kernel
theorem dX9_rule_27 : decode cX9_rule 27 = .ok (.aload_n 0, 1) := by decide +kernel
theorem dX9_rule_28 : decode cX9_rule 28 = .ok (.aload_n 0, 1) := by decide +kernel
theorem dX9_rule_29 : decode cX9_rule 29 = .ok (.getfield 55, 3) := by decide +kernel
theorem dX9_rule_32 : decode cX9_rule 32 = .ok (.aload_n 0, 1) := by decide +kernel
theorem dX9_rule_33 : decode cX9_rule 33 = .ok (.getfield 32, 3) := by decide +kernel
theorem dX9_rule_36 : decode cX9_rule 36 = .ok (.bipush 36, 2) := by decide +kernel
theorem dX9_rule_38 : decode cX9_rule 38 = .ok (.iload_n 1, 1) := by decide +kernel
theorem dX9_rule_39 : decode cX9_rule 39 = .ok (.invokevirtual 280, 3) := by decide +kernel
theorem dX9_rule_42 : decode cX9_rule 42 = .ok (.invokevirtual 116, 3) := by decide +kernel
theorem dX9_rule_45 : decode cX9_rule 45 = .ok (.ireturn, 1) := by decide +kernel
theorem dX9_undo_0 : decode cX9_undo 0 = .ok (.aload_n 0, 1) := by decide +kernel
theorem dX9_undo_1 : decode cX9_undo 1 = .ok (.getfield 103, 3) := by decide +kernel
theorem dX9_undo_4 : decode cX9_undo 4 = .ok (.ifCond .ne 9, 3) := by decide +kernel
theorem dX9_undo_7 : decode cX9_undo 7 = .ok (.aload_n 0, 1) := by decide +kernel
theorem dX9_undo_8 : decode cX9_undo 8 = .ok (.iconst 1, 1) := by decide +kernel
theorem dX9_undo_9 : decode cX9_undo 9 = .ok (.invokevirtual 79, 3) := by decide +kernel
theorem dX9_undo_12 : decode cX9_undo 12 = .ok (.ireturn, 1) := by decide +kernel
theorem dX9_undo_13 : decode cX9_undo 13 = .ok (.aload_n 0, 1) := by decide +kernel
theorem dX9_undo_14 : decode cX9_undo 14 = .ok (.getfield 55, 3) := by decide +kernel
theorem dX9_undo_17 : decode cX9_undo 17 = .ok (.getfield 119, 3) := by decide +kernel
theorem dX9_undo_20 : decode cX9_undo 20 = .ok (.ifCond .ne 9, 3) := by decide +kernel
theorem dX9_undo_23 : decode cX9_undo 23 = .ok (.aload_n 0, 1) := by decide +kernel
theorem dX9_undo_24 : decode cX9_undo 24 = .ok (.iconst 5, 1) := by decide +kernel
theorem dX9_undo_25 : decode cX9_undo 25 = .ok (.invokevirtual 79, 3) := by decide +kernel
theorem dX9_undo_28 : decode cX9_undo 28 = .ok (.ireturn, 1) := by decide +kernel
theorem dX9_undo_29 : decode cX9_undo 29 = .ok (.aload_n 0, 1) := by decide +kernel
theorem dX9_undo_30 : decode cX9_undo 30 = .ok (.getfield 55, 3) := by decide +kernel
theorem dX9_undo_33 : decode cX9_undo 33 = .ok (.aload_n 0, 1) := by decide +kernel
theorem dX9_undo_34 : decode cX9_undo 34 = .ok (.getfield 32, 3) := by decide +kernel
theorem dX9_undo_37 : decode cX9_undo 37 = .ok (.invokevirtual 284, 3) := by decide +kernel
theorem dX9_undo_40 : decode cX9_undo 40 = .ok (.aload_n 0, 1) := by decide +kernel
theorem dX9_undo_41 : decode cX9_undo 41 = .ok (.aload_n 0, 1) := by decide +kernel
theorem dX9_undo_42 : decode cX9_undo 42 = .ok (.getfield 55, 3) := by decide +kernel
theorem dX9_undo_45 : decode cX9_undo 45 = .ok (.getfield 119, 3) := by decide +kernel
theorem dX9_undo_48 : decode cX9_undo 48 = .ok (.invokevirtual 116, 3) := by decide +kernel
theorem dX9_undo_51 : decode cX9_undo 51 = .ok (.ireturn, 1) := by decide +kernel
theorem dX9_keep_0 : decode cX9_keep 0 = .ok (.aload_n 0, 1) := by decide +kernel
theorem dX9_keep_1 : decode cX9_keep 1 = .ok (.getfield 103, 3) := by decide +kernel
theorem dX9_keep_4 : decode cX9_keep 4 = .ok (.ifCond .eq 11, 3) := by decide +kernel
theorem dX9_keep_7 : decode cX9_keep 7 = .ok (.iload_n 1, 1) := by decide +kernel
theorem dX9_keep_8 : decode cX9_keep 8 = .ok (.iconst 1, 1) := by decide +kernel
theorem dX9_keep_9 : decode cX9_keep 9 = .ok (.invokestatic 128, 3) := by decide +kernel
theorem dX9_keep_12 : decode cX9_keep 12 = .ok (.ifCond .ne 11, 3) := by decide +kernel
theorem dX9_keep_15 : decode cX9_keep 15 = .ok (.aload_n 0, 1) := by decide +kernel
theorem dX9_keep_16 : decode cX9_keep 16 = .ok (.iconst 1, 1) := by decide +kernel
theorem dX9_keep_17 : decode cX9_keep 17 = .ok (.invokevirtual 79, 3) := by decide +kernel
theorem dX9_keep_20 : decode cX9_keep 20 = .ok (.pop, 1) := by decide +kernel
theorem dX9_keep_21 : decode cX9_keep 21 = .ok (.iconst 0, 1) := by decide +kernel
theorem dX9_keep_22 : decode cX9_keep 22 = .ok (.ireturn, 1) := by decide +kernel
theorem dX9_keep_23 : decode cX9_keep 23 = .ok (.aload_n 0, 1) := by decide +kernel
theorem dX9_keep_24 : decode cX9_keep 24 = .ok (.getfield 61, 3) := by decide +kernel
theorem dX9_keep_27 : decode cX9_keep 27 = .ok (.iload_n 1, 1) := by decide +kernel
theorem dX9_keep_28 : decode cX9_keep 28 = .ok (.aaload, 1) := by decide +kernel
theorem dX9_keep_29 : decode cX9_keep 29 = .ok (.astore_n 2, 1) := by decide +kernel
theorem dX9_keep_30 : decode cX9_keep 30 = .ok (.aload_n 2, 1) := by decide +kernel
theorem dX9_keep_31 : decode cX9_keep 31 = .ok (.iconst 1, 1) := by decide +kernel
theorem dX9_keep_32 : decode cX9_keep 32 = .ok (.putfield 122, 3) := by decide +kernel
theorem dX9_keep_35 : decode cX9_keep 35 = .ok (.aload_n 2, 1) := by decide +kernel
theorem dX9_keep_36 : decode cX9_keep 36 = .ok (.getfield 287, 3) := by decide +kernel
theorem dX9_keep_39 : decode cX9_keep 39 = .ok (.aload_n 0, 1) := by decide +kernel
theorem dX9_keep_40 : decode cX9_keep 40 = .ok (.getfield 41, 3) := by decide +kernel
theorem dX9_keep_43 : decode cX9_keep 43 = .ok (.invokevirtual 288, 3) := by decide +kernel
theorem dX9_keep_46 : decode cX9_keep 46 = .ok (.aload_n 2, 1) := by decide +kernel
theorem dX9_keep_47 : decode cX9_keep 47 = .ok (.getfield 291, 3) := by decide +kernel
theorem dX9_keep_50 : decode cX9_keep 50 = .ok (.aload_n 0, 1) := by decide +kernel
theorem dX9_keep_51 : decode cX9_keep 51 = .ok (.getfield 32, 3) := by decide +kernel
theorem dX9_keep_54 : decode cX9_keep 54 = .ok (.invokevirtual 100, 3) := by decide +kernel
theorem dX9_keep_57 : decode cX9_keep 57 = .ok (.aload_n 0, 1) := by decide +kernel
theorem dX9_keep_58 : decode cX9_keep 58 = .ok (.iconst 0, 1) := by decide +kernel
theorem dX9_keep_59 : decode cX9_keep 59 = .ok (.invokevirtual 116, 3) := by decide +kernel
theorem dX9_keep_62 : decode cX9_keep 62 = .ok (.pop, 1) := by decide +kernel
theorem dX9_keep_63 : decode cX9_keep 63 = .ok (.iconst 1, 1) := by decide +kernel
theorem dX9_keep_64 : decode cX9_keep 64 = .ok (.ireturn, 1) := by decide +kernel
theorem dX9_back_0 : decode cX9_back 0 = .ok (.aload_n 0, 1) := by decide +kernel
theorem dX9_back_1 : decode cX9_back 1 = .ok (.getfield 103, 3) := by decide +kernel
theorem dX9_back_4 : decode cX9_back 4 = .ok (.ifCond .eq 23, 3) := by decide +kernel
theorem dX9_back_7 : decode cX9_back 7 = .ok (.iload_n 1, 1) := by decide +kernel
theorem dX9_back_8 : decode cX9_back 8 = .ok (.iconst 1, 1) := by decide +kernel
theorem dX9_back_9 : decode cX9_back 9 = .ok (.invokestatic 128, 3) := by decide +kernel
theorem dX9_back_12 : decode cX9_back 12 = .ok (.ifCond .eq 15, 3) := by decide +kernel
theorem dX9_back_15 : decode cX9_back 15 = .ok (.aload_n 0, 1) := by decide +kernel
theorem dX9_back_16 : decode cX9_back 16 = .ok (.getfield 61, 3) := by decide +kernel
theorem dX9_back_19 : decode cX9_back 19 = .ok (.iload_n 1, 1) := by decide +kernel
theorem dX9_back_20 : decode cX9_back 20 = .ok (.aaload, 1) := by decide +kernel
theorem dX9_back_21 : decode cX9_back 21 = .ok (.getfield 122, 3) := by decide +kernel
theorem dX9_back_24 : decode cX9_back 24 = .ok (.ifCond .ne 11, 3) := by decide +kernel
theorem dX9_back_27 : decode cX9_back 27 = .ok (.aload_n 0, 1) := by decide +kernel
theorem dX9_back_28 : decode cX9_back 28 = .ok (.iconst 1, 1) := by decide +kernel
theorem dX9_back_29 : decode cX9_back 29 = .ok (.invokevirtual 79, 3) := by decide +kernel
theorem dX9_back_32 : decode cX9_back 32 = .ok (.pop, 1) := by decide +kernel
theorem dX9_back_33 : decode cX9_back 33 = .ok (.iconst 0, 1) := by decide +kernel
theorem dX9_back_34 : decode cX9_back 34 = .ok (.ireturn, 1) := by decide +kernel
theorem dX9_back_35 : decode cX9_back 35 = .ok (.aload_n 0, 1) := by decide +kernel
theorem dX9_back_36 : decode cX9_back 36 = .ok (.getfield 61, 3) := by decide +kernel
theorem dX9_back_39 : decode cX9_back 39 = .ok (.iload_n 1, 1) := by decide +kernel
theorem dX9_back_40 : decode cX9_back 40 = .ok (.aaload, 1) := by decide +kernel
theorem dX9_back_41 : decode cX9_back 41 = .ok (.astore_n 2, 1) := by decide +kernel
theorem dX9_back_42 : decode cX9_back 42 = .ok (.aload_n 0, 1) := by decide +kernel
theorem dX9_back_43 : decode cX9_back 43 = .ok (.getfield 41, 3) := by decide +kernel
theorem dX9_back_46 : decode cX9_back 46 = .ok (.aload_n 2, 1) := by decide +kernel
theorem dX9_back_47 : decode cX9_back 47 = .ok (.getfield 287, 3) := by decide +kernel
theorem dX9_back_50 : decode cX9_back 50 = .ok (.invokevirtual 288, 3) := by decide +kernel
theorem dX9_back_53 : decode cX9_back 53 = .ok (.aload_n 0, 1) := by decide +kernel
theorem dX9_back_54 : decode cX9_back 54 = .ok (.getfield 32, 3) := by decide +kernel
theorem dX9_back_57 : decode cX9_back 57 = .ok (.aload_n 2, 1) := by decide +kernel
theorem dX9_back_58 : decode cX9_back 58 = .ok (.getfield 291, 3) := by decide +kernel
theorem dX9_back_61 : decode cX9_back 61 = .ok (.invokevirtual 100, 3) := by decide +kernel
theorem dX9_back_64 : decode cX9_back 64 = .ok (.aload_n 0, 1) := by decide +kernel
theorem dX9_back_65 : decode cX9_back 65 = .ok (.getfield 55, 3) := by decide +kernel
theorem dX9_back_68 : decode cX9_back 68 = .ok (.iconst 0, 1) := by decide +kernel
theorem dX9_back_69 : decode cX9_back 69 = .ok (.putfield 119, 3) := by decide +kernel
theorem dX9_back_72 : decode cX9_back 72 = .ok (.aload_n 0, 1) := by decide +kernel
theorem dX9_back_73 : decode cX9_back 73 = .ok (.iconst 0, 1) := by decide +kernel
theorem dX9_back_74 : decode cX9_back 74 = .ok (.invokevirtual 116, 3) := by decide +kernel
theorem dX9_back_77 : decode cX9_back 77 = .ok (.pop, 1) := by decide +kernel
theorem dX9_back_78 : decode cX9_back 78 = .ok (.iconst 1, 1) := by decide +kernel
theorem dX9_back_79 : decode cX9_back 79 = .ok (.ireturn, 1) := by decide +kernel
theorem dX9_letter_0 : decode cX9_letter 0 = .ok (.iload_n 1, 1) := by decide +kernel
theorem dX9_letter_1 : decode cX9_letter 1 = .ok (.ifCond .eq 14, 3) := by decide +kernel
theorem dX9_letter_4 : decode cX9_letter 4 = .ok (.aload_n 0, 1) := by decide +kernel
theorem dX9_letter_5 : decode cX9_letter 5 = .ok (.iload_n 2, 1) := by decide +kernel
theorem dX9_letter_6 : decode cX9_letter 6 = .ok (.invokevirtual 167, 3) := by decide +kernel
theorem dX9_letter_9 : decode cX9_letter 9 = .ok (.ifCond .eq 14, 3) := by decide +kernel
