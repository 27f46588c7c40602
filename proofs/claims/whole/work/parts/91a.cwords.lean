theorem dX0_init_0 : decode cX0_init 0 = .ok (.aload_n 0, 1) := by decide +kernel
theorem dX0_init_1 : decode cX0_init 1 = .ok (.invokespecial 1, 3) := by decide +kernel
theorem dX0_init_4 : decode cX0_init 4 = .ok (.aload_n 0, 1) := by decide +kernel
theorem dX0_init_5 : decode cX0_init 5 = .ok (.bipush 10, 2) := by decide +kernel
theorem dX0_init_7 : decode cX0_init 7 = .ok (.newarray .int, 2) := by decide +kernel
theorem dX0_init_9 : decode cX0_init 9 = .ok (.putfield 9, 3) := by decide +kernel
theorem dX0_init_12 : decode cX0_init 12 = .ok (.aload_n 0, 1) := by decide +kernel
theorem dX0_init_13 : decode cX0_init 13 = .ok (.bipush 10, 2) := by decide +kernel
theorem dX0_init_15 : decode cX0_init 15 = .ok (.newarray .int, 2) := by decide +kernel
theorem dX0_init_17 : decode cX0_init 17 = .ok (.putfield 13, 3) := by decide +kernel
theorem dX0_init_20 : decode cX0_init 20 = .ok (.return_, 1) := by decide +kernel
theorem dX1_init_0 : decode cX1_init 0 = .ok (.aload_n 0, 1) := by decide +kernel
theorem dX1_init_1 : decode cX1_init 1 = .ok (.invokespecial 1, 3) := by decide +kernel
theorem dX1_init_4 : decode cX1_init 4 = .ok (.aload_n 0, 1) := by decide +kernel
theorem dX1_init_5 : decode cX1_init 5 = .ok (.new 7, 3) := by decide +kernel
theorem dX1_init_8 : decode cX1_init 8 = .ok (.dup, 1) := by decide +kernel
theorem dX1_init_9 : decode cX1_init 9 = .ok (.invokespecial 9, 3) := by decide +kernel
theorem dX1_init_12 : decode cX1_init 12 = .ok (.putfield 10, 3) := by decide +kernel
theorem dX1_init_15 : decode cX1_init 15 = .ok (.aload_n 0, 1) := by decide +kernel
theorem dX1_init_16 : decode cX1_init 16 = .ok (.new 16, 3) := by decide +kernel
theorem dX1_init_19 : decode cX1_init 19 = .ok (.dup, 1) := by decide +kernel
theorem dX1_init_20 : decode cX1_init 20 = .ok (.aload_n 1, 1) := by decide +kernel
theorem dX1_init_21 : decode cX1_init 21 = .ok (.aload_n 0, 1) := by decide +kernel
theorem dX1_init_22 : decode cX1_init 22 = .ok (.getfield 10, 3) := by decide +kernel
theorem dX1_init_25 : decode cX1_init 25 = .ok (.invokespecial 18, 3) := by decide +kernel
theorem dX1_init_28 : decode cX1_init 28 = .ok (.putfield 21, 3) := by decide +kernel
theorem dX1_init_31 : decode cX1_init 31 = .ok (.return_, 1) := by decide +kernel
theorem dX2_init_0 : decode cX2_init 0 = .ok (.aload_n 0, 1) := by decide +kernel
theorem dX2_init_1 : decode cX2_init 1 = .ok (.invokespecial 3, 3) := by decide +kernel
theorem dX2_init_4 : decode cX2_init 4 = .ok (.aload_n 0, 1) := by decide +kernel
theorem dX2_init_5 : decode cX2_init 5 = .ok (.bipush 18, 2) := by decide +kernel
theorem dX2_init_7 : decode cX2_init 7 = .ok (.newarray .int, 2) := by decide +kernel
theorem dX2_init_9 : decode cX2_init 9 = .ok (.putfield 9, 3) := by decide +kernel
theorem dX2_init_12 : decode cX2_init 12 = .ok (.aload_n 0, 1) := by decide +kernel
theorem dX2_init_13 : decode cX2_init 13 = .ok (.bipush 18, 2) := by decide +kernel
theorem dX2_init_15 : decode cX2_init 15 = .ok (.newarray .int, 2) := by decide +kernel
theorem dX2_init_17 : decode cX2_init 17 = .ok (.putfield 15, 3) := by decide +kernel
theorem dX2_init_20 : decode cX2_init 20 = .ok (.return_, 1) := by decide +kernel
theorem dX3_init_0 : decode cX3_init 0 = .ok (.aload_n 0, 1) := by decide +kernel
theorem dX3_init_1 : decode cX3_init 1 = .ok (.invokespecial 3, 3) := by decide +kernel
theorem dX3_init_4 : decode cX3_init 4 = .ok (.aload_n 0, 1) := by decide +kernel
theorem dX3_init_5 : decode cX3_init 5 = .ok (.bipush 18, 2) := by decide +kernel
theorem dX3_init_7 : decode cX3_init 7 = .ok (.newarray .int, 2) := by decide +kernel
theorem dX3_init_9 : decode cX3_init 9 = .ok (.putfield 9, 3) := by decide +kernel
theorem dX3_init_12 : decode cX3_init 12 = .ok (.aload_n 0, 1) := by decide +kernel
theorem dX3_init_13 : decode cX3_init 13 = .ok (.bipush 18, 2) := by decide +kernel
theorem dX3_init_15 : decode cX3_init 15 = .ok (.newarray .int, 2) := by decide +kernel
theorem dX3_init_17 : decode cX3_init 17 = .ok (.putfield 15, 3) := by decide +kernel
theorem dX3_init_20 : decode cX3_init 20 = .ok (.aload_n 0, 1) := by decide +kernel
theorem dX3_init_21 : decode cX3_init 21 = .ok (.bipush 6, 2) := by decide +kernel
theorem dX3_init_23 : decode cX3_init 23 = .ok (.newarray .int, 2) := by decide +kernel
theorem dX3_init_25 : decode cX3_init 25 = .ok (.putfield 18, 3) := by decide +kernel
theorem dX3_init_28 : decode cX3_init 28 = .ok (.aload_n 0, 1) := by decide +kernel
theorem dX3_init_29 : decode cX3_init 29 = .ok (.bipush 6, 2) := by decide +kernel
theorem dX3_init_31 : decode cX3_init 31 = .ok (.newarray .int, 2) := by decide +kernel
theorem dX3_init_33 : decode cX3_init 33 = .ok (.putfield 21, 3) := by decide +kernel
theorem dX3_init_36 : decode cX3_init 36 = .ok (.aload_n 0, 1) := by decide +kernel
theorem dX3_init_37 : decode cX3_init 37 = .ok (.bipush 6, 2) := by decide +kernel
theorem dX3_init_39 : decode cX3_init 39 = .ok (.newarray .int, 2) := by decide +kernel
theorem dX3_init_41 : decode cX3_init 41 = .ok (.putfield 24, 3) := by decide +kernel
theorem dX3_init_44 : decode cX3_init 44 = .ok (.aload_n 0, 1) := by decide +kernel
theorem dX3_init_45 : decode cX3_init 45 = .ok (.bipush 6, 2) := by decide +kernel
theorem dX3_init_47 : decode cX3_init 47 = .ok (.newarray .int, 2) := by decide +kernel
theorem dX3_init_49 : decode cX3_init 49 = .ok (.putfield 27, 3) := by decide +kernel
theorem dX3_init_52 : decode cX3_init 52 = .ok (.aload_n 0, 1) := by decide +kernel
theorem dX3_init_53 : decode cX3_init 53 = .ok (.bipush 24, 2) := by decide +kernel
theorem dX3_init_55 : decode cX3_init 55 = .ok (.newarray .int, 2) := by decide +kernel
theorem dX3_init_57 : decode cX3_init 57 = .ok (.putfield 30, 3) := by decide +kernel
theorem dX3_init_60 : decode cX3_init 60 = .ok (.aload_n 0, 1) := by decide +kernel
theorem dX3_init_61 : decode cX3_init 61 = .ok (.bipush 6, 2) := by decide +kernel
theorem dX3_init_63 : decode cX3_init 63 = .ok (.newarray .int, 2) := by decide +kernel
theorem dX3_init_65 : decode cX3_init 65 = .ok (.putfield 33, 3) := by decide +kernel
theorem dX3_init_68 : decode cX3_init 68 = .ok (.aload_n 0, 1) := by decide +kernel
theorem dX3_init_69 : decode cX3_init 69 = .ok (.iconst 3, 1) := by decide +kernel
theorem dX3_init_70 : decode cX3_init 70 = .ok (.newarray .int, 2) := by decide +kernel
theorem dX3_init_72 : decode cX3_init 72 = .ok (.putfield 36, 3) := by decide +kernel
theorem dX3_init_75 : decode cX3_init 75 = .ok (.aload_n 0, 1) := by decide +kernel
theorem dX3_init_76 : decode cX3_init 76 = .ok (.iconst 3, 1) := by decide +kernel
theorem dX3_init_77 : decode cX3_init 77 = .ok (.newarray .int, 2) := by decide +kernel
theorem dX3_init_79 : decode cX3_init 79 = .ok (.putfield 39, 3) := by decide +kernel
theorem dX3_init_82 : decode cX3_init 82 = .ok (.aload_n 0, 1) := by decide +kernel
theorem dX3_init_83 : decode cX3_init 83 = .ok (.iconst 3, 1) := by decide +kernel
theorem dX3_init_84 : decode cX3_init 84 = .ok (.newarray .int, 2) := by decide +kernel
theorem dX3_init_86 : decode cX3_init 86 = .ok (.putfield 42, 3) := by decide +kernel
theorem dX3_init_89 : decode cX3_init 89 = .ok (.aload_n 0, 1) := by decide +kernel
theorem dX3_init_90 : decode cX3_init 90 = .ok (.iconst 3, 1) := by decide +kernel
theorem dX3_init_91 : decode cX3_init 91 = .ok (.newarray .int, 2) := by decide +kernel
theorem dX3_init_93 : decode cX3_init 93 = .ok (.putfield 45, 3) := by decide +kernel
theorem dX3_init_96 : decode cX3_init 96 = .ok (.aload_n 0, 1) := by decide +kernel
theorem dX3_init_97 : decode cX3_init 97 = .ok (.aload_n 1, 1) := by decide +kernel
theorem dX3_init_98 : decode cX3_init 98 = .ok (.putfield 48, 3) := by decide +kernel
theorem dX3_init_101 : decode cX3_init 101 = .ok (.aload_n 0, 1) := by decide +kernel
theorem dX3_init_102 : decode cX3_init 102 = .ok (.aload_n 2, 1) := by decide +kernel
theorem dX3_init_103 : decode cX3_init 103 = .ok (.putfield 52, 3) := by decide +kernel
theorem dX3_init_106 : decode cX3_init 106 = .ok (.return_, 1) := by decide +kernel
theorem dX4_init_0 : decode cX4_init 0 = .ok (.aload_n 0, 1) := by decide +kernel
theorem dX4_init_1 : decode cX4_init 1 = .ok (.invokespecial 3, 3) := by decide +kernel
theorem dX4_init_4 : decode cX4_init 4 = .ok (.aload_n 0, 1) := by decide +kernel
theorem dX4_init_5 : decode cX4_init 5 = .ok (.new 9, 3) := by decide +kernel
theorem dX4_init_8 : decode cX4_init 8 = .ok (.dup, 1) := by decide +kernel
theorem dX4_init_9 : decode cX4_init 9 = .ok (.invokespecial 11, 3) := by decide +kernel
theorem dX4_init_12 : decode cX4_init 12 = .ok (.putfield 12, 3) := by decide +kernel
theorem dX4_init_15 : decode cX4_init 15 = .ok (.aload_n 0, 1) := by decide +kernel
theorem dX4_init_16 : decode cX4_init 16 = .ok (.aload_n 1, 1) := by decide +kernel
theorem dX4_init_17 : decode cX4_init 17 = .ok (.putfield 18, 3) := by decide +kernel
theorem dX4_init_20 : decode cX4_init 20 = .ok (.aload_n 0, 1) := by decide +kernel
theorem dX4_init_21 : decode cX4_init 21 = .ok (.aload_n 2, 1) := by decide +kernel
theorem dX4_init_22 : decode cX4_init 22 = .ok (.putfield 22, 3) := by decide +kernel
theorem dX4_init_25 : decode cX4_init 25 = .ok (.aload_n 0, 1) := by decide +kernel
theorem dX4_init_26 : decode cX4_init 26 = .ok (.new 25, 3) := by decide +kernel
theorem dX4_init_29 : decode cX4_init 29 = .ok (.dup, 1) := by decide +kernel
theorem dX4_init_30 : decode cX4_init 30 = .ok (.aload_n 1, 1) := by decide +kernel
theorem dX4_init_31 : decode cX4_init 31 = .ok (.aload_n 0, 1) := by decide +kernel
theorem dX4_init_32 : decode cX4_init 32 = .ok (.getfield 12, 3) := by decide +kernel
theorem dX4_init_35 : decode cX4_init 35 = .ok (.invokespecial 27, 3) := by decide +kernel
theorem dX4_init_38 : decode cX4_init 38 = .ok (.putfield 30, 3) := by decide +kernel
theorem dX4_init_41 : decode cX4_init 41 = .ok (.return_, 1) := by decide +kernel
theorem dX5_init_0 : decode cX5_init 0 = .ok (.aload_n 0, 1) := by decide +kernel
theorem dX5_init_1 : decode cX5_init 1 = .ok (.invokespecial 3, 3) := by decide +kernel
theorem dX5_init_4 : decode cX5_init 4 = .ok (.aload_n 0, 1) := by decide +kernel
theorem dX5_init_5 : decode cX5_init 5 = .ok (.bipush 6, 2) := by decide +kernel
theorem dX5_init_7 : decode cX5_init 7 = .ok (.newarray .int, 2) := by decide +kernel
theorem dX5_init_9 : decode cX5_init 9 = .ok (.putfield 9, 3) := by decide +kernel
theorem dX5_init_12 : decode cX5_init 12 = .ok (.aload_n 0, 1) := by decide +kernel
theorem dX5_init_13 : decode cX5_init 13 = .ok (.bipush 6, 2) := by decide +kernel
theorem dX5_init_15 : decode cX5_init 15 = .ok (.newarray .int, 2) := by decide +kernel
theorem dX5_init_17 : decode cX5_init 17 = .ok (.putfield 15, 3) := by decide +kernel
theorem dX5_init_20 : decode cX5_init 20 = .ok (.aload_n 0, 1) := by decide +kernel
theorem dX5_init_21 : decode cX5_init 21 = .ok (.bipush 6, 2) := by decide +kernel
theorem dX5_init_23 : decode cX5_init 23 = .ok (.newarray .int, 2) := by decide +kernel
theorem dX5_init_25 : decode cX5_init 25 = .ok (.putfield 18, 3) := by decide +kernel
theorem dX5_init_28 : decode cX5_init 28 = .ok (.aload_n 0, 1) := by decide +kernel
theorem dX5_init_29 : decode cX5_init 29 = .ok (.iconst 4, 1) := by decide +kernel
theorem dX5_init_30 : decode cX5_init 30 = .ok (.newarray .int, 2) := by decide +kernel
theorem dX5_init_32 : decode cX5_init 32 = .ok (.putfield 21, 3) := by decide +kernel
theorem dX5_init_35 : decode cX5_init 35 = .ok (.aload_n 0, 1) := by decide +kernel
theorem dX5_init_36 : decode cX5_init 36 = .ok (.iconst 4, 1) := by decide +kernel
theorem dX5_init_37 : decode cX5_init 37 = .ok (.newarray .int, 2) := by decide +kernel
theorem dX5_init_39 : decode cX5_init 39 = .ok (.putfield 24, 3) := by decide +kernel
theorem dX5_init_42 : decode cX5_init 42 = .ok (.aload_n 0, 1) := by decide +kernel
theorem dX5_init_43 : decode cX5_init 43 = .ok (.iconst 4, 1) := by decide +kernel
theorem dX5_init_44 : decode cX5_init 44 = .ok (.newarray .int, 2) := by decide +kernel
theorem dX5_init_46 : decode cX5_init 46 = .ok (.putfield 27, 3) := by decide +kernel
theorem dX5_init_49 : decode cX5_init 49 = .ok (.aload_n 0, 1) := by decide +kernel
theorem dX5_init_50 : decode cX5_init 50 = .ok (.bipush 54, 2) := by decide +kernel
theorem dX5_init_52 : decode cX5_init 52 = .ok (.newarray .int, 2) := by decide +kernel
theorem dX5_init_54 : decode cX5_init 54 = .ok (.putfield 30, 3) := by decide +kernel
theorem dX5_init_57 : decode cX5_init 57 = .ok (.aload_n 0, 1) := by decide +kernel
theorem dX5_init_58 : decode cX5_init 58 = .ok (.bipush 9, 2) := by decide +kernel
theorem dX5_init_60 : decode cX5_init 60 = .ok (.newarray .int, 2) := by decide +kernel
theorem dX5_init_62 : decode cX5_init 62 = .ok (.putfield 33, 3) := by decide +kernel
theorem dX5_init_65 : decode cX5_init 65 = .ok (.aload_n 0, 1) := by decide +kernel
theorem dX5_init_66 : decode cX5_init 66 = .ok (.new 36, 3) := by decide +kernel
theorem dX5_init_69 : decode cX5_init 69 = .ok (.dup, 1) := by decide +kernel
theorem dX5_init_70 : decode cX5_init 70 = .ok (.invokespecial 38, 3) := by decide +kernel
theorem dX5_init_73 : decode cX5_init 73 = .ok (.putfield 39, 3) := by decide +kernel
theorem dX5_init_76 : decode cX5_init 76 = .ok (.return_, 1) := by decide +kernel
theorem dX6_init_0 : decode cX6_init 0 = .ok (.aload_n 0, 1) := by decide +kernel
theorem dX6_init_1 : decode cX6_init 1 = .ok (.invokespecial 3, 3) := by decide +kernel
theorem dX6_init_4 : decode cX6_init 4 = .ok (.aload_n 0, 1) := by decide +kernel
theorem dX6_init_5 : decode cX6_init 5 = .ok (.new 9, 3) := by decide +kernel
theorem dX6_init_8 : decode cX6_init 8 = .ok (.dup, 1) := by decide +kernel
theorem dX6_init_9 : decode cX6_init 9 = .ok (.invokespecial 11, 3) := by decide +kernel
theorem dX6_init_12 : decode cX6_init 12 = .ok (.putfield 12, 3) := by decide +kernel
theorem dX6_init_15 : decode cX6_init 15 = .ok (.aload_n 0, 1) := by decide +kernel
theorem dX6_init_16 : decode cX6_init 16 = .ok (.new 18, 3) := by decide +kernel
theorem dX6_init_19 : decode cX6_init 19 = .ok (.dup, 1) := by decide +kernel
theorem dX6_init_20 : decode cX6_init 20 = .ok (.aload_n 1, 1) := by decide +kernel
theorem dX6_init_21 : decode cX6_init 21 = .ok (.invokespecial 20, 3) := by decide +kernel
theorem dX6_init_24 : decode cX6_init 24 = .ok (.putfield 23, 3) := by decide +kernel
theorem dX6_init_27 : decode cX6_init 27 = .ok (.return_, 1) := by decide +kernel
theorem dX7_init_0 : decode cX7_init 0 = .ok (.aload_n 0, 1) := by decide +kernel
theorem dX7_init_1 : decode cX7_init 1 = .ok (.invokespecial 3, 3) := by decide +kernel
theorem dX7_init_4 : decode cX7_init 4 = .ok (.aload_n 0, 1) := by decide +kernel
theorem dX7_init_5 : decode cX7_init 5 = .ok (.sipush 601, 3) := by decide +kernel
theorem dX7_init_8 : decode cX7_init 8 = .ok (.newarray .int, 2) := by decide +kernel
theorem dX7_init_10 : decode cX7_init 10 = .ok (.putfield 9, 3) := by decide +kernel
theorem dX7_init_13 : decode cX7_init 13 = .ok (.aload_n 0, 1) := by decide +kernel
theorem dX7_init_14 : decode cX7_init 14 = .ok (.sipush 601, 3) := by decide +kernel
theorem dX7_init_17 : decode cX7_init 17 = .ok (.newarray .int, 2) := by decide +kernel
theorem dX7_init_19 : decode cX7_init 19 = .ok (.putfield 15, 3) := by decide +kernel
theorem dX7_init_22 : decode cX7_init 22 = .ok (.aload_n 0, 1) := by decide +kernel
theorem dX7_init_23 : decode cX7_init 23 = .ok (.sipush 601, 3) := by decide +kernel
theorem dX7_init_26 : decode cX7_init 26 = .ok (.newarray .int, 2) := by decide +kernel
theorem dX7_init_28 : decode cX7_init 28 = .ok (.putfield 18, 3) := by decide +kernel
theorem dX7_init_31 : decode cX7_init 31 = .ok (.aload_n 0, 1) := by decide +kernel
theorem dX7_init_32 : decode cX7_init 32 = .ok (.sipush 601, 3) := by decide +kernel
theorem dX7_init_35 : decode cX7_init 35 = .ok (.newarray .int, 2) := by decide +kernel
theorem dX7_init_37 : decode cX7_init 37 = .ok (.putfield 21, 3) := by decide +kernel
theorem dX7_init_40 : decode cX7_init 40 = .ok (.aload_n 0, 1) := by decide +kernel
theorem dX7_init_41 : decode cX7_init 41 = .ok (.aload_n 1, 1) := by decide +kernel
theorem dX7_init_42 : decode cX7_init 42 = .ok (.putfield 24, 3) := by decide +kernel
theorem dX7_init_45 : decode cX7_init 45 = .ok (.return_, 1) := by decide +kernel
theorem dX8_init_0 : decode cX8_init 0 = .ok (.aload_n 0, 1) := by decide +kernel
theorem dX8_init_1 : decode cX8_init 1 = .ok (.invokespecial 5, 3) := by decide +kernel
theorem dX8_init_4 : decode cX8_init 4 = .ok (.aload_n 0, 1) := by decide +kernel
theorem dX8_init_5 : decode cX8_init 5 = .ok (.sipush 10000, 3) := by decide +kernel
theorem dX8_init_8 : decode cX8_init 8 = .ok (.newarray .long, 2) := by decide +kernel
theorem dX8_init_10 : decode cX8_init 10 = .ok (.putfield 13, 3) := by decide +kernel
theorem dX8_init_13 : decode cX8_init 13 = .ok (.aload_n 0, 1) := by decide +kernel
theorem dX8_init_14 : decode cX8_init 14 = .ok (.sipush 1024, 3) := by decide +kernel
theorem dX8_init_17 : decode cX8_init 17 = .ok (.newarray .int, 2) := by decide +kernel
theorem dX8_init_19 : decode cX8_init 19 = .ok (.putfield 17, 3) := by decide +kernel
theorem dX8_init_22 : decode cX8_init 22 = .ok (.aload_n 0, 1) := by decide +kernel
theorem dX8_init_23 : decode cX8_init 23 = .ok (.sipush 2000, 3) := by decide +kernel
theorem dX8_init_26 : decode cX8_init 26 = .ok (.newarray .int, 2) := by decide +kernel
theorem dX8_init_28 : decode cX8_init 28 = .ok (.putfield 21, 3) := by decide +kernel
theorem dX8_init_31 : decode cX8_init 31 = .ok (.return_, 1) := by decide +kernel
theorem dX9_init_0 : decode cX9_init 0 = .ok (.aload_n 0, 1) := by decide +kernel
theorem dX9_init_1 : decode cX9_init 1 = .ok (.invokespecial 1, 3) := by decide +kernel
theorem dX9_init_4 : decode cX9_init 4 = .ok (.aload_n 0, 1) := by decide +kernel
theorem dX9_init_5 : decode cX9_init 5 = .ok (.sipush 600, 3) := by decide +kernel
theorem dX9_init_8 : decode cX9_init 8 = .ok (.newarray .byte, 2) := by decide +kernel
theorem dX9_init_10 : decode cX9_init 10 = .ok (.putfield 9, 3) := by decide +kernel
theorem dX9_init_13 : decode cX9_init 13 = .ok (.aload_n 0, 1) := by decide +kernel
theorem dX9_init_14 : decode cX9_init 14 = .ok (.new 13, 3) := by decide +kernel
theorem dX9_init_17 : decode cX9_init 17 = .ok (.dup, 1) := by decide +kernel
theorem dX9_init_18 : decode cX9_init 18 = .ok (.invokespecial 15, 3) := by decide +kernel
theorem dX9_init_21 : decode cX9_init 21 = .ok (.putfield 16, 3) := by decide +kernel
theorem dX9_init_24 : decode cX9_init 24 = .ok (.aload_n 0, 1) := by decide +kernel
theorem dX9_init_25 : decode cX9_init 25 = .ok (.new 20, 3) := by decide +kernel
theorem dX9_init_28 : decode cX9_init 28 = .ok (.dup, 1) := by decide +kernel
theorem dX9_init_29 : decode cX9_init 29 = .ok (.aload_n 0, 1) := by decide +kernel
theorem dX9_init_30 : decode cX9_init 30 = .ok (.getfield 9, 3) := by decide +kernel
theorem dX9_init_33 : decode cX9_init 33 = .ok (.invokespecial 22, 3) := by decide +kernel
theorem dX9_init_36 : decode cX9_init 36 = .ok (.putfield 25, 3) := by decide +kernel
theorem dX9_init_39 : decode cX9_init 39 = .ok (.aload_n 0, 1) := by decide +kernel
theorem dX9_init_40 : decode cX9_init 40 = .ok (.new 29, 3) := by decide +kernel
theorem dX9_init_43 : decode cX9_init 43 = .ok (.dup, 1) := by decide +kernel
theorem dX9_init_44 : decode cX9_init 44 = .ok (.invokespecial 31, 3) := by decide +kernel
theorem dX9_init_47 : decode cX9_init 47 = .ok (.putfield 32, 3) := by decide +kernel
theorem dX9_init_50 : decode cX9_init 50 = .ok (.aload_n 0, 1) := by decide +kernel
theorem dX9_init_51 : decode cX9_init 51 = .ok (.new 36, 3) := by decide +kernel
theorem dX9_init_54 : decode cX9_init 54 = .ok (.dup, 1) := by decide +kernel
theorem dX9_init_55 : decode cX9_init 55 = .ok (.aload_n 0, 1) := by decide +kernel
theorem dX9_init_56 : decode cX9_init 56 = .ok (.getfield 16, 3) := by decide +kernel
theorem dX9_init_59 : decode cX9_init 59 = .ok (.aload_n 0, 1) := by decide +kernel
theorem dX9_init_60 : decode cX9_init 60 = .ok (.getfield 32, 3) := by decide +kernel
theorem dX9_init_63 : decode cX9_init 63 = .ok (.invokespecial 38, 3) := by decide +kernel
theorem dX9_init_66 : decode cX9_init 66 = .ok (.putfield 41, 3) := by decide +kernel
theorem dX9_init_69 : decode cX9_init 69 = .ok (.aload_n 0, 1) := by decide +kernel
theorem dX9_init_70 : decode cX9_init 70 = .ok (.new 45, 3) := by decide +kernel
theorem dX9_init_73 : decode cX9_init 73 = .ok (.dup, 1) := by decide +kernel
theorem dX9_init_74 : decode cX9_init 74 = .ok (.aload_n 0, 1) := by decide +kernel
theorem dX9_init_75 : decode cX9_init 75 = .ok (.getfield 16, 3) := by decide +kernel
theorem dX9_init_78 : decode cX9_init 78 = .ok (.aload_n 0, 1) := by decide +kernel
theorem dX9_init_79 : decode cX9_init 79 = .ok (.getfield 32, 3) := by decide +kernel
theorem dX9_init_82 : decode cX9_init 82 = .ok (.invokespecial 47, 3) := by decide +kernel
theorem dX9_init_85 : decode cX9_init 85 = .ok (.putfield 48, 3) := by decide +kernel
theorem dX9_init_88 : decode cX9_init 88 = .ok (.aload_n 0, 1) := by decide +kernel
theorem dX9_init_89 : decode cX9_init 89 = .ok (.new 52, 3) := by decide +kernel
theorem dX9_init_92 : decode cX9_init 92 = .ok (.dup, 1) := by decide +kernel
theorem dX9_init_93 : decode cX9_init 93 = .ok (.invokespecial 54, 3) := by decide +kernel
theorem dX9_init_96 : decode cX9_init 96 = .ok (.putfield 55, 3) := by decide +kernel
theorem dX9_init_99 : decode cX9_init 99 = .ok (.aload_n 0, 1) := by decide +kernel
theorem dX9_init_100 : decode cX9_init 100 = .ok (.iconst 2, 1) := by decide +kernel
theorem dX9_init_101 : decode cX9_init 101 = .ok (.anewarray 59, 3) := by decide +kernel
theorem dX9_init_104 : decode cX9_init 104 = .ok (.putfield 61, 3) := by decide +kernel
theorem dX9_init_107 : decode cX9_init 107 = .ok (.iconst 0, 1) := by decide +kernel
theorem dX9_init_108 : decode cX9_init 108 = .ok (.istore_n 1, 1) := by decide +kernel
theorem dX9_init_109 : decode cX9_init 109 = .ok (.iload_n 1, 1) := by decide +kernel
theorem dX9_init_110 : decode cX9_init 110 = .ok (.iconst 2, 1) := by decide +kernel
theorem dX9_init_111 : decode cX9_init 111 = .ok (.if_icmp .ge 26, 3) := by decide +kernel
theorem dX9_init_114 : decode cX9_init 114 = .ok (.aload_n 0, 1) := by decide +kernel
theorem dX9_init_115 : decode cX9_init 115 = .ok (.getfield 61, 3) := by decide +kernel
theorem dX9_init_118 : decode cX9_init 118 = .ok (.iload_n 1, 1) := by decide +kernel
theorem dX9_init_119 : decode cX9_init 119 = .ok (.new 59, 3) := by decide +kernel
theorem dX9_init_122 : decode cX9_init 122 = .ok (.dup, 1) := by decide +kernel
theorem dX9_init_123 : decode cX9_init 123 = .ok (.aload_n 0, 1) := by decide +kernel
theorem dX9_init_124 : decode cX9_init 124 = .ok (.getfield 16, 3) := by decide +kernel
theorem dX9_init_127 : decode cX9_init 127 = .ok (.invokespecial 65, 3) := by decide +kernel
theorem dX9_init_130 : decode cX9_init 130 = .ok (.aastore, 1) := by decide +kernel
theorem dX9_init_131 : decode cX9_init 131 = .ok (.iinc 1 1, 3) := by decide +kernel
theorem dX9_init_134 : decode cX9_init 134 = .ok (.goto (-25), 3) := by decide +kernel
theorem dX9_init_137 : decode cX9_init 137 = .ok (.aload_n 0, 1) := by decide +kernel
theorem dX9_init_138 : decode cX9_init 138 = .ok (.iconst (-1), 1) := by decide +kernel
theorem dX9_init_139 : decode cX9_init 139 = .ok (.putfield 68, 3) := by decide +kernel
theorem dX9_init_142 : decode cX9_init 142 = .ok (.return_, 1) := by decide +kernel
theorem dX10_init_0 : decode cX10_init 0 = .ok (.aload_n 0, 1) := by decide +kernel
theorem dX10_init_1 : decode cX10_init 1 = .ok (.invokespecial 1, 3) := by decide +kernel
theorem dX10_init_4 : decode cX10_init 4 = .ok (.aload_n 0, 1) := by decide +kernel
theorem dX10_init_5 : decode cX10_init 5 = .ok (.iconst (-1), 1) := by decide +kernel
theorem dX10_init_6 : decode cX10_init 6 = .ok (.putfield 9, 3) := by decide +kernel
theorem dX10_init_9 : decode cX10_init 9 = .ok (.aload_n 0, 1) := by decide +kernel
theorem dX10_init_10 : decode cX10_init 10 = .ok (.sipush 600, 3) := by decide +kernel
theorem dX10_init_13 : decode cX10_init 13 = .ok (.newarray .int, 2) := by decide +kernel
theorem dX10_init_15 : decode cX10_init 15 = .ok (.putfield 13, 3) := by decide +kernel
theorem dX10_init_18 : decode cX10_init 18 = .ok (.aload_n 0, 1) := by decide +kernel
theorem dX10_init_19 : decode cX10_init 19 = .ok (.bipush 6, 2) := by decide +kernel
theorem dX10_init_21 : decode cX10_init 21 = .ok (.newarray .long, 2) := by decide +kernel
theorem dX10_init_23 : decode cX10_init 23 = .ok (.putfield 17, 3) := by decide +kernel
theorem dX10_init_26 : decode cX10_init 26 = .ok (.aload_n 0, 1) := by decide +kernel
theorem dX10_init_27 : decode cX10_init 27 = .ok (.bipush 12, 2) := by decide +kernel
theorem dX10_init_29 : decode cX10_init 29 = .ok (.newarray .long, 2) := by decide +kernel
theorem dX10_init_31 : decode cX10_init 31 = .ok (.putfield 21, 3) := by decide +kernel
theorem dX10_init_34 : decode cX10_init 34 = .ok (.aload_n 0, 1) := by decide +kernel
theorem dX10_init_35 : decode cX10_init 35 = .ok (.bipush 12, 2) := by decide +kernel
theorem dX10_init_37 : decode cX10_init 37 = .ok (.newarray .int, 2) := by decide +kernel
theorem dX10_init_39 : decode cX10_init 39 = .ok (.putfield 24, 3) := by decide +kernel
theorem dX10_init_42 : decode cX10_init 42 = .ok (.aload_n 0, 1) := by decide +kernel
theorem dX10_init_43 : decode cX10_init 43 = .ok (.bipush 12, 2) := by decide +kernel
theorem dX10_init_45 : decode cX10_init 45 = .ok (.newarray .int, 2) := by decide +kernel
theorem dX10_init_47 : decode cX10_init 47 = .ok (.putfield 27, 3) := by decide +kernel
theorem dX10_init_50 : decode cX10_init 50 = .ok (.aload_n 0, 1) := by decide +kernel
theorem dX10_init_51 : decode cX10_init 51 = .ok (.bipush 12, 2) := by decide +kernel
theorem dX10_init_53 : decode cX10_init 53 = .ok (.newarray .int, 2) := by decide +kernel
theorem dX10_init_55 : decode cX10_init 55 = .ok (.putfield 30, 3) := by decide +kernel
theorem dX10_init_58 : decode cX10_init 58 = .ok (.aload_n 0, 1) := by decide +kernel
theorem dX10_init_59 : decode cX10_init 59 = .ok (.bipush 8, 2) := by decide +kernel
theorem dX10_init_61 : decode cX10_init 61 = .ok (.newarray .int, 2) := by decide +kernel
theorem dX10_init_63 : decode cX10_init 63 = .ok (.putfield 33, 3) := by decide +kernel
theorem dX10_init_66 : decode cX10_init 66 = .ok (.aload_n 0, 1) := by decide +kernel
theorem dX10_init_67 : decode cX10_init 67 = .ok (.bipush 8, 2) := by decide +kernel
theorem dX10_init_69 : decode cX10_init 69 = .ok (.newarray .int, 2) := by decide +kernel
theorem dX10_init_71 : decode cX10_init 71 = .ok (.putfield 36, 3) := by decide +kernel
theorem dX10_init_74 : decode cX10_init 74 = .ok (.aload_n 0, 1) := by decide +kernel
theorem dX10_init_75 : decode cX10_init 75 = .ok (.bipush 8, 2) := by decide +kernel
theorem dX10_init_77 : decode cX10_init 77 = .ok (.newarray .int, 2) := by decide +kernel
theorem dX10_init_79 : decode cX10_init 79 = .ok (.putfield 39, 3) := by decide +kernel
theorem dX10_init_82 : decode cX10_init 82 = .ok (.aload_n 0, 1) := by decide +kernel
theorem dX10_init_83 : decode cX10_init 83 = .ok (.bipush 37, 2) := by decide +kernel
theorem dX10_init_85 : decode cX10_init 85 = .ok (.newarray .int, 2) := by decide +kernel
theorem dX10_init_87 : decode cX10_init 87 = .ok (.putfield 42, 3) := by decide +kernel
theorem dX10_init_90 : decode cX10_init 90 = .ok (.aload_n 0, 1) := by decide +kernel
theorem dX10_init_91 : decode cX10_init 91 = .ok (.bipush 37, 2) := by decide +kernel
theorem dX10_init_93 : decode cX10_init 93 = .ok (.newarray .int, 2) := by decide +kernel
theorem dX10_init_95 : decode cX10_init 95 = .ok (.putfield 45, 3) := by decide +kernel
theorem dX10_init_98 : decode cX10_init 98 = .ok (.aload_n 0, 1) := by decide +kernel
theorem dX10_init_99 : decode cX10_init 99 = .ok (.bipush 37, 2) := by decide +kernel
theorem dX10_init_101 : decode cX10_init 101 = .ok (.newarray .int, 2) := by decide +kernel
theorem dX10_init_103 : decode cX10_init 103 = .ok (.putfield 48, 3) := by decide +kernel
theorem dX10_init_106 : decode cX10_init 106 = .ok (.aload_n 0, 1) := by decide +kernel
theorem dX10_init_107 : decode cX10_init 107 = .ok (.sipush 370, 3) := by decide +kernel
theorem dX10_init_110 : decode cX10_init 110 = .ok (.newarray .int, 2) := by decide +kernel
theorem dX10_init_112 : decode cX10_init 112 = .ok (.putfield 51, 3) := by decide +kernel
theorem dX10_init_115 : decode cX10_init 115 = .ok (.aload_n 0, 1) := by decide +kernel
theorem dX10_init_116 : decode cX10_init 116 = .ok (.bipush 74, 2) := by decide +kernel
theorem dX10_init_118 : decode cX10_init 118 = .ok (.newarray .int, 2) := by decide +kernel
theorem dX10_init_120 : decode cX10_init 120 = .ok (.putfield 54, 3) := by decide +kernel
theorem dX10_init_123 : decode cX10_init 123 = .ok (.aload_n 0, 1) := by decide +kernel
theorem dX10_init_124 : decode cX10_init 124 = .ok (.bipush 99, 2) := by decide +kernel
theorem dX10_init_126 : decode cX10_init 126 = .ok (.newarray .int, 2) := by decide +kernel
theorem dX10_init_128 : decode cX10_init 128 = .ok (.putfield 57, 3) := by decide +kernel
theorem dX10_init_131 : decode cX10_init 131 = .ok (.aload_n 0, 1) := by decide +kernel
theorem dX10_init_132 : decode cX10_init 132 = .ok (.bipush 99, 2) := by decide +kernel
theorem dX10_init_134 : decode cX10_init 134 = .ok (.newarray .int, 2) := by decide +kernel
theorem dX10_init_136 : decode cX10_init 136 = .ok (.putfield 60, 3) := by decide +kernel
theorem dX10_init_139 : decode cX10_init 139 = .ok (.aload_n 0, 1) := by decide +kernel
theorem dX10_init_140 : decode cX10_init 140 = .ok (.sipush 198, 3) := by decide +kernel
theorem dX10_init_143 : decode cX10_init 143 = .ok (.newarray .int, 2) := by decide +kernel
theorem dX10_init_145 : decode cX10_init 145 = .ok (.putfield 63, 3) := by decide +kernel
theorem dX10_init_148 : decode cX10_init 148 = .ok (.aload_n 0, 1) := by decide +kernel
theorem dX10_init_149 : decode cX10_init 149 = .ok (.iconst 2, 1) := by decide +kernel
theorem dX10_init_150 : decode cX10_init 150 = .ok (.newarray .boolean, 2) := by decide +kernel
theorem dX10_init_152 : decode cX10_init 152 = .ok (.putfield 66, 3) := by decide +kernel
theorem dX10_init_155 : decode cX10_init 155 = .ok (.aload_n 0, 1) := by decide +kernel
theorem dX10_init_156 : decode cX10_init 156 = .ok (.ldc 70, 2) := by decide +kernel
theorem dX10_init_158 : decode cX10_init 158 = .ok (.newarray .int, 2) := by decide +kernel
theorem dX10_init_160 : decode cX10_init 160 = .ok (.putfield 71, 3) := by decide +kernel
theorem dX10_init_163 : decode cX10_init 163 = .ok (.return_, 1) := by decide +kernel
theorem cdX0 : yX0_init.cls ≠ "java/lang/invoke/MethodHandle" ∧ yX0_init.cls ≠ "java/lang/invoke/VarHandle" ∧ (parseMethodDescriptor yX0_init.desc).map (fun d => d.parameters.length) = some 0 := by decide +kernel
def dflX0 : List Value := [.null, .null, .int 0]
theorem dfX0 : ∀ j, j < 3 → defaultValue (tyX0 j) = vp_V dflX0 j := by
  intro j hj
  match j, hj with
  | 0, _ => rfl
  | 1, _ => rfl
  | 2, _ => rfl
  | k + 3, hj => exact absurd hj (by omega)
theorem cdX1 : yX1_init.cls ≠ "java/lang/invoke/MethodHandle" ∧ yX1_init.cls ≠ "java/lang/invoke/VarHandle" ∧ (parseMethodDescriptor yX1_init.desc).map (fun d => d.parameters.length) = some 1 := by decide +kernel
def dflX1 : List Value := [.null, .null, .int 0]
theorem dfX1 : ∀ j, j < 3 → defaultValue (tyX1 j) = vp_V dflX1 j := by
  intro j hj
  match j, hj with
  | 0, _ => rfl
  | 1, _ => rfl
  | 2, _ => rfl
  | k + 3, hj => exact absurd hj (by omega)
theorem cdX2 : yX2_init.cls ≠ "java/lang/invoke/MethodHandle" ∧ yX2_init.cls ≠ "java/lang/invoke/VarHandle" ∧ (parseMethodDescriptor yX2_init.desc).map (fun d => d.parameters.length) = some 0 := by decide +kernel
def dflX2 : List Value := [.null, .null, .int 0]
theorem dfX2 : ∀ j, j < 3 → defaultValue (tyX2 j) = vp_V dflX2 j := by
  intro j hj
  match j, hj with
  | 0, _ => rfl
  | 1, _ => rfl
  | 2, _ => rfl
  | k + 3, hj => exact absurd hj (by omega)
theorem cdX3 : yX3_init.cls ≠ "java/lang/invoke/MethodHandle" ∧ yX3_init.cls ≠ "java/lang/invoke/VarHandle" ∧ (parseMethodDescriptor yX3_init.desc).map (fun d => d.parameters.length) = some 2 := by decide +kernel
def dflX3 : List Value := [.null, .null, .null, .null, .null, .null, .null, .null, .null, .null, .null, .null, .null, .null, .int 0, .int 0, .int 0, .int 0]
theorem dfX3 : ∀ j, j < 18 → defaultValue (tyX3 j) = vp_V dflX3 j := by
  intro j hj
  match j, hj with
  | 0, _ => rfl
  | 1, _ => rfl
  | 2, _ => rfl
  | 3, _ => rfl
  | 4, _ => rfl
  | 5, _ => rfl
  | 6, _ => rfl
  | 7, _ => rfl
  | 8, _ => rfl
  | 9, _ => rfl
  | 10, _ => rfl
  | 11, _ => rfl
  | 12, _ => rfl
  | 13, _ => rfl
  | 14, _ => rfl
  | 15, _ => rfl
  | 16, _ => rfl
  | 17, _ => rfl
  | k + 18, hj => exact absurd hj (by omega)
theorem cdX4 : yX4_init.cls ≠ "java/lang/invoke/MethodHandle" ∧ yX4_init.cls ≠ "java/lang/invoke/VarHandle" ∧ (parseMethodDescriptor yX4_init.desc).map (fun d => d.parameters.length) = some 2 := by decide +kernel
def dflX4 : List Value := [.null, .null, .null, .null, .null, .int 0]
theorem dfX4 : ∀ j, j < 6 → defaultValue (tyX4 j) = vp_V dflX4 j := by
  intro j hj
  match j, hj with
  | 0, _ => rfl
  | 1, _ => rfl
  | 2, _ => rfl
  | 3, _ => rfl
  | 4, _ => rfl
  | 5, _ => rfl
  | k + 6, hj => exact absurd hj (by omega)
theorem cdX5 : yX5_init.cls ≠ "java/lang/invoke/MethodHandle" ∧ yX5_init.cls ≠ "java/lang/invoke/VarHandle" ∧ (parseMethodDescriptor yX5_init.desc).map (fun d => d.parameters.length) = some 0 := by decide +kernel
def dflX5 : List Value := [.int 0, .int 0, .int 0, .null, .null, .null, .null, .null, .null, .null, .null, .null]
theorem dfX5 : ∀ j, j < 12 → defaultValue (tyX5 j) = vp_V dflX5 j := by
  intro j hj
  match j, hj with
  | 0, _ => rfl
  | 1, _ => rfl
  | 2, _ => rfl
  | 3, _ => rfl
  | 4, _ => rfl
  | 5, _ => rfl
  | 6, _ => rfl
  | 7, _ => rfl
  | 8, _ => rfl
  | 9, _ => rfl
  | 10, _ => rfl
  | 11, _ => rfl
  | k + 12, hj => exact absurd hj (by omega)
theorem cdX6 : yX6_init.cls ≠ "java/lang/invoke/MethodHandle" ∧ yX6_init.cls ≠ "java/lang/invoke/VarHandle" ∧ (parseMethodDescriptor yX6_init.desc).map (fun d => d.parameters.length) = some 1 := by decide +kernel
def dflX6 : List Value := [.null, .null, .int 0, .int 0, .int 0]
theorem dfX6 : ∀ j, j < 5 → defaultValue (tyX6 j) = vp_V dflX6 j := by
  intro j hj
  match j, hj with
  | 0, _ => rfl
  | 1, _ => rfl
  | 2, _ => rfl
  | 3, _ => rfl
  | 4, _ => rfl
  | k + 5, hj => exact absurd hj (by omega)
theorem cdX7 : yX7_init.cls ≠ "java/lang/invoke/MethodHandle" ∧ yX7_init.cls ≠ "java/lang/invoke/VarHandle" ∧ (parseMethodDescriptor yX7_init.desc).map (fun d => d.parameters.length) = some 1 := by decide +kernel
def dflX7 : List Value := [.null, .null, .null, .null, .null, .int 0]
theorem dfX7 : ∀ j, j < 6 → defaultValue (tyX7 j) = vp_V dflX7 j := by
  intro j hj
  match j, hj with
  | 0, _ => rfl
  | 1, _ => rfl
  | 2, _ => rfl
  | 3, _ => rfl
  | 4, _ => rfl
  | 5, _ => rfl
  | k + 6, hj => exact absurd hj (by omega)
theorem cdX8 : yX8_init.cls ≠ "java/lang/invoke/MethodHandle" ∧ yX8_init.cls ≠ "java/lang/invoke/VarHandle" ∧ (parseMethodDescriptor yX8_init.desc).map (fun d => d.parameters.length) = some 0 := by decide +kernel
def dflX8 : List Value := [.null, .null, .null]
theorem dfX8 : ∀ j, j < 3 → defaultValue (tyX8 j) = vp_V dflX8 j := by
  intro j hj
  match j, hj with
  | 0, _ => rfl
  | 1, _ => rfl
  | 2, _ => rfl
  | k + 3, hj => exact absurd hj (by omega)
theorem cdX9 : yX9_init.cls ≠ "java/lang/invoke/MethodHandle" ∧ yX9_init.cls ≠ "java/lang/invoke/VarHandle" ∧ (parseMethodDescriptor yX9_init.desc).map (fun d => d.parameters.length) = some 0 := by decide +kernel
def dflX9 : List Value := [.null, .null, .null, .null, .null, .null, .null, .null, .int 0, .int 0, .int 0, .int 0, .int 0]
theorem dfX9 : ∀ j, j < 13 → defaultValue (tyX9 j) = vp_V dflX9 j := by
  intro j hj
  match j, hj with
  | 0, _ => rfl
  | 1, _ => rfl
  | 2, _ => rfl
  | 3, _ => rfl
  | 4, _ => rfl
  | 5, _ => rfl
  | 6, _ => rfl
  | 7, _ => rfl
  | 8, _ => rfl
  | 9, _ => rfl
  | 10, _ => rfl
  | 11, _ => rfl
  | 12, _ => rfl
  | k + 13, hj => exact absurd hj (by omega)
theorem cdX10 : yX10_init.cls ≠ "java/lang/invoke/MethodHandle" ∧ yX10_init.cls ≠ "java/lang/invoke/VarHandle" ∧ (parseMethodDescriptor yX10_init.desc).map (fun d => d.parameters.length) = some 0 := by decide +kernel
def dflX10 : List Value := [.int 0, .int 0, .int 0, .null, .int 0, .int 0, .int 0, .int 0, .int 0, .int 0, .int 0, .int 0, .int 0, .long 0, .null, .null, .null, .null, .null, .null, .null, .null, .int 0, .int 0, .int 0, .int 0, .int 0, .int 0, .int 0, .int 0, .null, .null, .null, .null, .null, .int 0, .null, .null, .null, .null, .null]
theorem dfX10 : ∀ j, j < 41 → defaultValue (tyX10 j) = vp_V dflX10 j := by
  intro j hj
  match j, hj with
  | 0, _ => rfl
  | 1, _ => rfl
  | 2, _ => rfl
  | 3, _ => rfl
  | 4, _ => rfl
  | 5, _ => rfl
  | 6, _ => rfl
  | 7, _ => rfl
  | 8, _ => rfl
  | 9, _ => rfl
  | 10, _ => rfl
  | 11, _ => rfl
  | 12, _ => rfl
  | 13, _ => rfl
  | 14, _ => rfl
  | 15, _ => rfl
  | 16, _ => rfl
  | 17, _ => rfl
  | 18, _ => rfl
  | 19, _ => rfl
  | 20, _ => rfl
  | 21, _ => rfl
  | 22, _ => rfl
  | 23, _ => rfl
  | 24, _ => rfl
  | 25, _ => rfl
  | 26, _ => rfl
  | 27, _ => rfl
  | 28, _ => rfl
  | 29, _ => rfl
  | 30, _ => rfl
  | 31, _ => rfl
  | 32, _ => rfl
  | 33, _ => rfl
  | 34, _ => rfl
  | 35, _ => rfl
  | 36, _ => rfl
  | 37, _ => rfl
  | 38, _ => rfl
  | 39, _ => rfl
  | 40, _ => rfl
  | k + 41, hj => exact absurd hj (by omega)
theorem cw_103 : Cond.initialized RX5 ∈ TB := tbv (tt1 (List.mem_of_getElem? (i := 2) (by decide +kernel))) rfl
theorem cw_104 : Cond.initialized RX2 ∈ TB := tbv (tt1 (List.mem_of_getElem? (i := 3) (by decide +kernel))) rfl
theorem cw_105 : Cond.initialized RX6 ∈ TB := tbv (tt1 (List.mem_of_getElem? (i := 4) (by decide +kernel))) rfl
theorem cw_106 : Cond.initialized RX7 ∈ TB := tbv (tt1 (List.mem_of_getElem? (i := 5) (by decide +kernel))) rfl
theorem cw_107 : Cond.initialized RX3 ∈ TB := tbv (tt1 (List.mem_of_getElem? (i := 6) (by decide +kernel))) rfl
theorem cw_108 : Cond.initialized RX4 ∈ TB := tbv (tt1 (List.mem_of_getElem? (i := 7) (by decide +kernel))) rfl
theorem cw_109 : Cond.initialized RX0 ∈ TB := tbv (tt1 (List.mem_of_getElem? (i := 8) (by decide +kernel))) rfl
theorem cw_110 : Cond.initialized RX1 ∈ TB := tbv (tt1 (List.mem_of_getElem? (i := 9) (by decide +kernel))) rfl
theorem cw_129 : Cond.methodLink RX9 1 Lib.objectInit ∈ TB := tbv (tt1 (List.mem_of_getElem? (i := 28) (by decide +kernel))) rfl
theorem cw_130 : Cond.instanceMethod Lib.objectInit ∈ TB := tbv (tt1 (List.mem_of_getElem? (i := 29) (by decide +kernel))) rfl
theorem cw_131 : Cond.code Lib.objectInit ⟨#[0xb1]⟩ 1 none ∈ TB := tbv (tt1 (List.mem_of_getElem? (i := 30) (by decide +kernel))) rfl
theorem cw_132 : Cond.classLink RX9 13 RX5 ∈ TB := tbv (tt1 (List.mem_of_getElem? (i := 31) (by decide +kernel))) rfl
theorem cw_133 : Cond.instantiable RX5 12 ∈ TB := tbv (tt1 (List.mem_of_getElem? (i := 32) (by decide +kernel))) rfl
theorem cw_134 : Cond.methodLink RX9 15 yX5_init ∈ TB := tbv (tt1 (List.mem_of_getElem? (i := 33) (by decide +kernel))) rfl
theorem cw_135 : Cond.instanceMethod yX5_init ∈ TB := tbv (tt1 (List.mem_of_getElem? (i := 34) (by decide +kernel))) rfl
theorem cw_136 : Cond.code yX5_init cX5_init 1 none ∈ TB := tbv (tt1 (List.mem_of_getElem? (i := 35) (by decide +kernel))) rfl
theorem cw_137 : Cond.methodLink RX5 3 Lib.objectInit ∈ TB := tbv (tt1 (List.mem_of_getElem? (i := 36) (by decide +kernel))) rfl
theorem cw_138 : Cond.classLink RX5 36 RX2 ∈ TB := tbv (tt1 (List.mem_of_getElem? (i := 37) (by decide +kernel))) rfl
theorem cw_139 : Cond.instantiable RX2 3 ∈ TB := tbv (tt1 (List.mem_of_getElem? (i := 38) (by decide +kernel))) rfl
theorem cw_140 : Cond.methodLink RX5 38 yX2_init ∈ TB := tbv (tt1 (List.mem_of_getElem? (i := 39) (by decide +kernel))) rfl
theorem cw_141 : Cond.instanceMethod yX2_init ∈ TB := tbv (tt1 (List.mem_of_getElem? (i := 40) (by decide +kernel))) rfl
theorem cw_142 : Cond.code yX2_init cX2_init 1 none ∈ TB := tbv (tt1 (List.mem_of_getElem? (i := 41) (by decide +kernel))) rfl
theorem cw_143 : Cond.methodLink RX2 3 Lib.objectInit ∈ TB := tbv (tt1 (List.mem_of_getElem? (i := 42) (by decide +kernel))) rfl
theorem cw_144 : Cond.fieldLink RX2 9 "PullCards$Levers" "cards" "[I" ∈ TB := tbv (tt1 (List.mem_of_getElem? (i := 43) (by decide +kernel))) rfl
theorem cw_149 : Cond.fieldLink RX2 15 "PullCards$Levers" "times" "[I" ∈ TB := tbv (tt1 (List.mem_of_getElem? (i := 48) (by decide +kernel))) rfl
theorem cw_165 : Cond.arrayClass .byte ∈ TB := tbv (tt1 (List.mem_of_getElem? (i := 64) (by decide +kernel))) rfl
theorem cw_166 : Cond.arrayClass .int ∈ TB := tbv (tt1 (List.mem_of_getElem? (i := 65) (by decide +kernel))) rfl
theorem cw_181 : Cond.fieldLink RX5 9 "PullCards$Plan" "setup" "[I" ∈ TB := tbv (tt1 (List.mem_of_getElem? (i := 80) (by decide +kernel))) rfl
theorem cw_185 : Cond.fieldLink RX5 15 "PullCards$Plan" "rest" "[I" ∈ TB := tbv (tt1 (List.mem_of_getElem? (i := 84) (by decide +kernel))) rfl
theorem cw_189 : Cond.fieldLink RX5 18 "PullCards$Plan" "every" "[I" ∈ TB := tbv (tt1 (List.mem_of_getElem? (i := 88) (by decide +kernel))) rfl
theorem cw_193 : Cond.fieldLink RX5 21 "PullCards$Plan" "streamKind" "[I" ∈ TB := tbv (tt1 (List.mem_of_getElem? (i := 92) (by decide +kernel))) rfl
theorem cw_197 : Cond.fieldLink RX5 24 "PullCards$Plan" "streamEvery" "[I" ∈ TB := tbv (tt1 (List.mem_of_getElem? (i := 96) (by decide +kernel))) rfl
theorem cw_201 : Cond.fieldLink RX5 27 "PullCards$Plan" "streamFrom" "[I" ∈ TB := tbv (tt1 (List.mem_of_getElem? (i := 100) (by decide +kernel))) rfl
theorem cw_205 : Cond.fieldLink RX5 30 "PullCards$Plan" "nameLetters" "[I" ∈ TB := tbv (tt1 (List.mem_of_getElem? (i := 104) (by decide +kernel))) rfl
theorem cw_208 : Cond.fieldLink RX5 33 "PullCards$Plan" "nameSizes" "[I" ∈ TB := tbv (tt1 (List.mem_of_getElem? (i := 107) (by decide +kernel))) rfl
theorem cw_211 : Cond.fieldLink RX5 39 "PullCards$Plan" "told" "LPullCards$Levers;" ∈ TB := tbv (tt1 (List.mem_of_getElem? (i := 110) (by decide +kernel))) rfl
theorem cw_239 : Cond.classLink RX9 20 RX6 ∈ TB := tbv (tt1 (List.mem_of_getElem? (i := 138) (by decide +kernel))) rfl
theorem cw_240 : Cond.instantiable RX6 5 ∈ TB := tbv (tt1 (List.mem_of_getElem? (i := 139) (by decide +kernel))) rfl
theorem cw_241 : Cond.methodLink RX9 22 yX6_init ∈ TB := tbv (tt1 (List.mem_of_getElem? (i := 140) (by decide +kernel))) rfl
theorem cw_242 : Cond.instanceMethod yX6_init ∈ TB := tbv (tt1 (List.mem_of_getElem? (i := 141) (by decide +kernel))) rfl
theorem cw_243 : Cond.code yX6_init cX6_init 2 none ∈ TB := tbv (tt1 (List.mem_of_getElem? (i := 142) (by decide +kernel))) rfl
theorem cw_244 : Cond.methodLink RX6 3 Lib.objectInit ∈ TB := tbv (tt1 (List.mem_of_getElem? (i := 143) (by decide +kernel))) rfl
theorem cw_245 : Cond.classLink RX6 9 RX5 ∈ TB := tbv (tt1 (List.mem_of_getElem? (i := 144) (by decide +kernel))) rfl
theorem cw_246 : Cond.methodLink RX6 11 yX5_init ∈ TB := tbv (tt1 (List.mem_of_getElem? (i := 145) (by decide +kernel))) rfl
theorem cw_247 : Cond.classLink RX6 18 RX7 ∈ TB := tbv (tt1 (List.mem_of_getElem? (i := 146) (by decide +kernel))) rfl
theorem cw_248 : Cond.instantiable RX7 6 ∈ TB := tbv (tt1 (List.mem_of_getElem? (i := 147) (by decide +kernel))) rfl
theorem cw_249 : Cond.methodLink RX6 20 yX7_init ∈ TB := tbv (tt1 (List.mem_of_getElem? (i := 148) (by decide +kernel))) rfl
theorem cw_250 : Cond.instanceMethod yX7_init ∈ TB := tbv (tt1 (List.mem_of_getElem? (i := 149) (by decide +kernel))) rfl
theorem cw_251 : Cond.code yX7_init cX7_init 2 none ∈ TB := tbv (tt1 (List.mem_of_getElem? (i := 150) (by decide +kernel))) rfl
theorem cw_252 : Cond.methodLink RX7 3 Lib.objectInit ∈ TB := tbv (tt1 (List.mem_of_getElem? (i := 151) (by decide +kernel))) rfl
theorem cw_253 : Cond.fieldLink RX7 24 "PullCards$Tokens" "tape" "[B" ∈ TB := tbv (tt1 (List.mem_of_getElem? (i := 152) (by decide +kernel))) rfl
theorem cw_254 : Cond.fieldLink RX7 9 "PullCards$Tokens" "sorts" "[I" ∈ TB := tbv (tt1 (List.mem_of_getElem? (i := 153) (by decide +kernel))) rfl
theorem cw_256 : Cond.fieldLink RX7 15 "PullCards$Tokens" "places" "[I" ∈ TB := tbv (tt1 (List.mem_of_getElem? (i := 155) (by decide +kernel))) rfl
theorem cw_258 : Cond.fieldLink RX7 18 "PullCards$Tokens" "sizes" "[I" ∈ TB := tbv (tt1 (List.mem_of_getElem? (i := 157) (by decide +kernel))) rfl
theorem cw_260 : Cond.fieldLink RX7 21 "PullCards$Tokens" "values" "[I" ∈ TB := tbv (tt1 (List.mem_of_getElem? (i := 159) (by decide +kernel))) rfl
theorem cw_276 : Cond.fieldLink RX6 12 "PullCards$Reader" "plan" "LPullCards$Plan;" ∈ TB := tbv (tt1 (List.mem_of_getElem? (i := 175) (by decide +kernel))) rfl
theorem cw_278 : Cond.fieldLink RX6 23 "PullCards$Reader" "tokens" "LPullCards$Tokens;" ∈ TB := tbv (tt1 (List.mem_of_getElem? (i := 177) (by decide +kernel))) rfl
theorem cw_293 : Cond.classLink RX9 29 RX2 ∈ TB := tbv (tt1 (List.mem_of_getElem? (i := 192) (by decide +kernel))) rfl
theorem cw_294 : Cond.methodLink RX9 31 yX2_init ∈ TB := tbv (tt1 (List.mem_of_getElem? (i := 193) (by decide +kernel))) rfl
theorem cw_295 : Cond.classLink RX9 36 RX3 ∈ TB := tbv (tt1 (List.mem_of_getElem? (i := 194) (by decide +kernel))) rfl
theorem cw_296 : Cond.instantiable RX3 18 ∈ TB := tbv (tt1 (List.mem_of_getElem? (i := 195) (by decide +kernel))) rfl
theorem cw_297 : Cond.methodLink RX9 38 yX3_init ∈ TB := tbv (tt1 (List.mem_of_getElem? (i := 196) (by decide +kernel))) rfl
theorem cw_298 : Cond.instanceMethod yX3_init ∈ TB := tbv (tt1 (List.mem_of_getElem? (i := 197) (by decide +kernel))) rfl
theorem cw_299 : Cond.code yX3_init cX3_init 3 none ∈ TB := tbv (tt1 (List.mem_of_getElem? (i := 198) (by decide +kernel))) rfl
theorem cw_300 : Cond.methodLink RX3 3 Lib.objectInit ∈ TB := tbv (tt1 (List.mem_of_getElem? (i := 199) (by decide +kernel))) rfl
theorem cw_301 : Cond.fieldLink RX3 48 "PullCards$Line" "plan" "LPullCards$Plan;" ∈ TB := tbv (tt1 (List.mem_of_getElem? (i := 200) (by decide +kernel))) rfl
theorem cw_302 : Cond.fieldLink RX3 52 "PullCards$Line" "levers" "LPullCards$Levers;" ∈ TB := tbv (tt1 (List.mem_of_getElem? (i := 201) (by decide +kernel))) rfl
theorem cw_303 : Cond.fieldLink RX3 9 "PullCards$Line" "store" "[I" ∈ TB := tbv (tt1 (List.mem_of_getElem? (i := 202) (by decide +kernel))) rfl
theorem cw_305 : Cond.fieldLink RX3 15 "PullCards$Line" "held" "[I" ∈ TB := tbv (tt1 (List.mem_of_getElem? (i := 204) (by decide +kernel))) rfl
theorem cw_307 : Cond.fieldLink RX3 18 "PullCards$Line" "doing" "[I" ∈ TB := tbv (tt1 (List.mem_of_getElem? (i := 206) (by decide +kernel))) rfl
theorem cw_309 : Cond.fieldLink RX3 21 "PullCards$Line" "last" "[I" ∈ TB := tbv (tt1 (List.mem_of_getElem? (i := 208) (by decide +kernel))) rfl
theorem cw_311 : Cond.fieldLink RX3 24 "PullCards$Line" "until" "[I" ∈ TB := tbv (tt1 (List.mem_of_getElem? (i := 210) (by decide +kernel))) rfl
theorem cw_312 : Cond.fieldLink RX3 27 "PullCards$Line" "finished" "[I" ∈ TB := tbv (tt1 (List.mem_of_getElem? (i := 211) (by decide +kernel))) rfl
theorem cw_314 : Cond.fieldLink RX3 30 "PullCards$Line" "tally" "[I" ∈ TB := tbv (tt1 (List.mem_of_getElem? (i := 213) (by decide +kernel))) rfl
theorem cw_315 : Cond.fieldLink RX3 33 "PullCards$Line" "peaks" "[I" ∈ TB := tbv (tt1 (List.mem_of_getElem? (i := 214) (by decide +kernel))) rfl
theorem cw_317 : Cond.fieldLink RX3 36 "PullCards$Line" "came" "[I" ∈ TB := tbv (tt1 (List.mem_of_getElem? (i := 216) (by decide +kernel))) rfl
theorem cw_319 : Cond.fieldLink RX3 39 "PullCards$Line" "waiting" "[I" ∈ TB := tbv (tt1 (List.mem_of_getElem? (i := 218) (by decide +kernel))) rfl
theorem cw_321 : Cond.fieldLink RX3 42 "PullCards$Line" "waited" "[I" ∈ TB := tbv (tt1 (List.mem_of_getElem? (i := 220) (by decide +kernel))) rfl
theorem cw_323 : Cond.fieldLink RX3 45 "PullCards$Line" "firstDelivered" "[I" ∈ TB := tbv (tt1 (List.mem_of_getElem? (i := 222) (by decide +kernel))) rfl
theorem cw_372 : Cond.classLink RX9 45 RX4 ∈ TB := tbv (tt2 (List.mem_of_getElem? (i := 31) (by decide +kernel))) rfl
theorem cw_373 : Cond.instantiable RX4 6 ∈ TB := tbv (tt2 (List.mem_of_getElem? (i := 32) (by decide +kernel))) rfl
theorem cw_374 : Cond.methodLink RX9 47 yX4_init ∈ TB := tbv (tt2 (List.mem_of_getElem? (i := 33) (by decide +kernel))) rfl
theorem cw_375 : Cond.instanceMethod yX4_init ∈ TB := tbv (tt2 (List.mem_of_getElem? (i := 34) (by decide +kernel))) rfl
theorem cw_376 : Cond.code yX4_init cX4_init 3 none ∈ TB := tbv (tt2 (List.mem_of_getElem? (i := 35) (by decide +kernel))) rfl
theorem cw_377 : Cond.methodLink RX4 3 Lib.objectInit ∈ TB := tbv (tt2 (List.mem_of_getElem? (i := 36) (by decide +kernel))) rfl
theorem cw_378 : Cond.classLink RX4 9 RX2 ∈ TB := tbv (tt2 (List.mem_of_getElem? (i := 37) (by decide +kernel))) rfl
theorem cw_379 : Cond.methodLink RX4 11 yX2_init ∈ TB := tbv (tt2 (List.mem_of_getElem? (i := 38) (by decide +kernel))) rfl
theorem cw_380 : Cond.classLink RX4 25 RX3 ∈ TB := tbv (tt2 (List.mem_of_getElem? (i := 39) (by decide +kernel))) rfl
theorem cw_381 : Cond.methodLink RX4 27 yX3_init ∈ TB := tbv (tt2 (List.mem_of_getElem? (i := 40) (by decide +kernel))) rfl
theorem cw_382 : Cond.fieldLink RX4 18 "PullCards$Paper" "plan" "LPullCards$Plan;" ∈ TB := tbv (tt2 (List.mem_of_getElem? (i := 41) (by decide +kernel))) rfl
theorem cw_383 : Cond.fieldLink RX4 22 "PullCards$Paper" "now" "LPullCards$Levers;" ∈ TB := tbv (tt2 (List.mem_of_getElem? (i := 42) (by decide +kernel))) rfl
theorem cw_384 : Cond.fieldLink RX4 12 "PullCards$Paper" "trial" "LPullCards$Levers;" ∈ TB := tbv (tt2 (List.mem_of_getElem? (i := 43) (by decide +kernel))) rfl
theorem cw_386 : Cond.fieldLink RX4 30 "PullCards$Paper" "line" "LPullCards$Line;" ∈ TB := tbv (tt2 (List.mem_of_getElem? (i := 45) (by decide +kernel))) rfl
theorem cw_403 : Cond.classLink RX9 52 RX0 ∈ TB := tbv (tt2 (List.mem_of_getElem? (i := 62) (by decide +kernel))) rfl
theorem cw_404 : Cond.instantiable RX0 3 ∈ TB := tbv (tt2 (List.mem_of_getElem? (i := 63) (by decide +kernel))) rfl
theorem cw_405 : Cond.methodLink RX9 54 yX0_init ∈ TB := tbv (tt2 (List.mem_of_getElem? (i := 64) (by decide +kernel))) rfl
theorem cw_406 : Cond.instanceMethod yX0_init ∈ TB := tbv (tt2 (List.mem_of_getElem? (i := 65) (by decide +kernel))) rfl
theorem cw_407 : Cond.code yX0_init cX0_init 1 none ∈ TB := tbv (tt2 (List.mem_of_getElem? (i := 66) (by decide +kernel))) rfl
theorem cw_408 : Cond.methodLink RX0 1 Lib.objectInit ∈ TB := tbv (tt2 (List.mem_of_getElem? (i := 67) (by decide +kernel))) rfl
theorem cw_409 : Cond.fieldLink RX0 9 "PullCards$Acts" "lever" "[I" ∈ TB := tbv (tt2 (List.mem_of_getElem? (i := 68) (by decide +kernel))) rfl
theorem cw_410 : Cond.fieldLink RX0 13 "PullCards$Acts" "value" "[I" ∈ TB := tbv (tt2 (List.mem_of_getElem? (i := 69) (by decide +kernel))) rfl
theorem cw_420 : Cond.classLink RX9 59 RX1 ∈ TB := tbv (tt2 (List.mem_of_getElem? (i := 79) (by decide +kernel))) rfl
theorem cw_422 : Cond.instantiable RX1 3 ∈ TB := tbv (tt2 (List.mem_of_getElem? (i := 81) (by decide +kernel))) rfl
theorem cw_423 : Cond.methodLink RX9 65 yX1_init ∈ TB := tbv (tt2 (List.mem_of_getElem? (i := 82) (by decide +kernel))) rfl
theorem cw_424 : Cond.instanceMethod yX1_init ∈ TB := tbv (tt2 (List.mem_of_getElem? (i := 83) (by decide +kernel))) rfl
theorem cw_425 : Cond.code yX1_init cX1_init 2 none ∈ TB := tbv (tt2 (List.mem_of_getElem? (i := 84) (by decide +kernel))) rfl
theorem cw_426 : Cond.methodLink RX1 1 Lib.objectInit ∈ TB := tbv (tt2 (List.mem_of_getElem? (i := 85) (by decide +kernel))) rfl
theorem cw_427 : Cond.classLink RX1 7 RX2 ∈ TB := tbv (tt2 (List.mem_of_getElem? (i := 86) (by decide +kernel))) rfl
theorem cw_428 : Cond.methodLink RX1 9 yX2_init ∈ TB := tbv (tt2 (List.mem_of_getElem? (i := 87) (by decide +kernel))) rfl
theorem cw_429 : Cond.classLink RX1 16 RX3 ∈ TB := tbv (tt2 (List.mem_of_getElem? (i := 88) (by decide +kernel))) rfl
theorem cw_430 : Cond.methodLink RX1 18 yX3_init ∈ TB := tbv (tt2 (List.mem_of_getElem? (i := 89) (by decide +kernel))) rfl
theorem cw_431 : Cond.fieldLink RX1 10 "PullCards$Image" "levers" "LPullCards$Levers;" ∈ TB := tbv (tt2 (List.mem_of_getElem? (i := 90) (by decide +kernel))) rfl
theorem cw_433 : Cond.fieldLink RX1 21 "PullCards$Image" "line" "LPullCards$Line;" ∈ TB := tbv (tt2 (List.mem_of_getElem? (i := 92) (by decide +kernel))) rfl
theorem cw_443 : Cond.fieldLink RX9 9 "PullCards" "tape" "[B" ∈ TB := tbv (tt2 (List.mem_of_getElem? (i := 102) (by decide +kernel))) rfl
theorem cw_444 : Cond.fieldLink RX9 16 "PullCards" "plan" "LPullCards$Plan;" ∈ TB := tbv (tt2 (List.mem_of_getElem? (i := 103) (by decide +kernel))) rfl
theorem cw_445 : Cond.fieldLink RX9 25 "PullCards" "reader" "LPullCards$Reader;" ∈ TB := tbv (tt2 (List.mem_of_getElem? (i := 104) (by decide +kernel))) rfl
theorem cw_446 : Cond.fieldLink RX9 32 "PullCards" "levers" "LPullCards$Levers;" ∈ TB := tbv (tt2 (List.mem_of_getElem? (i := 105) (by decide +kernel))) rfl
theorem cw_447 : Cond.fieldLink RX9 41 "PullCards" "line" "LPullCards$Line;" ∈ TB := tbv (tt2 (List.mem_of_getElem? (i := 106) (by decide +kernel))) rfl
theorem cw_448 : Cond.fieldLink RX9 48 "PullCards" "paper" "LPullCards$Paper;" ∈ TB := tbv (tt2 (List.mem_of_getElem? (i := 107) (by decide +kernel))) rfl
theorem cw_449 : Cond.fieldLink RX9 55 "PullCards" "acts" "LPullCards$Acts;" ∈ TB := tbv (tt2 (List.mem_of_getElem? (i := 108) (by decide +kernel))) rfl
theorem cw_450 : Cond.fieldLink RX9 61 "PullCards" "images" "[LPullCards$Image;" ∈ TB := tbv (tt2 (List.mem_of_getElem? (i := 109) (by decide +kernel))) rfl
theorem cw_455 : Cond.fieldLink RX9 68 "PullCards" "place" "I" ∈ TB := tbv (tt2 (List.mem_of_getElem? (i := 114) (by decide +kernel))) rfl
theorem cw_968 : Cond.methodLink RX8 5 Lib.objectInit ∈ TB := tbv (tt4 (List.mem_of_getElem? (i := 147) (by decide +kernel))) rfl
theorem cw_969 : Cond.fieldLink RX8 13 "PullCards$Trace" "rows" "[J" ∈ TB := tbv (tt4 (List.mem_of_getElem? (i := 148) (by decide +kernel))) rfl
theorem cw_970 : Cond.fieldLink RX8 17 "PullCards$Trace" "heads" "[I" ∈ TB := tbv (tt4 (List.mem_of_getElem? (i := 149) (by decide +kernel))) rfl
theorem cw_971 : Cond.fieldLink RX8 21 "PullCards$Trace" "chain" "[I" ∈ TB := tbv (tt4 (List.mem_of_getElem? (i := 150) (by decide +kernel))) rfl
theorem cw_979 : Cond.arrayClass .long ∈ TB := tbv (tt4 (List.mem_of_getElem? (i := 158) (by decide +kernel))) rfl
theorem cw_1135 : Cond.methodLink RX10 1 Lib.objectInit ∈ TB := tbv (tt5 (List.mem_of_getElem? (i := 74) (by decide +kernel))) rfl
theorem cw_1136 : Cond.constant RX10 70 98000 ∈ TB := tbv (tt5 (List.mem_of_getElem? (i := 75) (by decide +kernel))) rfl
theorem cw_1139 : Cond.fieldLink RX10 9 "PullCardsModel" "wrongAt" "I" ∈ TB := tbv (tt5 (List.mem_of_getElem? (i := 78) (by decide +kernel))) rfl
theorem cw_1140 : Cond.fieldLink RX10 13 "PullCardsModel" "tape" "[I" ∈ TB := tbv (tt5 (List.mem_of_getElem? (i := 79) (by decide +kernel))) rfl
theorem cw_1151 : Cond.fieldLink RX10 17 "PullCardsModel" "kindName" "[J" ∈ TB := tbv (tt5 (List.mem_of_getElem? (i := 90) (by decide +kernel))) rfl
theorem cw_1152 : Cond.fieldLink RX10 21 "PullCardsModel" "benchName" "[J" ∈ TB := tbv (tt5 (List.mem_of_getElem? (i := 91) (by decide +kernel))) rfl
theorem cw_1153 : Cond.fieldLink RX10 24 "PullCardsModel" "setup" "[I" ∈ TB := tbv (tt5 (List.mem_of_getElem? (i := 92) (by decide +kernel))) rfl
theorem cw_1154 : Cond.fieldLink RX10 27 "PullCardsModel" "rest" "[I" ∈ TB := tbv (tt5 (List.mem_of_getElem? (i := 93) (by decide +kernel))) rfl
theorem cw_1155 : Cond.fieldLink RX10 30 "PullCardsModel" "every" "[I" ∈ TB := tbv (tt5 (List.mem_of_getElem? (i := 94) (by decide +kernel))) rfl
theorem cw_1156 : Cond.fieldLink RX10 33 "PullCardsModel" "streamKind" "[I" ∈ TB := tbv (tt5 (List.mem_of_getElem? (i := 95) (by decide +kernel))) rfl
theorem cw_1157 : Cond.fieldLink RX10 36 "PullCardsModel" "streamEvery" "[I" ∈ TB := tbv (tt5 (List.mem_of_getElem? (i := 96) (by decide +kernel))) rfl
theorem cw_1158 : Cond.fieldLink RX10 39 "PullCardsModel" "streamFrom" "[I" ∈ TB := tbv (tt5 (List.mem_of_getElem? (i := 97) (by decide +kernel))) rfl
theorem cw_1167 : Cond.fieldLink RX10 42 "PullCardsModel" "ways" "[I" ∈ TB := tbv (tt5 (List.mem_of_getElem? (i := 106) (by decide +kernel))) rfl
theorem cw_1168 : Cond.fieldLink RX10 45 "PullCardsModel" "readWays" "[I" ∈ TB := tbv (tt5 (List.mem_of_getElem? (i := 107) (by decide +kernel))) rfl
theorem cw_1169 : Cond.fieldLink RX10 48 "PullCardsModel" "paperWays" "[I" ∈ TB := tbv (tt5 (List.mem_of_getElem? (i := 108) (by decide +kernel))) rfl
theorem cw_1170 : Cond.fieldLink RX10 51 "PullCardsModel" "past" "[I" ∈ TB := tbv (tt5 (List.mem_of_getElem? (i := 109) (by decide +kernel))) rfl
theorem cw_1171 : Cond.fieldLink RX10 54 "PullCardsModel" "imageWays" "[I" ∈ TB := tbv (tt5 (List.mem_of_getElem? (i := 110) (by decide +kernel))) rfl
theorem cw_1173 : Cond.fieldLink RX10 57 "PullCardsModel" "run" "[I" ∈ TB := tbv (tt5 (List.mem_of_getElem? (i := 112) (by decide +kernel))) rfl
theorem cw_1174 : Cond.fieldLink RX10 60 "PullCardsModel" "paper" "[I" ∈ TB := tbv (tt5 (List.mem_of_getElem? (i := 113) (by decide +kernel))) rfl
theorem cw_1175 : Cond.fieldLink RX10 63 "PullCardsModel" "imageRun" "[I" ∈ TB := tbv (tt5 (List.mem_of_getElem? (i := 114) (by decide +kernel))) rfl
theorem cw_1176 : Cond.fieldLink RX10 66 "PullCardsModel" "kept" "[Z" ∈ TB := tbv (tt5 (List.mem_of_getElem? (i := 115) (by decide +kernel))) rfl
theorem cw_1177 : Cond.fieldLink RX10 71 "PullCardsModel" "stands" "[I" ∈ TB := tbv (tt5 (List.mem_of_getElem? (i := 116) (by decide +kernel))) rfl
theorem cw_1261 : Cond.arrayClass .boolean ∈ TB := tbv (tt5 (List.mem_of_getElem? (i := 200) (by decide +kernel))) rfl
