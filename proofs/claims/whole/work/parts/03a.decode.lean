theorem dX0_perform_0 : decode cX0_perform 0 = .ok (.aload_n 0, 1) := by decide +kernel
theorem dX0_perform_1 : decode cX0_perform 1 = .ok (.getfield 16, 3) := by decide +kernel
theorem dX0_perform_4 : decode cX0_perform 4 = .ok (.bipush 10, 2) := by decide +kernel
theorem dX0_perform_6 : decode cX0_perform 6 = .ok (.if_icmp .lt 39, 3) := by decide +kernel
theorem dX0_perform_9 : decode cX0_perform 9 = .ok (.aload_n 0, 1) := by decide +kernel
theorem dX0_perform_10 : decode cX0_perform 10 = .ok (.getfield 9, 3) := by decide +kernel
theorem dX0_perform_13 : decode cX0_perform 13 = .ok (.iconst 1, 1) := by decide +kernel
theorem dX0_perform_14 : decode cX0_perform 14 = .ok (.aload_n 0, 1) := by decide +kernel
theorem dX0_perform_15 : decode cX0_perform 15 = .ok (.getfield 9, 3) := by decide +kernel
theorem dX0_perform_18 : decode cX0_perform 18 = .ok (.iconst 0, 1) := by decide +kernel
theorem dX0_perform_19 : decode cX0_perform 19 = .ok (.bipush 9, 2) := by decide +kernel
theorem dX0_perform_21 : decode cX0_perform 21 = .ok (.invokestatic 20, 3) := by decide +kernel
theorem dX0_perform_24 : decode cX0_perform 24 = .ok (.aload_n 0, 1) := by decide +kernel
theorem dX0_perform_25 : decode cX0_perform 25 = .ok (.getfield 13, 3) := by decide +kernel
theorem dX0_perform_28 : decode cX0_perform 28 = .ok (.iconst 1, 1) := by decide +kernel
theorem dX0_perform_29 : decode cX0_perform 29 = .ok (.aload_n 0, 1) := by decide +kernel
theorem dX0_perform_30 : decode cX0_perform 30 = .ok (.getfield 13, 3) := by decide +kernel
theorem dX0_perform_33 : decode cX0_perform 33 = .ok (.iconst 0, 1) := by decide +kernel
theorem dX0_perform_34 : decode cX0_perform 34 = .ok (.bipush 9, 2) := by decide +kernel
theorem dX0_perform_36 : decode cX0_perform 36 = .ok (.invokestatic 20, 3) := by decide +kernel
theorem dX0_perform_39 : decode cX0_perform 39 = .ok (.aload_n 0, 1) := by decide +kernel
theorem dX0_perform_40 : decode cX0_perform 40 = .ok (.bipush 9, 2) := by decide +kernel
theorem dX0_perform_42 : decode cX0_perform 42 = .ok (.putfield 16, 3) := by decide +kernel
theorem dX0_perform_45 : decode cX0_perform 45 = .ok (.aload_n 1, 1) := by decide +kernel
theorem dX0_perform_46 : decode cX0_perform 46 = .ok (.iload_n 2, 1) := by decide +kernel
theorem dX0_perform_47 : decode cX0_perform 47 = .ok (.iload_n 3, 1) := by decide +kernel
theorem dX0_perform_48 : decode cX0_perform 48 = .ok (.invokevirtual 26, 3) := by decide +kernel
theorem dX0_perform_51 : decode cX0_perform 51 = .ok (.istore 4, 2) := by decide +kernel
theorem dX0_perform_53 : decode cX0_perform 53 = .ok (.aload_n 0, 1) := by decide +kernel
theorem dX0_perform_54 : decode cX0_perform 54 = .ok (.getfield 9, 3) := by decide +kernel
theorem dX0_perform_57 : decode cX0_perform 57 = .ok (.aload_n 0, 1) := by decide +kernel
theorem dX0_perform_58 : decode cX0_perform 58 = .ok (.getfield 16, 3) := by decide +kernel
theorem dX0_perform_61 : decode cX0_perform 61 = .ok (.iload_n 2, 1) := by decide +kernel
theorem dX0_perform_62 : decode cX0_perform 62 = .ok (.iastore, 1) := by decide +kernel
theorem dX0_perform_63 : decode cX0_perform 63 = .ok (.aload_n 0, 1) := by decide +kernel
theorem dX0_perform_64 : decode cX0_perform 64 = .ok (.getfield 13, 3) := by decide +kernel
theorem dX0_perform_67 : decode cX0_perform 67 = .ok (.aload_n 0, 1) := by decide +kernel
theorem dX0_perform_68 : decode cX0_perform 68 = .ok (.getfield 16, 3) := by decide +kernel
theorem dX0_perform_71 : decode cX0_perform 71 = .ok (.iload 4, 2) := by decide +kernel
theorem dX0_perform_73 : decode cX0_perform 73 = .ok (.iastore, 1) := by decide +kernel
theorem dX0_perform_74 : decode cX0_perform 74 = .ok (.aload_n 0, 1) := by decide +kernel
theorem dX0_perform_75 : decode cX0_perform 75 = .ok (.dup, 1) := by decide +kernel
theorem dX0_perform_76 : decode cX0_perform 76 = .ok (.getfield 16, 3) := by decide +kernel
theorem dX0_perform_79 : decode cX0_perform 79 = .ok (.iconst 1, 1) := by decide +kernel
theorem dX0_perform_80 : decode cX0_perform 80 = .ok (.iadd, 1) := by decide +kernel
theorem dX0_perform_81 : decode cX0_perform 81 = .ok (.putfield 16, 3) := by decide +kernel
theorem dX0_perform_84 : decode cX0_perform 84 = .ok (.iload 4, 2) := by decide +kernel
theorem dX0_perform_86 : decode cX0_perform 86 = .ok (.ireturn, 1) := by decide +kernel
theorem dX0_takeBack_0 : decode cX0_takeBack 0 = .ok (.aload_n 0, 1) := by decide +kernel
theorem dX0_takeBack_1 : decode cX0_takeBack 1 = .ok (.getfield 16, 3) := by decide +kernel
theorem dX0_takeBack_4 : decode cX0_takeBack 4 = .ok (.ifCond .le 36, 3) := by decide +kernel
theorem dX0_takeBack_7 : decode cX0_takeBack 7 = .ok (.aload_n 0, 1) := by decide +kernel
theorem dX0_takeBack_8 : decode cX0_takeBack 8 = .ok (.dup, 1) := by decide +kernel
theorem dX0_takeBack_9 : decode cX0_takeBack 9 = .ok (.getfield 16, 3) := by decide +kernel
theorem dX0_takeBack_12 : decode cX0_takeBack 12 = .ok (.iconst 1, 1) := by decide +kernel
theorem dX0_takeBack_13 : decode cX0_takeBack 13 = .ok (.isub, 1) := by decide +kernel
theorem dX0_takeBack_14 : decode cX0_takeBack 14 = .ok (.putfield 16, 3) := by decide +kernel
theorem dX0_takeBack_17 : decode cX0_takeBack 17 = .ok (.aload_n 1, 1) := by decide +kernel
theorem dX0_takeBack_18 : decode cX0_takeBack 18 = .ok (.aload_n 0, 1) := by decide +kernel
theorem dX0_takeBack_19 : decode cX0_takeBack 19 = .ok (.getfield 9, 3) := by decide +kernel
theorem dX0_takeBack_22 : decode cX0_takeBack 22 = .ok (.aload_n 0, 1) := by decide +kernel
theorem dX0_takeBack_23 : decode cX0_takeBack 23 = .ok (.getfield 16, 3) := by decide +kernel
theorem dX0_takeBack_26 : decode cX0_takeBack 26 = .ok (.iaload, 1) := by decide +kernel
theorem dX0_takeBack_27 : decode cX0_takeBack 27 = .ok (.aload_n 0, 1) := by decide +kernel
theorem dX0_takeBack_28 : decode cX0_takeBack 28 = .ok (.getfield 13, 3) := by decide +kernel
theorem dX0_takeBack_31 : decode cX0_takeBack 31 = .ok (.aload_n 0, 1) := by decide +kernel
theorem dX0_takeBack_32 : decode cX0_takeBack 32 = .ok (.getfield 16, 3) := by decide +kernel
theorem dX0_takeBack_35 : decode cX0_takeBack 35 = .ok (.iaload, 1) := by decide +kernel
theorem dX0_takeBack_36 : decode cX0_takeBack 36 = .ok (.invokevirtual 26, 3) := by decide +kernel
theorem dX0_takeBack_39 : decode cX0_takeBack 39 = .ok (.pop, 1) := by decide +kernel
theorem dX0_takeBack_40 : decode cX0_takeBack 40 = .ok (.return_, 1) := by decide +kernel
theorem dX2_clear_0 : decode cX2_clear 0 = .ok (.aload_n 0, 1) := by decide +kernel
theorem dX2_clear_1 : decode cX2_clear 1 = .ok (.getfield 9, 3) := by decide +kernel
theorem dX2_clear_4 : decode cX2_clear 4 = .ok (.iconst 0, 1) := by decide +kernel
theorem dX2_clear_5 : decode cX2_clear 5 = .ok (.invokestatic 18, 3) := by decide +kernel
theorem dX2_clear_8 : decode cX2_clear 8 = .ok (.aload_n 0, 1) := by decide +kernel
theorem dX2_clear_9 : decode cX2_clear 9 = .ok (.getfield 15, 3) := by decide +kernel
theorem dX2_clear_12 : decode cX2_clear 12 = .ok (.iconst 0, 1) := by decide +kernel
theorem dX2_clear_13 : decode cX2_clear 13 = .ok (.invokestatic 18, 3) := by decide +kernel
theorem dX2_clear_16 : decode cX2_clear 16 = .ok (.aload_n 0, 1) := by decide +kernel
theorem dX2_clear_17 : decode cX2_clear 17 = .ok (.iconst 0, 1) := by decide +kernel
theorem dX2_clear_18 : decode cX2_clear 18 = .ok (.putfield 24, 3) := by decide +kernel
theorem dX2_clear_21 : decode cX2_clear 21 = .ok (.return_, 1) := by decide +kernel
theorem dX2_copy_0 : decode cX2_copy 0 = .ok (.aload_n 1, 1) := by decide +kernel
theorem dX2_copy_1 : decode cX2_copy 1 = .ok (.getfield 9, 3) := by decide +kernel
theorem dX2_copy_4 : decode cX2_copy 4 = .ok (.iconst 0, 1) := by decide +kernel
theorem dX2_copy_5 : decode cX2_copy 5 = .ok (.aload_n 0, 1) := by decide +kernel
theorem dX2_copy_6 : decode cX2_copy 6 = .ok (.getfield 9, 3) := by decide +kernel
theorem dX2_copy_9 : decode cX2_copy 9 = .ok (.iconst 0, 1) := by decide +kernel
theorem dX2_copy_10 : decode cX2_copy 10 = .ok (.bipush 18, 2) := by decide +kernel
theorem dX2_copy_12 : decode cX2_copy 12 = .ok (.invokestatic 28, 3) := by decide +kernel
theorem dX2_copy_15 : decode cX2_copy 15 = .ok (.aload_n 1, 1) := by decide +kernel
theorem dX2_copy_16 : decode cX2_copy 16 = .ok (.getfield 15, 3) := by decide +kernel
theorem dX2_copy_19 : decode cX2_copy 19 = .ok (.iconst 0, 1) := by decide +kernel
theorem dX2_copy_20 : decode cX2_copy 20 = .ok (.aload_n 0, 1) := by decide +kernel
theorem dX2_copy_21 : decode cX2_copy 21 = .ok (.getfield 15, 3) := by decide +kernel
theorem dX2_copy_24 : decode cX2_copy 24 = .ok (.iconst 0, 1) := by decide +kernel
theorem dX2_copy_25 : decode cX2_copy 25 = .ok (.bipush 18, 2) := by decide +kernel
theorem dX2_copy_27 : decode cX2_copy 27 = .ok (.invokestatic 28, 3) := by decide +kernel
theorem dX2_copy_30 : decode cX2_copy 30 = .ok (.aload_n 0, 1) := by decide +kernel
theorem dX2_copy_31 : decode cX2_copy 31 = .ok (.aload_n 1, 1) := by decide +kernel
theorem dX2_copy_32 : decode cX2_copy 32 = .ok (.getfield 24, 3) := by decide +kernel
theorem dX2_copy_35 : decode cX2_copy 35 = .ok (.putfield 24, 3) := by decide +kernel
theorem dX2_copy_38 : decode cX2_copy 38 = .ok (.return_, 1) := by decide +kernel
theorem dX2_allCards_0 : decode cX2_allCards 0 = .ok (.iconst 0, 1) := by decide +kernel
theorem dX2_allCards_1 : decode cX2_allCards 1 = .ok (.istore_n 1, 1) := by decide +kernel
theorem dX2_allCards_2 : decode cX2_allCards 2 = .ok (.iconst 0, 1) := by decide +kernel
theorem dX2_allCards_3 : decode cX2_allCards 3 = .ok (.istore_n 2, 1) := by decide +kernel
theorem dX2_allCards_4 : decode cX2_allCards 4 = .ok (.iload_n 2, 1) := by decide +kernel
theorem dX2_allCards_5 : decode cX2_allCards 5 = .ok (.bipush 18, 2) := by decide +kernel
theorem dX2_allCards_7 : decode cX2_allCards 7 = .ok (.if_icmp .ge 18, 3) := by decide +kernel
theorem dX2_allCards_10 : decode cX2_allCards 10 = .ok (.iload_n 1, 1) := by decide +kernel
theorem dX2_allCards_11 : decode cX2_allCards 11 = .ok (.aload_n 0, 1) := by decide +kernel
theorem dX2_allCards_12 : decode cX2_allCards 12 = .ok (.getfield 9, 3) := by decide +kernel
theorem dX2_allCards_15 : decode cX2_allCards 15 = .ok (.iload_n 2, 1) := by decide +kernel
theorem dX2_allCards_16 : decode cX2_allCards 16 = .ok (.iaload, 1) := by decide +kernel
theorem dX2_allCards_17 : decode cX2_allCards 17 = .ok (.iadd, 1) := by decide +kernel
theorem dX2_allCards_18 : decode cX2_allCards 18 = .ok (.istore_n 1, 1) := by decide +kernel
theorem dX2_allCards_19 : decode cX2_allCards 19 = .ok (.iinc 2 1, 3) := by decide +kernel
theorem dX2_allCards_22 : decode cX2_allCards 22 = .ok (.goto (-18), 3) := by decide +kernel
theorem dX2_allCards_25 : decode cX2_allCards 25 = .ok (.iload_n 1, 1) := by decide +kernel
theorem dX2_allCards_26 : decode cX2_allCards 26 = .ok (.ireturn, 1) := by decide +kernel
theorem dX2_timesAt_0 : decode cX2_timesAt 0 = .ok (.iconst 0, 1) := by decide +kernel
theorem dX2_timesAt_1 : decode cX2_timesAt 1 = .ok (.istore_n 2, 1) := by decide +kernel
theorem dX2_timesAt_2 : decode cX2_timesAt 2 = .ok (.iconst 0, 1) := by decide +kernel
theorem dX2_timesAt_3 : decode cX2_timesAt 3 = .ok (.istore_n 3, 1) := by decide +kernel
theorem dX2_timesAt_4 : decode cX2_timesAt 4 = .ok (.iload_n 3, 1) := by decide +kernel
theorem dX2_timesAt_5 : decode cX2_timesAt 5 = .ok (.iconst 3, 1) := by decide +kernel
theorem dX2_timesAt_6 : decode cX2_timesAt 6 = .ok (.if_icmp .ge 22, 3) := by decide +kernel
theorem dX2_timesAt_9 : decode cX2_timesAt 9 = .ok (.iload_n 2, 1) := by decide +kernel
theorem dX2_timesAt_10 : decode cX2_timesAt 10 = .ok (.aload_n 0, 1) := by decide +kernel
theorem dX2_timesAt_11 : decode cX2_timesAt 11 = .ok (.getfield 15, 3) := by decide +kernel
theorem dX2_timesAt_14 : decode cX2_timesAt 14 = .ok (.iload_n 1, 1) := by decide +kernel
theorem dX2_timesAt_15 : decode cX2_timesAt 15 = .ok (.iload_n 3, 1) := by decide +kernel
theorem dX2_timesAt_16 : decode cX2_timesAt 16 = .ok (.invokestatic 34, 3) := by decide +kernel
theorem dX2_timesAt_19 : decode cX2_timesAt 19 = .ok (.iaload, 1) := by decide +kernel
theorem dX2_timesAt_20 : decode cX2_timesAt 20 = .ok (.iadd, 1) := by decide +kernel
theorem dX2_timesAt_21 : decode cX2_timesAt 21 = .ok (.istore_n 2, 1) := by decide +kernel
theorem dX2_timesAt_22 : decode cX2_timesAt 22 = .ok (.iinc 3 1, 3) := by decide +kernel
theorem dX2_timesAt_25 : decode cX2_timesAt 25 = .ok (.goto (-21), 3) := by decide +kernel
theorem dX2_timesAt_28 : decode cX2_timesAt 28 = .ok (.iload_n 2, 1) := by decide +kernel
theorem dX2_timesAt_29 : decode cX2_timesAt 29 = .ok (.ireturn, 1) := by decide +kernel
theorem dX2_turn_0 : decode cX2_turn 0 = .ok (.iload_n 1, 1) := by decide +kernel
theorem dX2_turn_1 : decode cX2_turn 1 = .ok (.ifCond .lt 26, 3) := by decide +kernel
theorem dX2_turn_4 : decode cX2_turn 4 = .ok (.iload_n 1, 1) := by decide +kernel
theorem dX2_turn_5 : decode cX2_turn 5 = .ok (.bipush 18, 2) := by decide +kernel
theorem dX2_turn_7 : decode cX2_turn 7 = .ok (.if_icmp .ge 20, 3) := by decide +kernel
theorem dX2_turn_10 : decode cX2_turn 10 = .ok (.aload_n 0, 1) := by decide +kernel
theorem dX2_turn_11 : decode cX2_turn 11 = .ok (.getfield 9, 3) := by decide +kernel
theorem dX2_turn_14 : decode cX2_turn 14 = .ok (.iload_n 1, 1) := by decide +kernel
theorem dX2_turn_15 : decode cX2_turn 15 = .ok (.iaload, 1) := by decide +kernel
theorem dX2_turn_16 : decode cX2_turn 16 = .ok (.istore_n 3, 1) := by decide +kernel
theorem dX2_turn_17 : decode cX2_turn 17 = .ok (.aload_n 0, 1) := by decide +kernel
theorem dX2_turn_18 : decode cX2_turn 18 = .ok (.getfield 9, 3) := by decide +kernel
theorem dX2_turn_21 : decode cX2_turn 21 = .ok (.iload_n 1, 1) := by decide +kernel
theorem dX2_turn_22 : decode cX2_turn 22 = .ok (.iload_n 2, 1) := by decide +kernel
theorem dX2_turn_23 : decode cX2_turn 23 = .ok (.iastore, 1) := by decide +kernel
theorem dX2_turn_24 : decode cX2_turn 24 = .ok (.goto 48, 3) := by decide +kernel
theorem dX2_turn_27 : decode cX2_turn 27 = .ok (.iload_n 1, 1) := by decide +kernel
theorem dX2_turn_28 : decode cX2_turn 28 = .ok (.bipush 18, 2) := by decide +kernel
theorem dX2_turn_30 : decode cX2_turn 30 = .ok (.if_icmp .lt 32, 3) := by decide +kernel
theorem dX2_turn_33 : decode cX2_turn 33 = .ok (.iload_n 1, 1) := by decide +kernel
theorem dX2_turn_34 : decode cX2_turn 34 = .ok (.bipush 36, 2) := by decide +kernel
theorem dX2_turn_36 : decode cX2_turn 36 = .ok (.if_icmp .ge 26, 3) := by decide +kernel
theorem dX2_turn_39 : decode cX2_turn 39 = .ok (.aload_n 0, 1) := by decide +kernel
theorem dX2_turn_40 : decode cX2_turn 40 = .ok (.getfield 15, 3) := by decide +kernel
theorem dX2_turn_43 : decode cX2_turn 43 = .ok (.iload_n 1, 1) := by decide +kernel
theorem dX2_turn_44 : decode cX2_turn 44 = .ok (.bipush 18, 2) := by decide +kernel
theorem dX2_turn_46 : decode cX2_turn 46 = .ok (.isub, 1) := by decide +kernel
theorem dX2_turn_47 : decode cX2_turn 47 = .ok (.iaload, 1) := by decide +kernel
theorem dX2_turn_48 : decode cX2_turn 48 = .ok (.istore_n 3, 1) := by decide +kernel
theorem dX2_turn_49 : decode cX2_turn 49 = .ok (.aload_n 0, 1) := by decide +kernel
theorem dX2_turn_50 : decode cX2_turn 50 = .ok (.getfield 15, 3) := by decide +kernel
theorem dX2_turn_53 : decode cX2_turn 53 = .ok (.iload_n 1, 1) := by decide +kernel
theorem dX2_turn_54 : decode cX2_turn 54 = .ok (.bipush 18, 2) := by decide +kernel
theorem dX2_turn_56 : decode cX2_turn 56 = .ok (.isub, 1) := by decide +kernel
theorem dX2_turn_57 : decode cX2_turn 57 = .ok (.iload_n 2, 1) := by decide +kernel
theorem dX2_turn_58 : decode cX2_turn 58 = .ok (.iastore, 1) := by decide +kernel
theorem dX2_turn_59 : decode cX2_turn 59 = .ok (.goto 13, 3) := by decide +kernel
theorem dX2_turn_62 : decode cX2_turn 62 = .ok (.aload_n 0, 1) := by decide +kernel
theorem dX2_turn_63 : decode cX2_turn 63 = .ok (.getfield 24, 3) := by decide +kernel
theorem dX2_turn_66 : decode cX2_turn 66 = .ok (.istore_n 3, 1) := by decide +kernel
theorem dX2_turn_67 : decode cX2_turn 67 = .ok (.aload_n 0, 1) := by decide +kernel
theorem dX2_turn_68 : decode cX2_turn 68 = .ok (.iload_n 2, 1) := by decide +kernel
theorem dX2_turn_69 : decode cX2_turn 69 = .ok (.putfield 24, 3) := by decide +kernel
theorem dX2_turn_72 : decode cX2_turn 72 = .ok (.iload_n 3, 1) := by decide +kernel
theorem dX2_turn_73 : decode cX2_turn 73 = .ok (.ireturn, 1) := by decide +kernel
theorem dX3_start_0 : decode cX3_start 0 = .ok (.aload_n 0, 1) := by decide +kernel
theorem dX3_start_1 : decode cX3_start 1 = .ok (.getfield 9, 3) := by decide +kernel
theorem dX3_start_4 : decode cX3_start 4 = .ok (.iconst 0, 1) := by decide +kernel
theorem dX3_start_5 : decode cX3_start 5 = .ok (.invokestatic 56, 3) := by decide +kernel
theorem dX3_start_8 : decode cX3_start 8 = .ok (.aload_n 0, 1) := by decide +kernel
theorem dX3_start_9 : decode cX3_start 9 = .ok (.getfield 15, 3) := by decide +kernel
theorem dX3_start_12 : decode cX3_start 12 = .ok (.iconst 0, 1) := by decide +kernel
theorem dX3_start_13 : decode cX3_start 13 = .ok (.invokestatic 56, 3) := by decide +kernel
theorem dX3_start_16 : decode cX3_start 16 = .ok (.iload_n 1, 1) := by decide +kernel
theorem dX3_start_17 : decode cX3_start 17 = .ok (.ifCond .eq 39, 3) := by decide +kernel
theorem dX3_start_20 : decode cX3_start 20 = .ok (.aload_n 0, 1) := by decide +kernel
theorem dX3_start_21 : decode cX3_start 21 = .ok (.getfield 52, 3) := by decide +kernel
theorem dX3_start_24 : decode cX3_start 24 = .ok (.getfield 62, 3) := by decide +kernel
theorem dX3_start_27 : decode cX3_start 27 = .ok (.iconst 0, 1) := by decide +kernel
theorem dX3_start_28 : decode cX3_start 28 = .ok (.aload_n 0, 1) := by decide +kernel
theorem dX3_start_29 : decode cX3_start 29 = .ok (.getfield 9, 3) := by decide +kernel
theorem dX3_start_32 : decode cX3_start 32 = .ok (.iconst 0, 1) := by decide +kernel
theorem dX3_start_33 : decode cX3_start 33 = .ok (.bipush 18, 2) := by decide +kernel
theorem dX3_start_35 : decode cX3_start 35 = .ok (.invokestatic 67, 3) := by decide +kernel
theorem dX3_start_38 : decode cX3_start 38 = .ok (.aload_n 0, 1) := by decide +kernel
theorem dX3_start_39 : decode cX3_start 39 = .ok (.getfield 52, 3) := by decide +kernel
theorem dX3_start_42 : decode cX3_start 42 = .ok (.getfield 62, 3) := by decide +kernel
theorem dX3_start_45 : decode cX3_start 45 = .ok (.iconst 0, 1) := by decide +kernel
theorem dX3_start_46 : decode cX3_start 46 = .ok (.aload_n 0, 1) := by decide +kernel
theorem dX3_start_47 : decode cX3_start 47 = .ok (.getfield 15, 3) := by decide +kernel
theorem dX3_start_50 : decode cX3_start 50 = .ok (.iconst 0, 1) := by decide +kernel
theorem dX3_start_51 : decode cX3_start 51 = .ok (.bipush 18, 2) := by decide +kernel
theorem dX3_start_53 : decode cX3_start 53 = .ok (.invokestatic 67, 3) := by decide +kernel
theorem dX3_start_56 : decode cX3_start 56 = .ok (.aload_n 0, 1) := by decide +kernel
theorem dX3_start_57 : decode cX3_start 57 = .ok (.getfield 18, 3) := by decide +kernel
theorem dX3_start_60 : decode cX3_start 60 = .ok (.iconst 0, 1) := by decide +kernel
theorem dX3_start_61 : decode cX3_start 61 = .ok (.invokestatic 56, 3) := by decide +kernel
theorem dX3_start_64 : decode cX3_start 64 = .ok (.aload_n 0, 1) := by decide +kernel
theorem dX3_start_65 : decode cX3_start 65 = .ok (.getfield 21, 3) := by decide +kernel
theorem dX3_start_68 : decode cX3_start 68 = .ok (.bipush (-2), 2) := by decide +kernel
theorem dX3_start_70 : decode cX3_start 70 = .ok (.invokestatic 56, 3) := by decide +kernel
theorem dX3_start_73 : decode cX3_start 73 = .ok (.aload_n 0, 1) := by decide +kernel
theorem dX3_start_74 : decode cX3_start 74 = .ok (.getfield 24, 3) := by decide +kernel
theorem dX3_start_77 : decode cX3_start 77 = .ok (.iconst 0, 1) := by decide +kernel
theorem dX3_start_78 : decode cX3_start 78 = .ok (.invokestatic 56, 3) := by decide +kernel
theorem dX3_start_81 : decode cX3_start 81 = .ok (.aload_n 0, 1) := by decide +kernel
theorem dX3_start_82 : decode cX3_start 82 = .ok (.getfield 27, 3) := by decide +kernel
theorem dX3_start_85 : decode cX3_start 85 = .ok (.iconst 0, 1) := by decide +kernel
theorem dX3_start_86 : decode cX3_start 86 = .ok (.invokestatic 56, 3) := by decide +kernel
theorem dX3_start_89 : decode cX3_start 89 = .ok (.aload_n 0, 1) := by decide +kernel
theorem dX3_start_90 : decode cX3_start 90 = .ok (.getfield 30, 3) := by decide +kernel
theorem dX3_start_93 : decode cX3_start 93 = .ok (.iconst 0, 1) := by decide +kernel
theorem dX3_start_94 : decode cX3_start 94 = .ok (.invokestatic 56, 3) := by decide +kernel
theorem dX3_start_97 : decode cX3_start 97 = .ok (.aload_n 0, 1) := by decide +kernel
theorem dX3_start_98 : decode cX3_start 98 = .ok (.getfield 33, 3) := by decide +kernel
theorem dX3_start_101 : decode cX3_start 101 = .ok (.iconst 0, 1) := by decide +kernel
theorem dX3_start_102 : decode cX3_start 102 = .ok (.invokestatic 56, 3) := by decide +kernel
theorem dX3_start_105 : decode cX3_start 105 = .ok (.aload_n 0, 1) := by decide +kernel
theorem dX3_start_106 : decode cX3_start 106 = .ok (.getfield 36, 3) := by decide +kernel
theorem dX3_start_109 : decode cX3_start 109 = .ok (.iconst 0, 1) := by decide +kernel
theorem dX3_start_110 : decode cX3_start 110 = .ok (.invokestatic 56, 3) := by decide +kernel
theorem dX3_start_113 : decode cX3_start 113 = .ok (.aload_n 0, 1) := by decide +kernel
theorem dX3_start_114 : decode cX3_start 114 = .ok (.getfield 39, 3) := by decide +kernel
theorem dX3_start_117 : decode cX3_start 117 = .ok (.iconst 0, 1) := by decide +kernel
theorem dX3_start_118 : decode cX3_start 118 = .ok (.invokestatic 56, 3) := by decide +kernel
theorem dX3_start_121 : decode cX3_start 121 = .ok (.aload_n 0, 1) := by decide +kernel
theorem dX3_start_122 : decode cX3_start 122 = .ok (.getfield 42, 3) := by decide +kernel
theorem dX3_start_125 : decode cX3_start 125 = .ok (.iconst 0, 1) := by decide +kernel
theorem dX3_start_126 : decode cX3_start 126 = .ok (.invokestatic 56, 3) := by decide +kernel
theorem dX3_start_129 : decode cX3_start 129 = .ok (.aload_n 0, 1) := by decide +kernel
theorem dX3_start_130 : decode cX3_start 130 = .ok (.getfield 45, 3) := by decide +kernel
theorem dX3_start_133 : decode cX3_start 133 = .ok (.bipush (-2), 2) := by decide +kernel
theorem dX3_start_135 : decode cX3_start 135 = .ok (.invokestatic 56, 3) := by decide +kernel
theorem dX3_start_138 : decode cX3_start 138 = .ok (.aload_n 0, 1) := by decide +kernel
theorem dX3_start_139 : decode cX3_start 139 = .ok (.iconst 0, 1) := by decide +kernel
theorem dX3_start_140 : decode cX3_start 140 = .ok (.putfield 73, 3) := by decide +kernel
theorem dX3_start_143 : decode cX3_start 143 = .ok (.aload_n 0, 1) := by decide +kernel
theorem dX3_start_144 : decode cX3_start 144 = .ok (.iconst 0, 1) := by decide +kernel
theorem dX3_start_145 : decode cX3_start 145 = .ok (.putfield 77, 3) := by decide +kernel
theorem dX3_start_148 : decode cX3_start 148 = .ok (.aload_n 0, 1) := by decide +kernel
theorem dX3_start_149 : decode cX3_start 149 = .ok (.bipush (-2), 2) := by decide +kernel
theorem dX3_start_151 : decode cX3_start 151 = .ok (.putfield 80, 3) := by decide +kernel
theorem dX3_start_154 : decode cX3_start 154 = .ok (.aload_n 0, 1) := by decide +kernel
theorem dX3_start_155 : decode cX3_start 155 = .ok (.bipush (-2), 2) := by decide +kernel
theorem dX3_start_157 : decode cX3_start 157 = .ok (.putfield 83, 3) := by decide +kernel
theorem dX3_start_160 : decode cX3_start 160 = .ok (.aload_n 0, 1) := by decide +kernel
theorem dX3_start_161 : decode cX3_start 161 = .ok (.invokevirtual 86, 3) := by decide +kernel
theorem dX3_start_164 : decode cX3_start 164 = .ok (.return_, 1) := by decide +kernel
theorem dX3_copy_0 : decode cX3_copy 0 = .ok (.aload_n 1, 1) := by decide +kernel
theorem dX3_copy_1 : decode cX3_copy 1 = .ok (.getfield 9, 3) := by decide +kernel
theorem dX3_copy_4 : decode cX3_copy 4 = .ok (.iconst 0, 1) := by decide +kernel
theorem dX3_copy_5 : decode cX3_copy 5 = .ok (.aload_n 0, 1) := by decide +kernel
theorem dX3_copy_6 : decode cX3_copy 6 = .ok (.getfield 9, 3) := by decide +kernel
theorem dX3_copy_9 : decode cX3_copy 9 = .ok (.iconst 0, 1) := by decide +kernel
theorem dX3_copy_10 : decode cX3_copy 10 = .ok (.bipush 18, 2) := by decide +kernel
theorem dX3_copy_12 : decode cX3_copy 12 = .ok (.invokestatic 67, 3) := by decide +kernel
theorem dX3_copy_15 : decode cX3_copy 15 = .ok (.aload_n 1, 1) := by decide +kernel
theorem dX3_copy_16 : decode cX3_copy 16 = .ok (.getfield 15, 3) := by decide +kernel
theorem dX3_copy_19 : decode cX3_copy 19 = .ok (.iconst 0, 1) := by decide +kernel
theorem dX3_copy_20 : decode cX3_copy 20 = .ok (.aload_n 0, 1) := by decide +kernel
theorem dX3_copy_21 : decode cX3_copy 21 = .ok (.getfield 15, 3) := by decide +kernel
theorem dX3_copy_24 : decode cX3_copy 24 = .ok (.iconst 0, 1) := by decide +kernel
theorem dX3_copy_25 : decode cX3_copy 25 = .ok (.bipush 18, 2) := by decide +kernel
theorem dX3_copy_27 : decode cX3_copy 27 = .ok (.invokestatic 67, 3) := by decide +kernel
theorem dX3_copy_30 : decode cX3_copy 30 = .ok (.aload_n 1, 1) := by decide +kernel
theorem dX3_copy_31 : decode cX3_copy 31 = .ok (.getfield 18, 3) := by decide +kernel
theorem dX3_copy_34 : decode cX3_copy 34 = .ok (.iconst 0, 1) := by decide +kernel
theorem dX3_copy_35 : decode cX3_copy 35 = .ok (.aload_n 0, 1) := by decide +kernel
theorem dX3_copy_36 : decode cX3_copy 36 = .ok (.getfield 18, 3) := by decide +kernel
theorem dX3_copy_39 : decode cX3_copy 39 = .ok (.iconst 0, 1) := by decide +kernel
theorem dX3_copy_40 : decode cX3_copy 40 = .ok (.bipush 6, 2) := by decide +kernel
theorem dX3_copy_42 : decode cX3_copy 42 = .ok (.invokestatic 67, 3) := by decide +kernel
theorem dX3_copy_45 : decode cX3_copy 45 = .ok (.aload_n 1, 1) := by decide +kernel
theorem dX3_copy_46 : decode cX3_copy 46 = .ok (.getfield 21, 3) := by decide +kernel
theorem dX3_copy_49 : decode cX3_copy 49 = .ok (.iconst 0, 1) := by decide +kernel
theorem dX3_copy_50 : decode cX3_copy 50 = .ok (.aload_n 0, 1) := by decide +kernel
theorem dX3_copy_51 : decode cX3_copy 51 = .ok (.getfield 21, 3) := by decide +kernel
theorem dX3_copy_54 : decode cX3_copy 54 = .ok (.iconst 0, 1) := by decide +kernel
theorem dX3_copy_55 : decode cX3_copy 55 = .ok (.bipush 6, 2) := by decide +kernel
theorem dX3_copy_57 : decode cX3_copy 57 = .ok (.invokestatic 67, 3) := by decide +kernel
theorem dX3_copy_60 : decode cX3_copy 60 = .ok (.aload_n 1, 1) := by decide +kernel
theorem dX3_copy_61 : decode cX3_copy 61 = .ok (.getfield 24, 3) := by decide +kernel
theorem dX3_copy_64 : decode cX3_copy 64 = .ok (.iconst 0, 1) := by decide +kernel
theorem dX3_copy_65 : decode cX3_copy 65 = .ok (.aload_n 0, 1) := by decide +kernel
theorem dX3_copy_66 : decode cX3_copy 66 = .ok (.getfield 24, 3) := by decide +kernel
theorem dX3_copy_69 : decode cX3_copy 69 = .ok (.iconst 0, 1) := by decide +kernel
theorem dX3_copy_70 : decode cX3_copy 70 = .ok (.bipush 6, 2) := by decide +kernel
theorem dX3_copy_72 : decode cX3_copy 72 = .ok (.invokestatic 67, 3) := by decide +kernel
theorem dX3_copy_75 : decode cX3_copy 75 = .ok (.aload_n 1, 1) := by decide +kernel
theorem dX3_copy_76 : decode cX3_copy 76 = .ok (.getfield 27, 3) := by decide +kernel
theorem dX3_copy_79 : decode cX3_copy 79 = .ok (.iconst 0, 1) := by decide +kernel
theorem dX3_copy_80 : decode cX3_copy 80 = .ok (.aload_n 0, 1) := by decide +kernel
theorem dX3_copy_81 : decode cX3_copy 81 = .ok (.getfield 27, 3) := by decide +kernel
theorem dX3_copy_84 : decode cX3_copy 84 = .ok (.iconst 0, 1) := by decide +kernel
theorem dX3_copy_85 : decode cX3_copy 85 = .ok (.bipush 6, 2) := by decide +kernel
theorem dX3_copy_87 : decode cX3_copy 87 = .ok (.invokestatic 67, 3) := by decide +kernel
theorem dX3_copy_90 : decode cX3_copy 90 = .ok (.aload_n 1, 1) := by decide +kernel
theorem dX3_copy_91 : decode cX3_copy 91 = .ok (.getfield 30, 3) := by decide +kernel
theorem dX3_copy_94 : decode cX3_copy 94 = .ok (.iconst 0, 1) := by decide +kernel
theorem dX3_copy_95 : decode cX3_copy 95 = .ok (.aload_n 0, 1) := by decide +kernel
theorem dX3_copy_96 : decode cX3_copy 96 = .ok (.getfield 30, 3) := by decide +kernel
theorem dX3_copy_99 : decode cX3_copy 99 = .ok (.iconst 0, 1) := by decide +kernel
theorem dX3_copy_100 : decode cX3_copy 100 = .ok (.bipush 24, 2) := by decide +kernel
theorem dX3_copy_102 : decode cX3_copy 102 = .ok (.invokestatic 67, 3) := by decide +kernel
theorem dX3_copy_105 : decode cX3_copy 105 = .ok (.aload_n 1, 1) := by decide +kernel
theorem dX3_copy_106 : decode cX3_copy 106 = .ok (.getfield 33, 3) := by decide +kernel
theorem dX3_copy_109 : decode cX3_copy 109 = .ok (.iconst 0, 1) := by decide +kernel
theorem dX3_copy_110 : decode cX3_copy 110 = .ok (.aload_n 0, 1) := by decide +kernel
theorem dX3_copy_111 : decode cX3_copy 111 = .ok (.getfield 33, 3) := by decide +kernel
theorem dX3_copy_114 : decode cX3_copy 114 = .ok (.iconst 0, 1) := by decide +kernel
theorem dX3_copy_115 : decode cX3_copy 115 = .ok (.bipush 6, 2) := by decide +kernel
theorem dX3_copy_117 : decode cX3_copy 117 = .ok (.invokestatic 67, 3) := by decide +kernel
theorem dX3_copy_120 : decode cX3_copy 120 = .ok (.aload_n 1, 1) := by decide +kernel
theorem dX3_copy_121 : decode cX3_copy 121 = .ok (.getfield 36, 3) := by decide +kernel
theorem dX3_copy_124 : decode cX3_copy 124 = .ok (.iconst 0, 1) := by decide +kernel
theorem dX3_copy_125 : decode cX3_copy 125 = .ok (.aload_n 0, 1) := by decide +kernel
theorem dX3_copy_126 : decode cX3_copy 126 = .ok (.getfield 36, 3) := by decide +kernel
theorem dX3_copy_129 : decode cX3_copy 129 = .ok (.iconst 0, 1) := by decide +kernel
theorem dX3_copy_130 : decode cX3_copy 130 = .ok (.iconst 3, 1) := by decide +kernel
theorem dX3_copy_131 : decode cX3_copy 131 = .ok (.invokestatic 67, 3) := by decide +kernel
theorem dX3_copy_134 : decode cX3_copy 134 = .ok (.aload_n 1, 1) := by decide +kernel
theorem dX3_copy_135 : decode cX3_copy 135 = .ok (.getfield 39, 3) := by decide +kernel
theorem dX3_copy_138 : decode cX3_copy 138 = .ok (.iconst 0, 1) := by decide +kernel
theorem dX3_copy_139 : decode cX3_copy 139 = .ok (.aload_n 0, 1) := by decide +kernel
theorem dX3_copy_140 : decode cX3_copy 140 = .ok (.getfield 39, 3) := by decide +kernel
theorem dX3_copy_143 : decode cX3_copy 143 = .ok (.iconst 0, 1) := by decide +kernel
theorem dX3_copy_144 : decode cX3_copy 144 = .ok (.iconst 3, 1) := by decide +kernel
theorem dX3_copy_145 : decode cX3_copy 145 = .ok (.invokestatic 67, 3) := by decide +kernel
theorem dX3_copy_148 : decode cX3_copy 148 = .ok (.aload_n 1, 1) := by decide +kernel
theorem dX3_copy_149 : decode cX3_copy 149 = .ok (.getfield 42, 3) := by decide +kernel
theorem dX3_copy_152 : decode cX3_copy 152 = .ok (.iconst 0, 1) := by decide +kernel
theorem dX3_copy_153 : decode cX3_copy 153 = .ok (.aload_n 0, 1) := by decide +kernel
theorem dX3_copy_154 : decode cX3_copy 154 = .ok (.getfield 42, 3) := by decide +kernel
theorem dX3_copy_157 : decode cX3_copy 157 = .ok (.iconst 0, 1) := by decide +kernel
theorem dX3_copy_158 : decode cX3_copy 158 = .ok (.iconst 3, 1) := by decide +kernel
theorem dX3_copy_159 : decode cX3_copy 159 = .ok (.invokestatic 67, 3) := by decide +kernel
theorem dX3_copy_162 : decode cX3_copy 162 = .ok (.aload_n 1, 1) := by decide +kernel
theorem dX3_copy_163 : decode cX3_copy 163 = .ok (.getfield 45, 3) := by decide +kernel
theorem dX3_copy_166 : decode cX3_copy 166 = .ok (.iconst 0, 1) := by decide +kernel
theorem dX3_copy_167 : decode cX3_copy 167 = .ok (.aload_n 0, 1) := by decide +kernel
theorem dX3_copy_168 : decode cX3_copy 168 = .ok (.getfield 45, 3) := by decide +kernel
theorem dX3_copy_171 : decode cX3_copy 171 = .ok (.iconst 0, 1) := by decide +kernel
theorem dX3_copy_172 : decode cX3_copy 172 = .ok (.iconst 3, 1) := by decide +kernel
theorem dX3_copy_173 : decode cX3_copy 173 = .ok (.invokestatic 67, 3) := by decide +kernel
theorem dX3_copy_176 : decode cX3_copy 176 = .ok (.aload_n 0, 1) := by decide +kernel
theorem dX3_copy_177 : decode cX3_copy 177 = .ok (.aload_n 1, 1) := by decide +kernel
theorem dX3_copy_178 : decode cX3_copy 178 = .ok (.getfield 73, 3) := by decide +kernel
theorem dX3_copy_181 : decode cX3_copy 181 = .ok (.putfield 73, 3) := by decide +kernel
theorem dX3_copy_184 : decode cX3_copy 184 = .ok (.aload_n 0, 1) := by decide +kernel
theorem dX3_copy_185 : decode cX3_copy 185 = .ok (.aload_n 1, 1) := by decide +kernel
theorem dX3_copy_186 : decode cX3_copy 186 = .ok (.getfield 77, 3) := by decide +kernel
theorem dX3_copy_189 : decode cX3_copy 189 = .ok (.putfield 77, 3) := by decide +kernel
theorem dX3_copy_192 : decode cX3_copy 192 = .ok (.aload_n 0, 1) := by decide +kernel
theorem dX3_copy_193 : decode cX3_copy 193 = .ok (.aload_n 1, 1) := by decide +kernel
theorem dX3_copy_194 : decode cX3_copy 194 = .ok (.getfield 80, 3) := by decide +kernel
theorem dX3_copy_197 : decode cX3_copy 197 = .ok (.putfield 80, 3) := by decide +kernel
theorem dX3_copy_200 : decode cX3_copy 200 = .ok (.aload_n 0, 1) := by decide +kernel
theorem dX3_copy_201 : decode cX3_copy 201 = .ok (.aload_n 1, 1) := by decide +kernel
theorem dX3_copy_202 : decode cX3_copy 202 = .ok (.getfield 83, 3) := by decide +kernel
theorem dX3_copy_205 : decode cX3_copy 205 = .ok (.putfield 83, 3) := by decide +kernel
theorem dX3_copy_208 : decode cX3_copy 208 = .ok (.return_, 1) := by decide +kernel
theorem dX3_passMinute_0 : decode cX3_passMinute 0 = .ok (.aload_n 0, 1) := by decide +kernel
theorem dX3_passMinute_1 : decode cX3_passMinute 1 = .ok (.invokevirtual 89, 3) := by decide +kernel
theorem dX3_passMinute_4 : decode cX3_passMinute 4 = .ok (.aload_n 0, 1) := by decide +kernel
theorem dX3_passMinute_5 : decode cX3_passMinute 5 = .ok (.invokevirtual 92, 3) := by decide +kernel
theorem dX3_passMinute_8 : decode cX3_passMinute 8 = .ok (.aload_n 0, 1) := by decide +kernel
theorem dX3_passMinute_9 : decode cX3_passMinute 9 = .ok (.invokevirtual 95, 3) := by decide +kernel
theorem dX3_passMinute_12 : decode cX3_passMinute 12 = .ok (.aload_n 0, 1) := by decide +kernel
theorem dX3_passMinute_13 : decode cX3_passMinute 13 = .ok (.invokevirtual 86, 3) := by decide +kernel
theorem dX3_passMinute_16 : decode cX3_passMinute 16 = .ok (.aload_n 0, 1) := by decide +kernel
theorem dX3_passMinute_17 : decode cX3_passMinute 17 = .ok (.dup, 1) := by decide +kernel
theorem dX3_passMinute_18 : decode cX3_passMinute 18 = .ok (.getfield 73, 3) := by decide +kernel
theorem dX3_passMinute_21 : decode cX3_passMinute 21 = .ok (.iconst 1, 1) := by decide +kernel
theorem dX3_passMinute_22 : decode cX3_passMinute 22 = .ok (.iadd, 1) := by decide +kernel
theorem dX3_passMinute_23 : decode cX3_passMinute 23 = .ok (.putfield 73, 3) := by decide +kernel
theorem dX3_passMinute_26 : decode cX3_passMinute 26 = .ok (.return_, 1) := by decide +kernel
theorem dX3_hurryTo_0 : decode cX3_hurryTo 0 = .ok (.iconst 0, 1) := by decide +kernel
theorem dX3_hurryTo_1 : decode cX3_hurryTo 1 = .ok (.istore_n 2, 1) := by decide +kernel
theorem dX3_hurryTo_2 : decode cX3_hurryTo 2 = .ok (.iload_n 2, 1) := by decide +kernel
theorem dX3_hurryTo_3 : decode cX3_hurryTo 3 = .ok (.iload_n 1, 1) := by decide +kernel
theorem dX3_hurryTo_4 : decode cX3_hurryTo 4 = .ok (.if_icmp .ge 30, 3) := by decide +kernel
theorem dX3_hurryTo_7 : decode cX3_hurryTo 7 = .ok (.aload_n 0, 1) := by decide +kernel
theorem dX3_hurryTo_8 : decode cX3_hurryTo 8 = .ok (.getfield 73, 3) := by decide +kernel
theorem dX3_hurryTo_11 : decode cX3_hurryTo 11 = .ok (.iload_n 1, 1) := by decide +kernel
theorem dX3_hurryTo_12 : decode cX3_hurryTo 12 = .ok (.if_icmp .ge 22, 3) := by decide +kernel
theorem dX3_hurryTo_15 : decode cX3_hurryTo 15 = .ok (.aload_n 0, 1) := by decide +kernel
theorem dX3_hurryTo_16 : decode cX3_hurryTo 16 = .ok (.invokevirtual 92, 3) := by decide +kernel
theorem dX3_hurryTo_19 : decode cX3_hurryTo 19 = .ok (.aload_n 0, 1) := by decide +kernel
theorem dX3_hurryTo_20 : decode cX3_hurryTo 20 = .ok (.aload_n 0, 1) := by decide +kernel
theorem dX3_hurryTo_21 : decode cX3_hurryTo 21 = .ok (.iload_n 1, 1) := by decide +kernel
theorem dX3_hurryTo_22 : decode cX3_hurryTo 22 = .ok (.invokevirtual 98, 3) := by decide +kernel
theorem dX3_hurryTo_25 : decode cX3_hurryTo 25 = .ok (.putfield 73, 3) := by decide +kernel
theorem dX3_hurryTo_28 : decode cX3_hurryTo 28 = .ok (.iinc 2 1, 3) := by decide +kernel
theorem dX3_hurryTo_31 : decode cX3_hurryTo 31 = .ok (.goto (-29), 3) := by decide +kernel
theorem dX3_hurryTo_34 : decode cX3_hurryTo 34 = .ok (.return_, 1) := by decide +kernel
theorem dX3_nextChange_0 : decode cX3_nextChange 0 = .ok (.iload_n 1, 1) := by decide +kernel
theorem dX3_nextChange_1 : decode cX3_nextChange 1 = .ok (.istore_n 2, 1) := by decide +kernel
theorem dX3_nextChange_2 : decode cX3_nextChange 2 = .ok (.iconst 0, 1) := by decide +kernel
theorem dX3_nextChange_3 : decode cX3_nextChange 3 = .ok (.istore_n 3, 1) := by decide +kernel
theorem dX3_nextChange_4 : decode cX3_nextChange 4 = .ok (.iload_n 3, 1) := by decide +kernel
theorem dX3_nextChange_5 : decode cX3_nextChange 5 = .ok (.aload_n 0, 1) := by decide +kernel
theorem dX3_nextChange_6 : decode cX3_nextChange 6 = .ok (.getfield 48, 3) := by decide +kernel
theorem dX3_nextChange_9 : decode cX3_nextChange 9 = .ok (.getfield 102, 3) := by decide +kernel
theorem dX3_nextChange_12 : decode cX3_nextChange 12 = .ok (.if_icmp .ge 35, 3) := by decide +kernel
theorem dX3_nextChange_15 : decode cX3_nextChange 15 = .ok (.aload_n 0, 1) := by decide +kernel
theorem dX3_nextChange_16 : decode cX3_nextChange 16 = .ok (.getfield 18, 3) := by decide +kernel
theorem dX3_nextChange_19 : decode cX3_nextChange 19 = .ok (.iload_n 3, 1) := by decide +kernel
theorem dX3_nextChange_20 : decode cX3_nextChange 20 = .ok (.iaload, 1) := by decide +kernel
theorem dX3_nextChange_21 : decode cX3_nextChange 21 = .ok (.ifCond .eq 20, 3) := by decide +kernel
theorem dX3_nextChange_24 : decode cX3_nextChange 24 = .ok (.aload_n 0, 1) := by decide +kernel
theorem dX3_nextChange_25 : decode cX3_nextChange 25 = .ok (.getfield 24, 3) := by decide +kernel
theorem dX3_nextChange_28 : decode cX3_nextChange 28 = .ok (.iload_n 3, 1) := by decide +kernel
theorem dX3_nextChange_29 : decode cX3_nextChange 29 = .ok (.iaload, 1) := by decide +kernel
theorem dX3_nextChange_30 : decode cX3_nextChange 30 = .ok (.iload_n 2, 1) := by decide +kernel
theorem dX3_nextChange_31 : decode cX3_nextChange 31 = .ok (.if_icmp .ge 10, 3) := by decide +kernel
theorem dX3_nextChange_34 : decode cX3_nextChange 34 = .ok (.aload_n 0, 1) := by decide +kernel
theorem dX3_nextChange_35 : decode cX3_nextChange 35 = .ok (.getfield 24, 3) := by decide +kernel
theorem dX3_nextChange_38 : decode cX3_nextChange 38 = .ok (.iload_n 3, 1) := by decide +kernel
theorem dX3_nextChange_39 : decode cX3_nextChange 39 = .ok (.iaload, 1) := by decide +kernel
theorem dX3_nextChange_40 : decode cX3_nextChange 40 = .ok (.istore_n 2, 1) := by decide +kernel
theorem dX3_nextChange_41 : decode cX3_nextChange 41 = .ok (.iinc 3 1, 3) := by decide +kernel
theorem dX3_nextChange_44 : decode cX3_nextChange 44 = .ok (.goto (-40), 3) := by decide +kernel
theorem dX3_nextChange_47 : decode cX3_nextChange 47 = .ok (.iconst 0, 1) := by decide +kernel
theorem dX3_nextChange_48 : decode cX3_nextChange 48 = .ok (.istore_n 3, 1) := by decide +kernel
theorem dX3_nextChange_49 : decode cX3_nextChange 49 = .ok (.iload_n 3, 1) := by decide +kernel
theorem dX3_nextChange_50 : decode cX3_nextChange 50 = .ok (.aload_n 0, 1) := by decide +kernel
theorem dX3_nextChange_51 : decode cX3_nextChange 51 = .ok (.getfield 48, 3) := by decide +kernel
theorem dX3_nextChange_54 : decode cX3_nextChange 54 = .ok (.getfield 107, 3) := by decide +kernel
theorem dX3_nextChange_57 : decode cX3_nextChange 57 = .ok (.if_icmp .ge 19, 3) := by decide +kernel
theorem dX3_nextChange_60 : decode cX3_nextChange 60 = .ok (.iload_n 2, 1) := by decide +kernel
theorem dX3_nextChange_61 : decode cX3_nextChange 61 = .ok (.aload_n 0, 1) := by decide +kernel
theorem dX3_nextChange_62 : decode cX3_nextChange 62 = .ok (.iload_n 3, 1) := by decide +kernel
theorem dX3_nextChange_63 : decode cX3_nextChange 63 = .ok (.invokevirtual 110, 3) := by decide +kernel
theorem dX3_nextChange_66 : decode cX3_nextChange 66 = .ok (.invokestatic 113, 3) := by decide +kernel
theorem dX3_nextChange_69 : decode cX3_nextChange 69 = .ok (.istore_n 2, 1) := by decide +kernel
theorem dX3_nextChange_70 : decode cX3_nextChange 70 = .ok (.iinc 3 1, 3) := by decide +kernel
theorem dX3_nextChange_73 : decode cX3_nextChange 73 = .ok (.goto (-24), 3) := by decide +kernel
theorem dX3_nextChange_76 : decode cX3_nextChange 76 = .ok (.iload_n 2, 1) := by decide +kernel
theorem dX3_nextChange_77 : decode cX3_nextChange 77 = .ok (.aload_n 0, 1) := by decide +kernel
theorem dX3_nextChange_78 : decode cX3_nextChange 78 = .ok (.getfield 73, 3) := by decide +kernel
theorem dX3_nextChange_81 : decode cX3_nextChange 81 = .ok (.iconst 1, 1) := by decide +kernel
theorem dX3_nextChange_82 : decode cX3_nextChange 82 = .ok (.iadd, 1) := by decide +kernel
theorem dX3_nextChange_83 : decode cX3_nextChange 83 = .ok (.invokestatic 119, 3) := by decide +kernel
theorem dX3_nextChange_86 : decode cX3_nextChange 86 = .ok (.ireturn, 1) := by decide +kernel
theorem dX3_nextOrder_0 : decode cX3_nextOrder 0 = .ok (.aload_n 0, 1) := by decide +kernel
theorem dX3_nextOrder_1 : decode cX3_nextOrder 1 = .ok (.getfield 48, 3) := by decide +kernel
theorem dX3_nextOrder_4 : decode cX3_nextOrder 4 = .ok (.getfield 122, 3) := by decide +kernel
theorem dX3_nextOrder_7 : decode cX3_nextOrder 7 = .ok (.iload_n 1, 1) := by decide +kernel
theorem dX3_nextOrder_8 : decode cX3_nextOrder 8 = .ok (.iaload, 1) := by decide +kernel
theorem dX3_nextOrder_9 : decode cX3_nextOrder 9 = .ok (.istore_n 2, 1) := by decide +kernel
theorem dX3_nextOrder_10 : decode cX3_nextOrder 10 = .ok (.aload_n 0, 1) := by decide +kernel
theorem dX3_nextOrder_11 : decode cX3_nextOrder 11 = .ok (.getfield 73, 3) := by decide +kernel
theorem dX3_nextOrder_14 : decode cX3_nextOrder 14 = .ok (.iload_n 2, 1) := by decide +kernel
theorem dX3_nextOrder_15 : decode cX3_nextOrder 15 = .ok (.if_icmp .ge 5, 3) := by decide +kernel
theorem dX3_nextOrder_18 : decode cX3_nextOrder 18 = .ok (.iload_n 2, 1) := by decide +kernel
theorem dX3_nextOrder_19 : decode cX3_nextOrder 19 = .ok (.ireturn, 1) := by decide +kernel
theorem dX3_nextOrder_20 : decode cX3_nextOrder 20 = .ok (.aload_n 0, 1) := by decide +kernel
theorem dX3_nextOrder_21 : decode cX3_nextOrder 21 = .ok (.getfield 48, 3) := by decide +kernel
theorem dX3_nextOrder_24 : decode cX3_nextOrder 24 = .ok (.getfield 125, 3) := by decide +kernel
theorem dX3_nextOrder_27 : decode cX3_nextOrder 27 = .ok (.iload_n 1, 1) := by decide +kernel
theorem dX3_nextOrder_28 : decode cX3_nextOrder 28 = .ok (.iaload, 1) := by decide +kernel
theorem dX3_nextOrder_29 : decode cX3_nextOrder 29 = .ok (.istore_n 3, 1) := by decide +kernel
theorem dX3_nextOrder_30 : decode cX3_nextOrder 30 = .ok (.aload_n 0, 1) := by decide +kernel
theorem dX3_nextOrder_31 : decode cX3_nextOrder 31 = .ok (.getfield 73, 3) := by decide +kernel
theorem dX3_nextOrder_34 : decode cX3_nextOrder 34 = .ok (.iload_n 3, 1) := by decide +kernel
theorem dX3_nextOrder_35 : decode cX3_nextOrder 35 = .ok (.iadd, 1) := by decide +kernel
theorem dX3_nextOrder_36 : decode cX3_nextOrder 36 = .ok (.aload_n 0, 1) := by decide +kernel
theorem dX3_nextOrder_37 : decode cX3_nextOrder 37 = .ok (.getfield 73, 3) := by decide +kernel
theorem dX3_nextOrder_40 : decode cX3_nextOrder 40 = .ok (.iload_n 2, 1) := by decide +kernel
theorem dX3_nextOrder_41 : decode cX3_nextOrder 41 = .ok (.isub, 1) := by decide +kernel
theorem dX3_nextOrder_42 : decode cX3_nextOrder 42 = .ok (.iload_n 3, 1) := by decide +kernel
theorem dX3_nextOrder_43 : decode cX3_nextOrder 43 = .ok (.invokestatic 128, 3) := by decide +kernel
theorem dX3_nextOrder_46 : decode cX3_nextOrder 46 = .ok (.isub, 1) := by decide +kernel
theorem dX3_nextOrder_47 : decode cX3_nextOrder 47 = .ok (.ireturn, 1) := by decide +kernel
theorem dX3_change_0 : decode cX3_change 0 = .ok (.iconst 0, 1) := by decide +kernel
theorem dX3_change_1 : decode cX3_change 1 = .ok (.istore_n 1, 1) := by decide +kernel
theorem dX3_change_2 : decode cX3_change 2 = .ok (.iload_n 1, 1) := by decide +kernel
theorem dX3_change_3 : decode cX3_change 3 = .ok (.aload_n 0, 1) := by decide +kernel
theorem dX3_change_4 : decode cX3_change 4 = .ok (.getfield 48, 3) := by decide +kernel
theorem dX3_change_7 : decode cX3_change 7 = .ok (.getfield 102, 3) := by decide +kernel
theorem dX3_change_10 : decode cX3_change 10 = .ok (.if_icmp .ge 14, 3) := by decide +kernel
theorem dX3_change_13 : decode cX3_change 13 = .ok (.aload_n 0, 1) := by decide +kernel
theorem dX3_change_14 : decode cX3_change 14 = .ok (.iload_n 1, 1) := by decide +kernel
theorem dX3_change_15 : decode cX3_change 15 = .ok (.invokevirtual 131, 3) := by decide +kernel
theorem dX3_change_18 : decode cX3_change 18 = .ok (.iinc 1 1, 3) := by decide +kernel
theorem dX3_change_21 : decode cX3_change 21 = .ok (.goto (-19), 3) := by decide +kernel
theorem dX3_change_24 : decode cX3_change 24 = .ok (.iconst 0, 1) := by decide +kernel
theorem dX3_change_25 : decode cX3_change 25 = .ok (.istore_n 1, 1) := by decide +kernel
theorem dX3_change_26 : decode cX3_change 26 = .ok (.iload_n 1, 1) := by decide +kernel
theorem dX3_change_27 : decode cX3_change 27 = .ok (.aload_n 0, 1) := by decide +kernel
theorem dX3_change_28 : decode cX3_change 28 = .ok (.getfield 48, 3) := by decide +kernel
theorem dX3_change_31 : decode cX3_change 31 = .ok (.getfield 107, 3) := by decide +kernel
theorem dX3_change_34 : decode cX3_change 34 = .ok (.if_icmp .ge 14, 3) := by decide +kernel
theorem dX3_change_37 : decode cX3_change 37 = .ok (.aload_n 0, 1) := by decide +kernel
theorem dX3_change_38 : decode cX3_change 38 = .ok (.iload_n 1, 1) := by decide +kernel
theorem dX3_change_39 : decode cX3_change 39 = .ok (.invokevirtual 135, 3) := by decide +kernel
theorem dX3_change_42 : decode cX3_change 42 = .ok (.iinc 1 1, 3) := by decide +kernel
theorem dX3_change_45 : decode cX3_change 45 = .ok (.goto (-19), 3) := by decide +kernel
theorem dX3_change_48 : decode cX3_change 48 = .ok (.iconst 0, 1) := by decide +kernel
theorem dX3_change_49 : decode cX3_change 49 = .ok (.istore_n 1, 1) := by decide +kernel
theorem dX3_change_50 : decode cX3_change 50 = .ok (.iload_n 1, 1) := by decide +kernel
theorem dX3_change_51 : decode cX3_change 51 = .ok (.aload_n 0, 1) := by decide +kernel
theorem dX3_change_52 : decode cX3_change 52 = .ok (.getfield 48, 3) := by decide +kernel
theorem dX3_change_55 : decode cX3_change 55 = .ok (.getfield 138, 3) := by decide +kernel
theorem dX3_change_58 : decode cX3_change 58 = .ok (.if_icmp .ge 14, 3) := by decide +kernel
theorem dX3_change_61 : decode cX3_change 61 = .ok (.aload_n 0, 1) := by decide +kernel
theorem dX3_change_62 : decode cX3_change 62 = .ok (.iload_n 1, 1) := by decide +kernel
theorem dX3_change_63 : decode cX3_change 63 = .ok (.invokevirtual 141, 3) := by decide +kernel
theorem dX3_change_66 : decode cX3_change 66 = .ok (.iinc 1 1, 3) := by decide +kernel
theorem dX3_change_69 : decode cX3_change 69 = .ok (.goto (-19), 3) := by decide +kernel
theorem dX3_change_72 : decode cX3_change 72 = .ok (.aload_n 0, 1) := by decide +kernel
theorem dX3_change_73 : decode cX3_change 73 = .ok (.getfield 48, 3) := by decide +kernel
theorem dX3_change_76 : decode cX3_change 76 = .ok (.getfield 102, 3) := by decide +kernel
theorem dX3_change_79 : decode cX3_change 79 = .ok (.iconst 1, 1) := by decide +kernel
theorem dX3_change_80 : decode cX3_change 80 = .ok (.isub, 1) := by decide +kernel
theorem dX3_change_81 : decode cX3_change 81 = .ok (.istore_n 1, 1) := by decide +kernel
theorem dX3_change_82 : decode cX3_change 82 = .ok (.iload_n 1, 1) := by decide +kernel
theorem dX3_change_83 : decode cX3_change 83 = .ok (.ifCond .lt 39, 3) := by decide +kernel
theorem dX3_change_86 : decode cX3_change 86 = .ok (.aload_n 0, 1) := by decide +kernel
theorem dX3_change_87 : decode cX3_change 87 = .ok (.getfield 18, 3) := by decide +kernel
theorem dX3_change_90 : decode cX3_change 90 = .ok (.iload_n 1, 1) := by decide +kernel
theorem dX3_change_91 : decode cX3_change 91 = .ok (.iaload, 1) := by decide +kernel
theorem dX3_change_92 : decode cX3_change 92 = .ok (.ifCond .ne 11, 3) := by decide +kernel
theorem dX3_change_95 : decode cX3_change 95 = .ok (.aload_n 0, 1) := by decide +kernel
theorem dX3_change_96 : decode cX3_change 96 = .ok (.iload_n 1, 1) := by decide +kernel
theorem dX3_change_97 : decode cX3_change 97 = .ok (.invokevirtual 144, 3) := by decide +kernel
theorem dX3_change_100 : decode cX3_change 100 = .ok (.goto 5, 3) := by decide +kernel
theorem dX3_change_103 : decode cX3_change 103 = .ok (.bipush (-2), 2) := by decide +kernel
theorem dX3_change_105 : decode cX3_change 105 = .ok (.istore_n 2, 1) := by decide +kernel
theorem dX3_change_106 : decode cX3_change 106 = .ok (.iload_n 2, 1) := by decide +kernel
theorem dX3_change_107 : decode cX3_change 107 = .ok (.ifCond .lt 9, 3) := by decide +kernel
theorem dX3_change_110 : decode cX3_change 110 = .ok (.aload_n 0, 1) := by decide +kernel
theorem dX3_change_111 : decode cX3_change 111 = .ok (.iload_n 1, 1) := by decide +kernel
theorem dX3_change_112 : decode cX3_change 112 = .ok (.iload_n 2, 1) := by decide +kernel
theorem dX3_change_113 : decode cX3_change 113 = .ok (.invokevirtual 147, 3) := by decide +kernel
theorem dX3_change_116 : decode cX3_change 116 = .ok (.iinc 1 (-1), 3) := by decide +kernel
theorem dX3_change_119 : decode cX3_change 119 = .ok (.goto (-37), 3) := by decide +kernel
theorem dX3_change_122 : decode cX3_change 122 = .ok (.return_, 1) := by decide +kernel
theorem dX3_endAt_0 : decode cX3_endAt 0 = .ok (.aload_n 0, 1) := by decide +kernel
theorem dX3_endAt_1 : decode cX3_endAt 1 = .ok (.getfield 18, 3) := by decide +kernel
theorem dX3_endAt_4 : decode cX3_endAt 4 = .ok (.iload_n 1, 1) := by decide +kernel
theorem dX3_endAt_5 : decode cX3_endAt 5 = .ok (.iaload, 1) := by decide +kernel
theorem dX3_endAt_6 : decode cX3_endAt 6 = .ok (.ifCond .eq 16, 3) := by decide +kernel
theorem dX3_endAt_9 : decode cX3_endAt 9 = .ok (.aload_n 0, 1) := by decide +kernel
theorem dX3_endAt_10 : decode cX3_endAt 10 = .ok (.getfield 24, 3) := by decide +kernel
theorem dX3_endAt_13 : decode cX3_endAt 13 = .ok (.iload_n 1, 1) := by decide +kernel
theorem dX3_endAt_14 : decode cX3_endAt 14 = .ok (.iaload, 1) := by decide +kernel
theorem dX3_endAt_15 : decode cX3_endAt 15 = .ok (.aload_n 0, 1) := by decide +kernel
theorem dX3_endAt_16 : decode cX3_endAt 16 = .ok (.getfield 73, 3) := by decide +kernel
theorem dX3_endAt_19 : decode cX3_endAt 19 = .ok (.if_icmp .eq 4, 3) := by decide +kernel
theorem dX3_endAt_22 : decode cX3_endAt 22 = .ok (.return_, 1) := by decide +kernel
theorem dX3_endAt_23 : decode cX3_endAt 23 = .ok (.aload_n 0, 1) := by decide +kernel
theorem dX3_endAt_24 : decode cX3_endAt 24 = .ok (.getfield 18, 3) := by decide +kernel
theorem dX3_endAt_27 : decode cX3_endAt 27 = .ok (.iload_n 1, 1) := by decide +kernel
theorem dX3_endAt_28 : decode cX3_endAt 28 = .ok (.iaload, 1) := by decide +kernel
theorem dX3_endAt_29 : decode cX3_endAt 29 = .ok (.iconst 2, 1) := by decide +kernel
theorem dX3_endAt_30 : decode cX3_endAt 30 = .ok (.if_icmp .ne 11, 3) := by decide +kernel
theorem dX3_endAt_33 : decode cX3_endAt 33 = .ok (.aload_n 0, 1) := by decide +kernel
theorem dX3_endAt_34 : decode cX3_endAt 34 = .ok (.getfield 18, 3) := by decide +kernel
theorem dX3_endAt_37 : decode cX3_endAt 37 = .ok (.iload_n 1, 1) := by decide +kernel
theorem dX3_endAt_38 : decode cX3_endAt 38 = .ok (.iconst 0, 1) := by decide +kernel
theorem dX3_endAt_39 : decode cX3_endAt 39 = .ok (.iastore, 1) := by decide +kernel
theorem dX3_endAt_40 : decode cX3_endAt 40 = .ok (.return_, 1) := by decide +kernel
theorem dX3_endAt_41 : decode cX3_endAt 41 = .ok (.aload_n 0, 1) := by decide +kernel
theorem dX3_endAt_42 : decode cX3_endAt 42 = .ok (.getfield 21, 3) := by decide +kernel
theorem dX3_endAt_45 : decode cX3_endAt 45 = .ok (.iload_n 1, 1) := by decide +kernel
theorem dX3_endAt_46 : decode cX3_endAt 46 = .ok (.iaload, 1) := by decide +kernel
theorem dX3_endAt_47 : decode cX3_endAt 47 = .ok (.ifCond .lt 22, 3) := by decide +kernel
theorem dX3_endAt_50 : decode cX3_endAt 50 = .ok (.aload_n 0, 1) := by decide +kernel
theorem dX3_endAt_51 : decode cX3_endAt 51 = .ok (.getfield 9, 3) := by decide +kernel
theorem dX3_endAt_54 : decode cX3_endAt 54 = .ok (.iload_n 1, 1) := by decide +kernel
theorem dX3_endAt_55 : decode cX3_endAt 55 = .ok (.aload_n 0, 1) := by decide +kernel
theorem dX3_endAt_56 : decode cX3_endAt 56 = .ok (.getfield 21, 3) := by decide +kernel
theorem dX3_endAt_59 : decode cX3_endAt 59 = .ok (.iload_n 1, 1) := by decide +kernel
theorem dX3_endAt_60 : decode cX3_endAt 60 = .ok (.iaload, 1) := by decide +kernel
theorem dX3_endAt_61 : decode cX3_endAt 61 = .ok (.invokestatic 151, 3) := by decide +kernel
theorem dX3_endAt_64 : decode cX3_endAt 64 = .ok (.dup2, 1) := by decide +kernel
theorem dX3_endAt_65 : decode cX3_endAt 65 = .ok (.iaload, 1) := by decide +kernel
theorem dX3_endAt_66 : decode cX3_endAt 66 = .ok (.iconst 1, 1) := by decide +kernel
theorem dX3_endAt_67 : decode cX3_endAt 67 = .ok (.iadd, 1) := by decide +kernel
theorem dX3_endAt_68 : decode cX3_endAt 68 = .ok (.iastore, 1) := by decide +kernel
theorem dX3_endAt_69 : decode cX3_endAt 69 = .ok (.aload_n 0, 1) := by decide +kernel
theorem dX3_endAt_70 : decode cX3_endAt 70 = .ok (.getfield 27, 3) := by decide +kernel
theorem dX3_endAt_73 : decode cX3_endAt 73 = .ok (.iload_n 1, 1) := by decide +kernel
theorem dX3_endAt_74 : decode cX3_endAt 74 = .ok (.dup2, 1) := by decide +kernel
theorem dX3_endAt_75 : decode cX3_endAt 75 = .ok (.iaload, 1) := by decide +kernel
theorem dX3_endAt_76 : decode cX3_endAt 76 = .ok (.iconst 1, 1) := by decide +kernel
theorem dX3_endAt_77 : decode cX3_endAt 77 = .ok (.iadd, 1) := by decide +kernel
theorem dX3_endAt_78 : decode cX3_endAt 78 = .ok (.iastore, 1) := by decide +kernel
theorem dX3_endAt_79 : decode cX3_endAt 79 = .ok (.aload_n 0, 1) := by decide +kernel
theorem dX3_endAt_80 : decode cX3_endAt 80 = .ok (.getfield 18, 3) := by decide +kernel
theorem dX3_endAt_83 : decode cX3_endAt 83 = .ok (.iload_n 1, 1) := by decide +kernel
theorem dX3_endAt_84 : decode cX3_endAt 84 = .ok (.iconst 0, 1) := by decide +kernel
theorem dX3_endAt_85 : decode cX3_endAt 85 = .ok (.iastore, 1) := by decide +kernel
theorem dX3_endAt_86 : decode cX3_endAt 86 = .ok (.aload_n 0, 1) := by decide +kernel
theorem dX3_endAt_87 : decode cX3_endAt 87 = .ok (.getfield 48, 3) := by decide +kernel
theorem dX3_endAt_90 : decode cX3_endAt 90 = .ok (.getfield 154, 3) := by decide +kernel
theorem dX3_endAt_93 : decode cX3_endAt 93 = .ok (.iload_n 1, 1) := by decide +kernel
theorem dX3_endAt_94 : decode cX3_endAt 94 = .ok (.iaload, 1) := by decide +kernel
theorem dX3_endAt_95 : decode cX3_endAt 95 = .ok (.ifCond .le 51, 3) := by decide +kernel
theorem dX3_endAt_98 : decode cX3_endAt 98 = .ok (.aload_n 0, 1) := by decide +kernel
theorem dX3_endAt_99 : decode cX3_endAt 99 = .ok (.getfield 27, 3) := by decide +kernel
theorem dX3_endAt_102 : decode cX3_endAt 102 = .ok (.iload_n 1, 1) := by decide +kernel
theorem dX3_endAt_103 : decode cX3_endAt 103 = .ok (.iaload, 1) := by decide +kernel
theorem dX3_endAt_104 : decode cX3_endAt 104 = .ok (.aload_n 0, 1) := by decide +kernel
theorem dX3_endAt_105 : decode cX3_endAt 105 = .ok (.getfield 48, 3) := by decide +kernel
theorem dX3_endAt_108 : decode cX3_endAt 108 = .ok (.getfield 154, 3) := by decide +kernel
theorem dX3_endAt_111 : decode cX3_endAt 111 = .ok (.iload_n 1, 1) := by decide +kernel
theorem dX3_endAt_112 : decode cX3_endAt 112 = .ok (.iaload, 1) := by decide +kernel
theorem dX3_endAt_113 : decode cX3_endAt 113 = .ok (.invokestatic 128, 3) := by decide +kernel
theorem dX3_endAt_116 : decode cX3_endAt 116 = .ok (.ifCond .ne 30, 3) := by decide +kernel
theorem dX3_endAt_119 : decode cX3_endAt 119 = .ok (.aload_n 0, 1) := by decide +kernel
theorem dX3_endAt_120 : decode cX3_endAt 120 = .ok (.getfield 18, 3) := by decide +kernel
theorem dX3_endAt_123 : decode cX3_endAt 123 = .ok (.iload_n 1, 1) := by decide +kernel
theorem dX3_endAt_124 : decode cX3_endAt 124 = .ok (.iconst 2, 1) := by decide +kernel
theorem dX3_endAt_125 : decode cX3_endAt 125 = .ok (.iastore, 1) := by decide +kernel
theorem dX3_endAt_126 : decode cX3_endAt 126 = .ok (.aload_n 0, 1) := by decide +kernel
theorem dX3_endAt_127 : decode cX3_endAt 127 = .ok (.getfield 24, 3) := by decide +kernel
theorem dX3_endAt_130 : decode cX3_endAt 130 = .ok (.iload_n 1, 1) := by decide +kernel
theorem dX3_endAt_131 : decode cX3_endAt 131 = .ok (.aload_n 0, 1) := by decide +kernel
theorem dX3_endAt_132 : decode cX3_endAt 132 = .ok (.getfield 73, 3) := by decide +kernel
theorem dX3_endAt_135 : decode cX3_endAt 135 = .ok (.aload_n 0, 1) := by decide +kernel
theorem dX3_endAt_136 : decode cX3_endAt 136 = .ok (.getfield 48, 3) := by decide +kernel
theorem dX3_endAt_139 : decode cX3_endAt 139 = .ok (.getfield 157, 3) := by decide +kernel
theorem dX3_endAt_142 : decode cX3_endAt 142 = .ok (.iload_n 1, 1) := by decide +kernel
theorem dX3_endAt_143 : decode cX3_endAt 143 = .ok (.iaload, 1) := by decide +kernel
theorem dX3_endAt_144 : decode cX3_endAt 144 = .ok (.iadd, 1) := by decide +kernel
theorem dX3_endAt_145 : decode cX3_endAt 145 = .ok (.iastore, 1) := by decide +kernel
theorem dX3_endAt_146 : decode cX3_endAt 146 = .ok (.return_, 1) := by decide +kernel
theorem dX3_ageOrders_0 : decode cX3_ageOrders 0 = .ok (.iconst 0, 1) := by decide +kernel
theorem dX3_ageOrders_1 : decode cX3_ageOrders 1 = .ok (.istore_n 1, 1) := by decide +kernel
theorem dX3_ageOrders_2 : decode cX3_ageOrders 2 = .ok (.iload_n 1, 1) := by decide +kernel
theorem dX3_ageOrders_3 : decode cX3_ageOrders 3 = .ok (.aload_n 0, 1) := by decide +kernel
theorem dX3_ageOrders_4 : decode cX3_ageOrders 4 = .ok (.getfield 48, 3) := by decide +kernel
theorem dX3_ageOrders_7 : decode cX3_ageOrders 7 = .ok (.getfield 138, 3) := by decide +kernel
theorem dX3_ageOrders_10 : decode cX3_ageOrders 10 = .ok (.if_icmp .ge 24, 3) := by decide +kernel
theorem dX3_ageOrders_13 : decode cX3_ageOrders 13 = .ok (.aload_n 0, 1) := by decide +kernel
theorem dX3_ageOrders_14 : decode cX3_ageOrders 14 = .ok (.getfield 42, 3) := by decide +kernel
theorem dX3_ageOrders_17 : decode cX3_ageOrders 17 = .ok (.iload_n 1, 1) := by decide +kernel
theorem dX3_ageOrders_18 : decode cX3_ageOrders 18 = .ok (.dup2, 1) := by decide +kernel
theorem dX3_ageOrders_19 : decode cX3_ageOrders 19 = .ok (.iaload, 1) := by decide +kernel
theorem dX3_ageOrders_20 : decode cX3_ageOrders 20 = .ok (.aload_n 0, 1) := by decide +kernel
theorem dX3_ageOrders_21 : decode cX3_ageOrders 21 = .ok (.getfield 39, 3) := by decide +kernel
theorem dX3_ageOrders_24 : decode cX3_ageOrders 24 = .ok (.iload_n 1, 1) := by decide +kernel
theorem dX3_ageOrders_25 : decode cX3_ageOrders 25 = .ok (.iaload, 1) := by decide +kernel
theorem dX3_ageOrders_26 : decode cX3_ageOrders 26 = .ok (.iadd, 1) := by decide +kernel
theorem dX3_ageOrders_27 : decode cX3_ageOrders 27 = .ok (.iastore, 1) := by decide +kernel
theorem dX3_ageOrders_28 : decode cX3_ageOrders 28 = .ok (.iinc 1 1, 3) := by decide +kernel
theorem dX3_ageOrders_31 : decode cX3_ageOrders 31 = .ok (.goto (-29), 3) := by decide +kernel
theorem dX3_ageOrders_34 : decode cX3_ageOrders 34 = .ok (.return_, 1) := by decide +kernel
theorem dX3_takeOrder_0 : decode cX3_takeOrder 0 = .ok (.aload_n 0, 1) := by decide +kernel
theorem dX3_takeOrder_1 : decode cX3_takeOrder 1 = .ok (.getfield 73, 3) := by decide +kernel
theorem dX3_takeOrder_4 : decode cX3_takeOrder 4 = .ok (.aload_n 0, 1) := by decide +kernel
theorem dX3_takeOrder_5 : decode cX3_takeOrder 5 = .ok (.getfield 48, 3) := by decide +kernel
theorem dX3_takeOrder_8 : decode cX3_takeOrder 8 = .ok (.getfield 122, 3) := by decide +kernel
theorem dX3_takeOrder_11 : decode cX3_takeOrder 11 = .ok (.iload_n 1, 1) := by decide +kernel
theorem dX3_takeOrder_12 : decode cX3_takeOrder 12 = .ok (.iaload, 1) := by decide +kernel
theorem dX3_takeOrder_13 : decode cX3_takeOrder 13 = .ok (.isub, 1) := by decide +kernel
theorem dX3_takeOrder_14 : decode cX3_takeOrder 14 = .ok (.istore_n 2, 1) := by decide +kernel
theorem dX3_takeOrder_15 : decode cX3_takeOrder 15 = .ok (.iload_n 2, 1) := by decide +kernel
theorem dX3_takeOrder_16 : decode cX3_takeOrder 16 = .ok (.ifCond .lt 49, 3) := by decide +kernel
theorem dX3_takeOrder_19 : decode cX3_takeOrder 19 = .ok (.iload_n 2, 1) := by decide +kernel
theorem dX3_takeOrder_20 : decode cX3_takeOrder 20 = .ok (.aload_n 0, 1) := by decide +kernel
theorem dX3_takeOrder_21 : decode cX3_takeOrder 21 = .ok (.getfield 48, 3) := by decide +kernel
theorem dX3_takeOrder_24 : decode cX3_takeOrder 24 = .ok (.getfield 125, 3) := by decide +kernel
theorem dX3_takeOrder_27 : decode cX3_takeOrder 27 = .ok (.iload_n 1, 1) := by decide +kernel
theorem dX3_takeOrder_28 : decode cX3_takeOrder 28 = .ok (.iaload, 1) := by decide +kernel
theorem dX3_takeOrder_29 : decode cX3_takeOrder 29 = .ok (.invokestatic 128, 3) := by decide +kernel
theorem dX3_takeOrder_32 : decode cX3_takeOrder 32 = .ok (.ifCond .ne 33, 3) := by decide +kernel
theorem dX3_takeOrder_35 : decode cX3_takeOrder 35 = .ok (.aload_n 0, 1) := by decide +kernel
theorem dX3_takeOrder_36 : decode cX3_takeOrder 36 = .ok (.getfield 48, 3) := by decide +kernel
theorem dX3_takeOrder_39 : decode cX3_takeOrder 39 = .ok (.getfield 160, 3) := by decide +kernel
theorem dX3_takeOrder_42 : decode cX3_takeOrder 42 = .ok (.iload_n 1, 1) := by decide +kernel
theorem dX3_takeOrder_43 : decode cX3_takeOrder 43 = .ok (.iaload, 1) := by decide +kernel
theorem dX3_takeOrder_44 : decode cX3_takeOrder 44 = .ok (.istore_n 3, 1) := by decide +kernel
theorem dX3_takeOrder_45 : decode cX3_takeOrder 45 = .ok (.aload_n 0, 1) := by decide +kernel
theorem dX3_takeOrder_46 : decode cX3_takeOrder 46 = .ok (.getfield 36, 3) := by decide +kernel
theorem dX3_takeOrder_49 : decode cX3_takeOrder 49 = .ok (.iload_n 3, 1) := by decide +kernel
theorem dX3_takeOrder_50 : decode cX3_takeOrder 50 = .ok (.dup2, 1) := by decide +kernel
theorem dX3_takeOrder_51 : decode cX3_takeOrder 51 = .ok (.iaload, 1) := by decide +kernel
theorem dX3_takeOrder_52 : decode cX3_takeOrder 52 = .ok (.iconst 1, 1) := by decide +kernel
theorem dX3_takeOrder_53 : decode cX3_takeOrder 53 = .ok (.iadd, 1) := by decide +kernel
theorem dX3_takeOrder_54 : decode cX3_takeOrder 54 = .ok (.iastore, 1) := by decide +kernel
theorem dX3_takeOrder_55 : decode cX3_takeOrder 55 = .ok (.aload_n 0, 1) := by decide +kernel
theorem dX3_takeOrder_56 : decode cX3_takeOrder 56 = .ok (.getfield 39, 3) := by decide +kernel
theorem dX3_takeOrder_59 : decode cX3_takeOrder 59 = .ok (.iload_n 3, 1) := by decide +kernel
theorem dX3_takeOrder_60 : decode cX3_takeOrder 60 = .ok (.dup2, 1) := by decide +kernel
theorem dX3_takeOrder_61 : decode cX3_takeOrder 61 = .ok (.iaload, 1) := by decide +kernel
theorem dX3_takeOrder_62 : decode cX3_takeOrder 62 = .ok (.iconst 1, 1) := by decide +kernel
theorem dX3_takeOrder_63 : decode cX3_takeOrder 63 = .ok (.iadd, 1) := by decide +kernel
theorem dX3_takeOrder_64 : decode cX3_takeOrder 64 = .ok (.iastore, 1) := by decide +kernel
theorem dX3_takeOrder_65 : decode cX3_takeOrder 65 = .ok (.return_, 1) := by decide +kernel
theorem dX3_deliver_0 : decode cX3_deliver 0 = .ok (.aload_n 0, 1) := by decide +kernel
theorem dX3_deliver_1 : decode cX3_deliver 1 = .ok (.getfield 48, 3) := by decide +kernel
theorem dX3_deliver_4 : decode cX3_deliver 4 = .ok (.getfield 102, 3) := by decide +kernel
theorem dX3_deliver_7 : decode cX3_deliver 7 = .ok (.iconst 1, 1) := by decide +kernel
theorem dX3_deliver_8 : decode cX3_deliver 8 = .ok (.isub, 1) := by decide +kernel
theorem dX3_deliver_9 : decode cX3_deliver 9 = .ok (.iload_n 1, 1) := by decide +kernel
theorem dX3_deliver_10 : decode cX3_deliver 10 = .ok (.invokestatic 151, 3) := by decide +kernel
theorem dX3_deliver_13 : decode cX3_deliver 13 = .ok (.istore_n 2, 1) := by decide +kernel
theorem dX3_deliver_14 : decode cX3_deliver 14 = .ok (.iload_n 2, 1) := by decide +kernel
theorem dX3_deliver_15 : decode cX3_deliver 15 = .ok (.ifCond .lt 21, 3) := by decide +kernel
theorem dX3_deliver_18 : decode cX3_deliver 18 = .ok (.aload_n 0, 1) := by decide +kernel
theorem dX3_deliver_19 : decode cX3_deliver 19 = .ok (.getfield 39, 3) := by decide +kernel
theorem dX3_deliver_22 : decode cX3_deliver 22 = .ok (.iload_n 1, 1) := by decide +kernel
theorem dX3_deliver_23 : decode cX3_deliver 23 = .ok (.iaload, 1) := by decide +kernel
theorem dX3_deliver_24 : decode cX3_deliver 24 = .ok (.aload_n 0, 1) := by decide +kernel
theorem dX3_deliver_25 : decode cX3_deliver 25 = .ok (.getfield 9, 3) := by decide +kernel
theorem dX3_deliver_28 : decode cX3_deliver 28 = .ok (.iload_n 2, 1) := by decide +kernel
theorem dX3_deliver_29 : decode cX3_deliver 29 = .ok (.iaload, 1) := by decide +kernel
theorem dX3_deliver_30 : decode cX3_deliver 30 = .ok (.invokestatic 113, 3) := by decide +kernel
theorem dX3_deliver_33 : decode cX3_deliver 33 = .ok (.goto 4, 3) := by decide +kernel
theorem dX3_deliver_36 : decode cX3_deliver 36 = .ok (.iconst 0, 1) := by decide +kernel
theorem dX3_deliver_37 : decode cX3_deliver 37 = .ok (.istore_n 3, 1) := by decide +kernel
theorem dX3_deliver_38 : decode cX3_deliver 38 = .ok (.iload_n 3, 1) := by decide +kernel
theorem dX3_deliver_39 : decode cX3_deliver 39 = .ok (.ifCond .le 64, 3) := by decide +kernel
theorem dX3_deliver_42 : decode cX3_deliver 42 = .ok (.aload_n 0, 1) := by decide +kernel
theorem dX3_deliver_43 : decode cX3_deliver 43 = .ok (.getfield 39, 3) := by decide +kernel
theorem dX3_deliver_46 : decode cX3_deliver 46 = .ok (.iload_n 1, 1) := by decide +kernel
theorem dX3_deliver_47 : decode cX3_deliver 47 = .ok (.dup2, 1) := by decide +kernel
theorem dX3_deliver_48 : decode cX3_deliver 48 = .ok (.iaload, 1) := by decide +kernel
theorem dX3_deliver_49 : decode cX3_deliver 49 = .ok (.iload_n 3, 1) := by decide +kernel
theorem dX3_deliver_50 : decode cX3_deliver 50 = .ok (.isub, 1) := by decide +kernel
theorem dX3_deliver_51 : decode cX3_deliver 51 = .ok (.iastore, 1) := by decide +kernel
theorem dX3_deliver_52 : decode cX3_deliver 52 = .ok (.aload_n 0, 1) := by decide +kernel
theorem dX3_deliver_53 : decode cX3_deliver 53 = .ok (.getfield 9, 3) := by decide +kernel
theorem dX3_deliver_56 : decode cX3_deliver 56 = .ok (.iload_n 2, 1) := by decide +kernel
theorem dX3_deliver_57 : decode cX3_deliver 57 = .ok (.dup2, 1) := by decide +kernel
theorem dX3_deliver_58 : decode cX3_deliver 58 = .ok (.iaload, 1) := by decide +kernel
theorem dX3_deliver_59 : decode cX3_deliver 59 = .ok (.iload_n 3, 1) := by decide +kernel
theorem dX3_deliver_60 : decode cX3_deliver 60 = .ok (.isub, 1) := by decide +kernel
theorem dX3_deliver_61 : decode cX3_deliver 61 = .ok (.iastore, 1) := by decide +kernel
theorem dX3_deliver_62 : decode cX3_deliver 62 = .ok (.aload_n 0, 1) := by decide +kernel
theorem dX3_deliver_63 : decode cX3_deliver 63 = .ok (.getfield 15, 3) := by decide +kernel
theorem dX3_deliver_66 : decode cX3_deliver 66 = .ok (.iload_n 2, 1) := by decide +kernel
theorem dX3_deliver_67 : decode cX3_deliver 67 = .ok (.dup2, 1) := by decide +kernel
theorem dX3_deliver_68 : decode cX3_deliver 68 = .ok (.iaload, 1) := by decide +kernel
theorem dX3_deliver_69 : decode cX3_deliver 69 = .ok (.iload_n 3, 1) := by decide +kernel
theorem dX3_deliver_70 : decode cX3_deliver 70 = .ok (.isub, 1) := by decide +kernel
theorem dX3_deliver_71 : decode cX3_deliver 71 = .ok (.iastore, 1) := by decide +kernel
theorem dX3_deliver_72 : decode cX3_deliver 72 = .ok (.aload_n 0, 1) := by decide +kernel
theorem dX3_deliver_73 : decode cX3_deliver 73 = .ok (.dup, 1) := by decide +kernel
theorem dX3_deliver_74 : decode cX3_deliver 74 = .ok (.getfield 77, 3) := by decide +kernel
theorem dX3_deliver_77 : decode cX3_deliver 77 = .ok (.iload_n 3, 1) := by decide +kernel
theorem dX3_deliver_78 : decode cX3_deliver 78 = .ok (.iadd, 1) := by decide +kernel
theorem dX3_deliver_79 : decode cX3_deliver 79 = .ok (.putfield 77, 3) := by decide +kernel
theorem dX3_deliver_82 : decode cX3_deliver 82 = .ok (.aload_n 0, 1) := by decide +kernel
theorem dX3_deliver_83 : decode cX3_deliver 83 = .ok (.getfield 45, 3) := by decide +kernel
theorem dX3_deliver_86 : decode cX3_deliver 86 = .ok (.iload_n 1, 1) := by decide +kernel
theorem dX3_deliver_87 : decode cX3_deliver 87 = .ok (.iaload, 1) := by decide +kernel
theorem dX3_deliver_88 : decode cX3_deliver 88 = .ok (.bipush (-2), 2) := by decide +kernel
theorem dX3_deliver_90 : decode cX3_deliver 90 = .ok (.if_icmp .ne 13, 3) := by decide +kernel
theorem dX3_deliver_93 : decode cX3_deliver 93 = .ok (.aload_n 0, 1) := by decide +kernel
theorem dX3_deliver_94 : decode cX3_deliver 94 = .ok (.getfield 45, 3) := by decide +kernel
theorem dX3_deliver_97 : decode cX3_deliver 97 = .ok (.iload_n 1, 1) := by decide +kernel
theorem dX3_deliver_98 : decode cX3_deliver 98 = .ok (.aload_n 0, 1) := by decide +kernel
theorem dX3_deliver_99 : decode cX3_deliver 99 = .ok (.getfield 73, 3) := by decide +kernel
theorem dX3_deliver_102 : decode cX3_deliver 102 = .ok (.iastore, 1) := by decide +kernel
theorem dX3_deliver_103 : decode cX3_deliver 103 = .ok (.return_, 1) := by decide +kernel
theorem dX3_beginAt_0 : decode cX3_beginAt 0 = .ok (.iload_n 1, 1) := by decide +kernel
theorem dX3_beginAt_1 : decode cX3_beginAt 1 = .ok (.iload_n 2, 1) := by decide +kernel
theorem dX3_beginAt_2 : decode cX3_beginAt 2 = .ok (.invokestatic 151, 3) := by decide +kernel
theorem dX3_beginAt_5 : decode cX3_beginAt 5 = .ok (.istore_n 3, 1) := by decide +kernel
theorem dX3_beginAt_6 : decode cX3_beginAt 6 = .ok (.iload_n 1, 1) := by decide +kernel
theorem dX3_beginAt_7 : decode cX3_beginAt 7 = .ok (.ifCond .le 27, 3) := by decide +kernel
theorem dX3_beginAt_10 : decode cX3_beginAt 10 = .ok (.aload_n 0, 1) := by decide +kernel
theorem dX3_beginAt_11 : decode cX3_beginAt 11 = .ok (.getfield 9, 3) := by decide +kernel
theorem dX3_beginAt_14 : decode cX3_beginAt 14 = .ok (.iload_n 3, 1) := by decide +kernel
theorem dX3_beginAt_15 : decode cX3_beginAt 15 = .ok (.iconst 3, 1) := by decide +kernel
theorem dX3_beginAt_16 : decode cX3_beginAt 16 = .ok (.isub, 1) := by decide +kernel
theorem dX3_beginAt_17 : decode cX3_beginAt 17 = .ok (.dup2, 1) := by decide +kernel
theorem dX3_beginAt_18 : decode cX3_beginAt 18 = .ok (.iaload, 1) := by decide +kernel
theorem dX3_beginAt_19 : decode cX3_beginAt 19 = .ok (.iconst 1, 1) := by decide +kernel
theorem dX3_beginAt_20 : decode cX3_beginAt 20 = .ok (.isub, 1) := by decide +kernel
theorem dX3_beginAt_21 : decode cX3_beginAt 21 = .ok (.iastore, 1) := by decide +kernel
theorem dX3_beginAt_22 : decode cX3_beginAt 22 = .ok (.aload_n 0, 1) := by decide +kernel
theorem dX3_beginAt_23 : decode cX3_beginAt 23 = .ok (.getfield 15, 3) := by decide +kernel
theorem dX3_beginAt_26 : decode cX3_beginAt 26 = .ok (.iload_n 3, 1) := by decide +kernel
theorem dX3_beginAt_27 : decode cX3_beginAt 27 = .ok (.iconst 3, 1) := by decide +kernel
theorem dX3_beginAt_28 : decode cX3_beginAt 28 = .ok (.isub, 1) := by decide +kernel
theorem dX3_beginAt_29 : decode cX3_beginAt 29 = .ok (.dup2, 1) := by decide +kernel
theorem dX3_beginAt_30 : decode cX3_beginAt 30 = .ok (.iaload, 1) := by decide +kernel
theorem dX3_beginAt_31 : decode cX3_beginAt 31 = .ok (.iconst 1, 1) := by decide +kernel
theorem dX3_beginAt_32 : decode cX3_beginAt 32 = .ok (.isub, 1) := by decide +kernel
theorem dX3_beginAt_33 : decode cX3_beginAt 33 = .ok (.iastore, 1) := by decide +kernel
theorem dX3_beginAt_34 : decode cX3_beginAt 34 = .ok (.aload_n 0, 1) := by decide +kernel
theorem dX3_beginAt_35 : decode cX3_beginAt 35 = .ok (.getfield 15, 3) := by decide +kernel
theorem dX3_beginAt_38 : decode cX3_beginAt 38 = .ok (.iload_n 3, 1) := by decide +kernel
theorem dX3_beginAt_39 : decode cX3_beginAt 39 = .ok (.dup2, 1) := by decide +kernel
theorem dX3_beginAt_40 : decode cX3_beginAt 40 = .ok (.iaload, 1) := by decide +kernel
theorem dX3_beginAt_41 : decode cX3_beginAt 41 = .ok (.iconst 1, 1) := by decide +kernel
theorem dX3_beginAt_42 : decode cX3_beginAt 42 = .ok (.iadd, 1) := by decide +kernel
theorem dX3_beginAt_43 : decode cX3_beginAt 43 = .ok (.iastore, 1) := by decide +kernel
theorem dX3_beginAt_44 : decode cX3_beginAt 44 = .ok (.aload_n 0, 1) := by decide +kernel
theorem dX3_beginAt_45 : decode cX3_beginAt 45 = .ok (.getfield 21, 3) := by decide +kernel
theorem dX3_beginAt_48 : decode cX3_beginAt 48 = .ok (.iload_n 1, 1) := by decide +kernel
theorem dX3_beginAt_49 : decode cX3_beginAt 49 = .ok (.iaload, 1) := by decide +kernel
theorem dX3_beginAt_50 : decode cX3_beginAt 50 = .ok (.bipush (-2), 2) := by decide +kernel
theorem dX3_beginAt_52 : decode cX3_beginAt 52 = .ok (.if_icmp .eq 17, 3) := by decide +kernel
theorem dX3_beginAt_55 : decode cX3_beginAt 55 = .ok (.aload_n 0, 1) := by decide +kernel
theorem dX3_beginAt_56 : decode cX3_beginAt 56 = .ok (.getfield 21, 3) := by decide +kernel
theorem dX3_beginAt_59 : decode cX3_beginAt 59 = .ok (.iload_n 1, 1) := by decide +kernel
theorem dX3_beginAt_60 : decode cX3_beginAt 60 = .ok (.iaload, 1) := by decide +kernel
theorem dX3_beginAt_61 : decode cX3_beginAt 61 = .ok (.iload_n 2, 1) := by decide +kernel
theorem dX3_beginAt_62 : decode cX3_beginAt 62 = .ok (.if_icmp .eq 7, 3) := by decide +kernel
theorem dX3_beginAt_65 : decode cX3_beginAt 65 = .ok (.iconst 1, 1) := by decide +kernel
theorem dX3_beginAt_66 : decode cX3_beginAt 66 = .ok (.goto 4, 3) := by decide +kernel
theorem dX3_beginAt_69 : decode cX3_beginAt 69 = .ok (.iconst 0, 1) := by decide +kernel
theorem dX3_beginAt_70 : decode cX3_beginAt 70 = .ok (.istore 4, 2) := by decide +kernel
theorem dX3_beginAt_72 : decode cX3_beginAt 72 = .ok (.aload_n 0, 1) := by decide +kernel
theorem dX3_beginAt_73 : decode cX3_beginAt 73 = .ok (.getfield 24, 3) := by decide +kernel
theorem dX3_beginAt_76 : decode cX3_beginAt 76 = .ok (.iload_n 1, 1) := by decide +kernel
theorem dX3_beginAt_77 : decode cX3_beginAt 77 = .ok (.aload_n 0, 1) := by decide +kernel
theorem dX3_beginAt_78 : decode cX3_beginAt 78 = .ok (.getfield 73, 3) := by decide +kernel
theorem dX3_beginAt_81 : decode cX3_beginAt 81 = .ok (.aload_n 0, 1) := by decide +kernel
theorem dX3_beginAt_82 : decode cX3_beginAt 82 = .ok (.getfield 52, 3) := by decide +kernel
theorem dX3_beginAt_85 : decode cX3_beginAt 85 = .ok (.getfield 163, 3) := by decide +kernel
theorem dX3_beginAt_88 : decode cX3_beginAt 88 = .ok (.iload_n 3, 1) := by decide +kernel
theorem dX3_beginAt_89 : decode cX3_beginAt 89 = .ok (.iaload, 1) := by decide +kernel
theorem dX3_beginAt_90 : decode cX3_beginAt 90 = .ok (.iadd, 1) := by decide +kernel
theorem dX3_beginAt_91 : decode cX3_beginAt 91 = .ok (.iload 4, 2) := by decide +kernel
theorem dX3_beginAt_93 : decode cX3_beginAt 93 = .ok (.ifCond .eq 15, 3) := by decide +kernel
theorem dX3_beginAt_96 : decode cX3_beginAt 96 = .ok (.aload_n 0, 1) := by decide +kernel
theorem dX3_beginAt_97 : decode cX3_beginAt 97 = .ok (.getfield 48, 3) := by decide +kernel
theorem dX3_beginAt_100 : decode cX3_beginAt 100 = .ok (.getfield 166, 3) := by decide +kernel
theorem dX3_beginAt_103 : decode cX3_beginAt 103 = .ok (.iload_n 1, 1) := by decide +kernel
theorem dX3_beginAt_104 : decode cX3_beginAt 104 = .ok (.iaload, 1) := by decide +kernel
theorem dX3_beginAt_105 : decode cX3_beginAt 105 = .ok (.goto 4, 3) := by decide +kernel
theorem dX3_beginAt_108 : decode cX3_beginAt 108 = .ok (.iconst 0, 1) := by decide +kernel
theorem dX3_beginAt_109 : decode cX3_beginAt 109 = .ok (.iadd, 1) := by decide +kernel
theorem dX3_beginAt_110 : decode cX3_beginAt 110 = .ok (.iastore, 1) := by decide +kernel
theorem dX3_beginAt_111 : decode cX3_beginAt 111 = .ok (.aload_n 0, 1) := by decide +kernel
theorem dX3_beginAt_112 : decode cX3_beginAt 112 = .ok (.getfield 18, 3) := by decide +kernel
theorem dX3_beginAt_115 : decode cX3_beginAt 115 = .ok (.iload_n 1, 1) := by decide +kernel
theorem dX3_beginAt_116 : decode cX3_beginAt 116 = .ok (.iconst 1, 1) := by decide +kernel
theorem dX3_beginAt_117 : decode cX3_beginAt 117 = .ok (.iastore, 1) := by decide +kernel
theorem dX3_beginAt_118 : decode cX3_beginAt 118 = .ok (.aload_n 0, 1) := by decide +kernel
theorem dX3_beginAt_119 : decode cX3_beginAt 119 = .ok (.getfield 21, 3) := by decide +kernel
theorem dX3_beginAt_122 : decode cX3_beginAt 122 = .ok (.iload_n 1, 1) := by decide +kernel
theorem dX3_beginAt_123 : decode cX3_beginAt 123 = .ok (.iload_n 2, 1) := by decide +kernel
theorem dX3_beginAt_124 : decode cX3_beginAt 124 = .ok (.iastore, 1) := by decide +kernel
theorem dX3_beginAt_125 : decode cX3_beginAt 125 = .ok (.return_, 1) := by decide +kernel
theorem dX3_chosen_0 : decode cX3_chosen 0 = .ok (.aload_n 0, 1) := by decide +kernel
theorem dX3_chosen_1 : decode cX3_chosen 1 = .ok (.getfield 52, 3) := by decide +kernel
theorem dX3_chosen_4 : decode cX3_chosen 4 = .ok (.getfield 169, 3) := by decide +kernel
theorem dX3_chosen_7 : decode cX3_chosen 7 = .ok (.iconst 2, 1) := by decide +kernel
theorem dX3_chosen_8 : decode cX3_chosen 8 = .ok (.if_icmp .ne 18, 3) := by decide +kernel
theorem dX3_chosen_11 : decode cX3_chosen 11 = .ok (.aload_n 0, 1) := by decide +kernel
theorem dX3_chosen_12 : decode cX3_chosen 12 = .ok (.getfield 21, 3) := by decide +kernel
theorem dX3_chosen_15 : decode cX3_chosen 15 = .ok (.iload_n 1, 1) := by decide +kernel
theorem dX3_chosen_16 : decode cX3_chosen 16 = .ok (.iaload, 1) := by decide +kernel
theorem dX3_chosen_17 : decode cX3_chosen 17 = .ok (.bipush (-2), 2) := by decide +kernel
theorem dX3_chosen_19 : decode cX3_chosen 19 = .ok (.if_icmp .eq 7, 3) := by decide +kernel
theorem dX3_chosen_22 : decode cX3_chosen 22 = .ok (.iconst 1, 1) := by decide +kernel
theorem dX3_chosen_23 : decode cX3_chosen 23 = .ok (.goto 4, 3) := by decide +kernel
theorem dX3_chosen_26 : decode cX3_chosen 26 = .ok (.iconst 0, 1) := by decide +kernel
theorem dX3_chosen_27 : decode cX3_chosen 27 = .ok (.istore_n 2, 1) := by decide +kernel
theorem dX3_chosen_28 : decode cX3_chosen 28 = .ok (.iload_n 2, 1) := by decide +kernel
theorem dX3_chosen_29 : decode cX3_chosen 29 = .ok (.ifCond .eq 14, 3) := by decide +kernel
theorem dX3_chosen_32 : decode cX3_chosen 32 = .ok (.aload_n 0, 1) := by decide +kernel
theorem dX3_chosen_33 : decode cX3_chosen 33 = .ok (.getfield 21, 3) := by decide +kernel
theorem dX3_chosen_36 : decode cX3_chosen 36 = .ok (.iload_n 1, 1) := by decide +kernel
theorem dX3_chosen_37 : decode cX3_chosen 37 = .ok (.iaload, 1) := by decide +kernel
theorem dX3_chosen_38 : decode cX3_chosen 38 = .ok (.iconst 1, 1) := by decide +kernel
theorem dX3_chosen_39 : decode cX3_chosen 39 = .ok (.iadd, 1) := by decide +kernel
theorem dX3_chosen_40 : decode cX3_chosen 40 = .ok (.goto 4, 3) := by decide +kernel
theorem dX3_chosen_43 : decode cX3_chosen 43 = .ok (.iconst 0, 1) := by decide +kernel
theorem dX3_chosen_44 : decode cX3_chosen 44 = .ok (.istore_n 3, 1) := by decide +kernel
theorem dX3_chosen_45 : decode cX3_chosen 45 = .ok (.bipush (-2), 2) := by decide +kernel
theorem dX3_chosen_47 : decode cX3_chosen 47 = .ok (.istore 4, 2) := by decide +kernel
theorem dX3_chosen_49 : decode cX3_chosen 49 = .ok (.iconst 0, 1) := by decide +kernel
theorem dX3_chosen_50 : decode cX3_chosen 50 = .ok (.istore 5, 2) := by decide +kernel
theorem dX3_chosen_52 : decode cX3_chosen 52 = .ok (.iconst 0, 1) := by decide +kernel
theorem dX3_chosen_53 : decode cX3_chosen 53 = .ok (.istore 6, 2) := by decide +kernel
theorem dX3_chosen_55 : decode cX3_chosen 55 = .ok (.iload 6, 2) := by decide +kernel
theorem dX3_chosen_57 : decode cX3_chosen 57 = .ok (.aload_n 0, 1) := by decide +kernel
theorem dX3_chosen_58 : decode cX3_chosen 58 = .ok (.getfield 48, 3) := by decide +kernel
theorem dX3_chosen_61 : decode cX3_chosen 61 = .ok (.getfield 138, 3) := by decide +kernel
theorem dX3_chosen_64 : decode cX3_chosen 64 = .ok (.if_icmp .ge 68, 3) := by decide +kernel
theorem dX3_chosen_67 : decode cX3_chosen 67 = .ok (.iload_n 3, 1) := by decide +kernel
theorem dX3_chosen_68 : decode cX3_chosen 68 = .ok (.iload 6, 2) := by decide +kernel
theorem dX3_chosen_70 : decode cX3_chosen 70 = .ok (.iadd, 1) := by decide +kernel
theorem dX3_chosen_71 : decode cX3_chosen 71 = .ok (.aload_n 0, 1) := by decide +kernel
theorem dX3_chosen_72 : decode cX3_chosen 72 = .ok (.getfield 48, 3) := by decide +kernel
theorem dX3_chosen_75 : decode cX3_chosen 75 = .ok (.getfield 138, 3) := by decide +kernel
theorem dX3_chosen_78 : decode cX3_chosen 78 = .ok (.invokestatic 128, 3) := by decide +kernel
theorem dX3_chosen_81 : decode cX3_chosen 81 = .ok (.istore 7, 2) := by decide +kernel
theorem dX3_chosen_83 : decode cX3_chosen 83 = .ok (.aload_n 0, 1) := by decide +kernel
theorem dX3_chosen_84 : decode cX3_chosen 84 = .ok (.iload_n 1, 1) := by decide +kernel
theorem dX3_chosen_85 : decode cX3_chosen 85 = .ok (.iload 7, 2) := by decide +kernel
theorem dX3_chosen_87 : decode cX3_chosen 87 = .ok (.invokevirtual 172, 3) := by decide +kernel
theorem dX3_chosen_90 : decode cX3_chosen 90 = .ok (.istore 8, 2) := by decide +kernel
theorem dX3_chosen_92 : decode cX3_chosen 92 = .ok (.iload 8, 2) := by decide +kernel
theorem dX3_chosen_94 : decode cX3_chosen 94 = .ok (.ifCond .le 17, 3) := by decide +kernel
theorem dX3_chosen_97 : decode cX3_chosen 97 = .ok (.aload_n 0, 1) := by decide +kernel
theorem dX3_chosen_98 : decode cX3_chosen 98 = .ok (.getfield 52, 3) := by decide +kernel
theorem dX3_chosen_101 : decode cX3_chosen 101 = .ok (.getfield 169, 3) := by decide +kernel
theorem dX3_chosen_104 : decode cX3_chosen 104 = .ok (.iconst 1, 1) := by decide +kernel
theorem dX3_chosen_105 : decode cX3_chosen 105 = .ok (.if_icmp .eq 6, 3) := by decide +kernel
theorem dX3_chosen_108 : decode cX3_chosen 108 = .ok (.iload 7, 2) := by decide +kernel
theorem dX3_chosen_110 : decode cX3_chosen 110 = .ok (.ireturn, 1) := by decide +kernel
theorem dX3_chosen_111 : decode cX3_chosen 111 = .ok (.iload 8, 2) := by decide +kernel
theorem dX3_chosen_113 : decode cX3_chosen 113 = .ok (.iload 5, 2) := by decide +kernel
theorem dX3_chosen_115 : decode cX3_chosen 115 = .ok (.if_icmp .le 11, 3) := by decide +kernel
theorem dX3_chosen_118 : decode cX3_chosen 118 = .ok (.iload 7, 2) := by decide +kernel
theorem dX3_chosen_120 : decode cX3_chosen 120 = .ok (.istore 4, 2) := by decide +kernel
theorem dX3_chosen_122 : decode cX3_chosen 122 = .ok (.iload 8, 2) := by decide +kernel
theorem dX3_chosen_124 : decode cX3_chosen 124 = .ok (.istore 5, 2) := by decide +kernel
theorem dX3_chosen_126 : decode cX3_chosen 126 = .ok (.iinc 6 1, 3) := by decide +kernel
theorem dX3_chosen_129 : decode cX3_chosen 129 = .ok (.goto (-74), 3) := by decide +kernel
theorem dX3_chosen_132 : decode cX3_chosen 132 = .ok (.iload 4, 2) := by decide +kernel
theorem dX3_chosen_134 : decode cX3_chosen 134 = .ok (.ireturn, 1) := by decide +kernel
theorem dX3_freeIfCan_0 : decode cX3_freeIfCan 0 = .ok (.iconst 3, 1) := by decide +kernel
theorem dX3_freeIfCan_1 : decode cX3_freeIfCan 1 = .ok (.iload_n 1, 1) := by decide +kernel
theorem dX3_freeIfCan_2 : decode cX3_freeIfCan 2 = .ok (.imul, 1) := by decide +kernel
theorem dX3_freeIfCan_3 : decode cX3_freeIfCan 3 = .ok (.iload_n 2, 1) := by decide +kernel
theorem dX3_freeIfCan_4 : decode cX3_freeIfCan 4 = .ok (.iadd, 1) := by decide +kernel
theorem dX3_freeIfCan_5 : decode cX3_freeIfCan 5 = .ok (.istore_n 3, 1) := by decide +kernel
theorem dX3_freeIfCan_6 : decode cX3_freeIfCan 6 = .ok (.iload_n 1, 1) := by decide +kernel
theorem dX3_freeIfCan_7 : decode cX3_freeIfCan 7 = .ok (.ifCond .le 16, 3) := by decide +kernel
theorem dX3_freeIfCan_10 : decode cX3_freeIfCan 10 = .ok (.aload_n 0, 1) := by decide +kernel
theorem dX3_freeIfCan_11 : decode cX3_freeIfCan 11 = .ok (.getfield 9, 3) := by decide +kernel
theorem dX3_freeIfCan_14 : decode cX3_freeIfCan 14 = .ok (.iload_n 3, 1) := by decide +kernel
theorem dX3_freeIfCan_15 : decode cX3_freeIfCan 15 = .ok (.iconst 3, 1) := by decide +kernel
theorem dX3_freeIfCan_16 : decode cX3_freeIfCan 16 = .ok (.isub, 1) := by decide +kernel
theorem dX3_freeIfCan_17 : decode cX3_freeIfCan 17 = .ok (.iaload, 1) := by decide +kernel
theorem dX3_freeIfCan_18 : decode cX3_freeIfCan 18 = .ok (.ifCond .gt 5, 3) := by decide +kernel
theorem dX3_freeIfCan_21 : decode cX3_freeIfCan 21 = .ok (.iconst 0, 1) := by decide +kernel
theorem dX3_freeIfCan_22 : decode cX3_freeIfCan 22 = .ok (.ireturn, 1) := by decide +kernel
theorem dX3_freeIfCan_23 : decode cX3_freeIfCan 23 = .ok (.aload_n 0, 1) := by decide +kernel
theorem dX3_freeIfCan_24 : decode cX3_freeIfCan 24 = .ok (.getfield 52, 3) := by decide +kernel
theorem dX3_freeIfCan_27 : decode cX3_freeIfCan 27 = .ok (.getfield 62, 3) := by decide +kernel
theorem dX3_freeIfCan_30 : decode cX3_freeIfCan 30 = .ok (.iload_n 3, 1) := by decide +kernel
theorem dX3_freeIfCan_31 : decode cX3_freeIfCan 31 = .ok (.iaload, 1) := by decide +kernel
theorem dX3_freeIfCan_32 : decode cX3_freeIfCan 32 = .ok (.aload_n 0, 1) := by decide +kernel
theorem dX3_freeIfCan_33 : decode cX3_freeIfCan 33 = .ok (.getfield 15, 3) := by decide +kernel
theorem dX3_freeIfCan_36 : decode cX3_freeIfCan 36 = .ok (.iload_n 3, 1) := by decide +kernel
theorem dX3_freeIfCan_37 : decode cX3_freeIfCan 37 = .ok (.iaload, 1) := by decide +kernel
theorem dX3_freeIfCan_38 : decode cX3_freeIfCan 38 = .ok (.isub, 1) := by decide +kernel
theorem dX3_freeIfCan_39 : decode cX3_freeIfCan 39 = .ok (.ireturn, 1) := by decide +kernel
theorem dX3_tallyMinute_0 : decode cX3_tallyMinute 0 = .ok (.iconst 0, 1) := by decide +kernel
theorem dX3_tallyMinute_1 : decode cX3_tallyMinute 1 = .ok (.istore_n 1, 1) := by decide +kernel
theorem dX3_tallyMinute_2 : decode cX3_tallyMinute 2 = .ok (.iload_n 1, 1) := by decide +kernel
theorem dX3_tallyMinute_3 : decode cX3_tallyMinute 3 = .ok (.aload_n 0, 1) := by decide +kernel
theorem dX3_tallyMinute_4 : decode cX3_tallyMinute 4 = .ok (.getfield 48, 3) := by decide +kernel
theorem dX3_tallyMinute_7 : decode cX3_tallyMinute 7 = .ok (.getfield 102, 3) := by decide +kernel
theorem dX3_tallyMinute_10 : decode cX3_tallyMinute 10 = .ok (.if_icmp .ge 88, 3) := by decide +kernel
theorem dX3_tallyMinute_13 : decode cX3_tallyMinute 13 = .ok (.aload_n 0, 1) := by decide +kernel
theorem dX3_tallyMinute_14 : decode cX3_tallyMinute 14 = .ok (.iload_n 1, 1) := by decide +kernel
theorem dX3_tallyMinute_15 : decode cX3_tallyMinute 15 = .ok (.invokevirtual 175, 3) := by decide +kernel
theorem dX3_tallyMinute_18 : decode cX3_tallyMinute 18 = .ok (.istore_n 2, 1) := by decide +kernel
theorem dX3_tallyMinute_19 : decode cX3_tallyMinute 19 = .ok (.aload_n 0, 1) := by decide +kernel
theorem dX3_tallyMinute_20 : decode cX3_tallyMinute 20 = .ok (.getfield 30, 3) := by decide +kernel
theorem dX3_tallyMinute_23 : decode cX3_tallyMinute 23 = .ok (.iconst 4, 1) := by decide +kernel
theorem dX3_tallyMinute_24 : decode cX3_tallyMinute 24 = .ok (.iload_n 1, 1) := by decide +kernel
theorem dX3_tallyMinute_25 : decode cX3_tallyMinute 25 = .ok (.imul, 1) := by decide +kernel
theorem dX3_tallyMinute_26 : decode cX3_tallyMinute 26 = .ok (.iload_n 2, 1) := by decide +kernel
theorem dX3_tallyMinute_27 : decode cX3_tallyMinute 27 = .ok (.iadd, 1) := by decide +kernel
theorem dX3_tallyMinute_28 : decode cX3_tallyMinute 28 = .ok (.dup2, 1) := by decide +kernel
theorem dX3_tallyMinute_29 : decode cX3_tallyMinute 29 = .ok (.iaload, 1) := by decide +kernel
theorem dX3_tallyMinute_30 : decode cX3_tallyMinute 30 = .ok (.iconst 1, 1) := by decide +kernel
theorem dX3_tallyMinute_31 : decode cX3_tallyMinute 31 = .ok (.iadd, 1) := by decide +kernel
theorem dX3_tallyMinute_32 : decode cX3_tallyMinute 32 = .ok (.iastore, 1) := by decide +kernel
theorem dX3_tallyMinute_33 : decode cX3_tallyMinute 33 = .ok (.aload_n 0, 1) := by decide +kernel
theorem dX3_tallyMinute_34 : decode cX3_tallyMinute 34 = .ok (.getfield 80, 3) := by decide +kernel
theorem dX3_tallyMinute_37 : decode cX3_tallyMinute 37 = .ok (.bipush (-2), 2) := by decide +kernel
theorem dX3_tallyMinute_39 : decode cX3_tallyMinute 39 = .ok (.if_icmp .eq 14, 3) := by decide +kernel
theorem dX3_tallyMinute_42 : decode cX3_tallyMinute 42 = .ok (.aload_n 0, 1) := by decide +kernel
theorem dX3_tallyMinute_43 : decode cX3_tallyMinute 43 = .ok (.getfield 80, 3) := by decide +kernel
theorem dX3_tallyMinute_46 : decode cX3_tallyMinute 46 = .ok (.aload_n 0, 1) := by decide +kernel
theorem dX3_tallyMinute_47 : decode cX3_tallyMinute 47 = .ok (.getfield 73, 3) := by decide +kernel
theorem dX3_tallyMinute_50 : decode cX3_tallyMinute 50 = .ok (.if_icmp .ne 7, 3) := by decide +kernel
theorem dX3_tallyMinute_53 : decode cX3_tallyMinute 53 = .ok (.iconst 1, 1) := by decide +kernel
theorem dX3_tallyMinute_54 : decode cX3_tallyMinute 54 = .ok (.goto 4, 3) := by decide +kernel
theorem dX3_tallyMinute_57 : decode cX3_tallyMinute 57 = .ok (.iconst 0, 1) := by decide +kernel
theorem dX3_tallyMinute_58 : decode cX3_tallyMinute 58 = .ok (.istore_n 3, 1) := by decide +kernel
theorem dX3_tallyMinute_59 : decode cX3_tallyMinute 59 = .ok (.iload_n 2, 1) := by decide +kernel
theorem dX3_tallyMinute_60 : decode cX3_tallyMinute 60 = .ok (.iconst 2, 1) := by decide +kernel
theorem dX3_tallyMinute_61 : decode cX3_tallyMinute 61 = .ok (.if_icmp .ne 31, 3) := by decide +kernel
theorem dX3_tallyMinute_64 : decode cX3_tallyMinute 64 = .ok (.aload_n 0, 1) := by decide +kernel
theorem dX3_tallyMinute_65 : decode cX3_tallyMinute 65 = .ok (.getfield 21, 3) := by decide +kernel
theorem dX3_tallyMinute_68 : decode cX3_tallyMinute 68 = .ok (.iload_n 1, 1) := by decide +kernel
theorem dX3_tallyMinute_69 : decode cX3_tallyMinute 69 = .ok (.iaload, 1) := by decide +kernel
theorem dX3_tallyMinute_70 : decode cX3_tallyMinute 70 = .ok (.bipush (-2), 2) := by decide +kernel
theorem dX3_tallyMinute_72 : decode cX3_tallyMinute 72 = .ok (.if_icmp .eq 20, 3) := by decide +kernel
theorem dX3_tallyMinute_75 : decode cX3_tallyMinute 75 = .ok (.iload_n 3, 1) := by decide +kernel
theorem dX3_tallyMinute_76 : decode cX3_tallyMinute 76 = .ok (.ifCond .eq 16, 3) := by decide +kernel
theorem dX3_tallyMinute_79 : decode cX3_tallyMinute 79 = .ok (.aload_n 0, 1) := by decide +kernel
theorem dX3_tallyMinute_80 : decode cX3_tallyMinute 80 = .ok (.aload_n 0, 1) := by decide +kernel
theorem dX3_tallyMinute_81 : decode cX3_tallyMinute 81 = .ok (.getfield 73, 3) := by decide +kernel
theorem dX3_tallyMinute_84 : decode cX3_tallyMinute 84 = .ok (.putfield 80, 3) := by decide +kernel
theorem dX3_tallyMinute_87 : decode cX3_tallyMinute 87 = .ok (.aload_n 0, 1) := by decide +kernel
theorem dX3_tallyMinute_88 : decode cX3_tallyMinute 88 = .ok (.iload_n 1, 1) := by decide +kernel
theorem dX3_tallyMinute_89 : decode cX3_tallyMinute 89 = .ok (.putfield 83, 3) := by decide +kernel
theorem dX3_tallyMinute_92 : decode cX3_tallyMinute 92 = .ok (.iinc 1 1, 3) := by decide +kernel
theorem dX3_tallyMinute_95 : decode cX3_tallyMinute 95 = .ok (.goto (-93), 3) := by decide +kernel
theorem dX3_tallyMinute_98 : decode cX3_tallyMinute 98 = .ok (.return_, 1) := by decide +kernel
theorem dX3_sortOf_0 : decode cX3_sortOf 0 = .ok (.aload_n 0, 1) := by decide +kernel
theorem dX3_sortOf_1 : decode cX3_sortOf 1 = .ok (.getfield 18, 3) := by decide +kernel
theorem dX3_sortOf_4 : decode cX3_sortOf 4 = .ok (.iload_n 1, 1) := by decide +kernel
theorem dX3_sortOf_5 : decode cX3_sortOf 5 = .ok (.iaload, 1) := by decide +kernel
theorem dX3_sortOf_6 : decode cX3_sortOf 6 = .ok (.ifCond .eq 19, 3) := by decide +kernel
theorem dX3_sortOf_9 : decode cX3_sortOf 9 = .ok (.aload_n 0, 1) := by decide +kernel
theorem dX3_sortOf_10 : decode cX3_sortOf 10 = .ok (.getfield 18, 3) := by decide +kernel
theorem dX3_sortOf_13 : decode cX3_sortOf 13 = .ok (.iload_n 1, 1) := by decide +kernel
theorem dX3_sortOf_14 : decode cX3_sortOf 14 = .ok (.iaload, 1) := by decide +kernel
theorem dX3_sortOf_15 : decode cX3_sortOf 15 = .ok (.iconst 1, 1) := by decide +kernel
theorem dX3_sortOf_16 : decode cX3_sortOf 16 = .ok (.if_icmp .ne 7, 3) := by decide +kernel
theorem dX3_sortOf_19 : decode cX3_sortOf 19 = .ok (.iconst 0, 1) := by decide +kernel
theorem dX3_sortOf_20 : decode cX3_sortOf 20 = .ok (.goto 4, 3) := by decide +kernel
theorem dX3_sortOf_23 : decode cX3_sortOf 23 = .ok (.iconst 1, 1) := by decide +kernel
theorem dX3_sortOf_24 : decode cX3_sortOf 24 = .ok (.ireturn, 1) := by decide +kernel
theorem dX3_sortOf_25 : decode cX3_sortOf 25 = .ok (.iconst 0, 1) := by decide +kernel
theorem dX3_sortOf_26 : decode cX3_sortOf 26 = .ok (.istore_n 2, 1) := by decide +kernel
theorem dX3_sortOf_27 : decode cX3_sortOf 27 = .ok (.iload_n 2, 1) := by decide +kernel
theorem dX3_sortOf_28 : decode cX3_sortOf 28 = .ok (.aload_n 0, 1) := by decide +kernel
theorem dX3_sortOf_29 : decode cX3_sortOf 29 = .ok (.getfield 48, 3) := by decide +kernel
theorem dX3_sortOf_32 : decode cX3_sortOf 32 = .ok (.getfield 138, 3) := by decide +kernel
theorem dX3_sortOf_35 : decode cX3_sortOf 35 = .ok (.if_icmp .ge 23, 3) := by decide +kernel
theorem dX3_sortOf_38 : decode cX3_sortOf 38 = .ok (.aload_n 0, 1) := by decide +kernel
theorem dX3_sortOf_39 : decode cX3_sortOf 39 = .ok (.iload_n 1, 1) := by decide +kernel
theorem dX3_sortOf_40 : decode cX3_sortOf 40 = .ok (.iload_n 2, 1) := by decide +kernel
theorem dX3_sortOf_41 : decode cX3_sortOf 41 = .ok (.invokestatic 151, 3) := by decide +kernel
theorem dX3_sortOf_44 : decode cX3_sortOf 44 = .ok (.invokevirtual 178, 3) := by decide +kernel
theorem dX3_sortOf_47 : decode cX3_sortOf 47 = .ok (.ifCond .le 5, 3) := by decide +kernel
theorem dX3_sortOf_50 : decode cX3_sortOf 50 = .ok (.iconst 2, 1) := by decide +kernel
theorem dX3_sortOf_51 : decode cX3_sortOf 51 = .ok (.ireturn, 1) := by decide +kernel
theorem dX3_sortOf_52 : decode cX3_sortOf 52 = .ok (.iinc 2 1, 3) := by decide +kernel
theorem dX3_sortOf_55 : decode cX3_sortOf 55 = .ok (.goto (-28), 3) := by decide +kernel
theorem dX3_sortOf_58 : decode cX3_sortOf 58 = .ok (.iconst 3, 1) := by decide +kernel
theorem dX3_sortOf_59 : decode cX3_sortOf 59 = .ok (.ireturn, 1) := by decide +kernel
theorem dX3_raisePeaks_0 : decode cX3_raisePeaks 0 = .ok (.iconst 0, 1) := by decide +kernel
theorem dX3_raisePeaks_1 : decode cX3_raisePeaks 1 = .ok (.istore_n 1, 1) := by decide +kernel
theorem dX3_raisePeaks_2 : decode cX3_raisePeaks 2 = .ok (.iload_n 1, 1) := by decide +kernel
theorem dX3_raisePeaks_3 : decode cX3_raisePeaks 3 = .ok (.aload_n 0, 1) := by decide +kernel
theorem dX3_raisePeaks_4 : decode cX3_raisePeaks 4 = .ok (.getfield 48, 3) := by decide +kernel
theorem dX3_raisePeaks_7 : decode cX3_raisePeaks 7 = .ok (.getfield 102, 3) := by decide +kernel
theorem dX3_raisePeaks_10 : decode cX3_raisePeaks 10 = .ok (.if_icmp .ge 29, 3) := by decide +kernel
theorem dX3_raisePeaks_13 : decode cX3_raisePeaks 13 = .ok (.aload_n 0, 1) := by decide +kernel
theorem dX3_raisePeaks_14 : decode cX3_raisePeaks 14 = .ok (.getfield 33, 3) := by decide +kernel
theorem dX3_raisePeaks_17 : decode cX3_raisePeaks 17 = .ok (.iload_n 1, 1) := by decide +kernel
theorem dX3_raisePeaks_18 : decode cX3_raisePeaks 18 = .ok (.aload_n 0, 1) := by decide +kernel
theorem dX3_raisePeaks_19 : decode cX3_raisePeaks 19 = .ok (.getfield 33, 3) := by decide +kernel
theorem dX3_raisePeaks_22 : decode cX3_raisePeaks 22 = .ok (.iload_n 1, 1) := by decide +kernel
theorem dX3_raisePeaks_23 : decode cX3_raisePeaks 23 = .ok (.iaload, 1) := by decide +kernel
theorem dX3_raisePeaks_24 : decode cX3_raisePeaks 24 = .ok (.aload_n 0, 1) := by decide +kernel
theorem dX3_raisePeaks_25 : decode cX3_raisePeaks 25 = .ok (.iload_n 1, 1) := by decide +kernel
theorem dX3_raisePeaks_26 : decode cX3_raisePeaks 26 = .ok (.invokevirtual 181, 3) := by decide +kernel
theorem dX3_raisePeaks_29 : decode cX3_raisePeaks 29 = .ok (.invokestatic 119, 3) := by decide +kernel
theorem dX3_raisePeaks_32 : decode cX3_raisePeaks 32 = .ok (.iastore, 1) := by decide +kernel
theorem dX3_raisePeaks_33 : decode cX3_raisePeaks 33 = .ok (.iinc 1 1, 3) := by decide +kernel
theorem dX3_raisePeaks_36 : decode cX3_raisePeaks 36 = .ok (.goto (-34), 3) := by decide +kernel
theorem dX3_raisePeaks_39 : decode cX3_raisePeaks 39 = .ok (.return_, 1) := by decide +kernel
theorem dX3_waresIn_0 : decode cX3_waresIn 0 = .ok (.iconst 0, 1) := by decide +kernel
theorem dX3_waresIn_1 : decode cX3_waresIn 1 = .ok (.istore_n 2, 1) := by decide +kernel
theorem dX3_waresIn_2 : decode cX3_waresIn 2 = .ok (.iconst 0, 1) := by decide +kernel
theorem dX3_waresIn_3 : decode cX3_waresIn 3 = .ok (.istore_n 3, 1) := by decide +kernel
theorem dX3_waresIn_4 : decode cX3_waresIn 4 = .ok (.iload_n 3, 1) := by decide +kernel
theorem dX3_waresIn_5 : decode cX3_waresIn 5 = .ok (.aload_n 0, 1) := by decide +kernel
theorem dX3_waresIn_6 : decode cX3_waresIn 6 = .ok (.getfield 48, 3) := by decide +kernel
theorem dX3_waresIn_9 : decode cX3_waresIn 9 = .ok (.getfield 138, 3) := by decide +kernel
theorem dX3_waresIn_12 : decode cX3_waresIn 12 = .ok (.if_icmp .ge 22, 3) := by decide +kernel
theorem dX3_waresIn_15 : decode cX3_waresIn 15 = .ok (.iload_n 2, 1) := by decide +kernel
theorem dX3_waresIn_16 : decode cX3_waresIn 16 = .ok (.aload_n 0, 1) := by decide +kernel
theorem dX3_waresIn_17 : decode cX3_waresIn 17 = .ok (.getfield 9, 3) := by decide +kernel
theorem dX3_waresIn_20 : decode cX3_waresIn 20 = .ok (.iload_n 1, 1) := by decide +kernel
theorem dX3_waresIn_21 : decode cX3_waresIn 21 = .ok (.iload_n 3, 1) := by decide +kernel
theorem dX3_waresIn_22 : decode cX3_waresIn 22 = .ok (.invokestatic 151, 3) := by decide +kernel
theorem dX3_waresIn_25 : decode cX3_waresIn 25 = .ok (.iaload, 1) := by decide +kernel
theorem dX3_waresIn_26 : decode cX3_waresIn 26 = .ok (.iadd, 1) := by decide +kernel
theorem dX3_waresIn_27 : decode cX3_waresIn 27 = .ok (.istore_n 2, 1) := by decide +kernel
theorem dX3_waresIn_28 : decode cX3_waresIn 28 = .ok (.iinc 3 1, 3) := by decide +kernel
theorem dX3_waresIn_31 : decode cX3_waresIn 31 = .ok (.goto (-27), 3) := by decide +kernel
theorem dX3_waresIn_34 : decode cX3_waresIn 34 = .ok (.iload_n 2, 1) := by decide +kernel
theorem dX3_waresIn_35 : decode cX3_waresIn 35 = .ok (.ireturn, 1) := by decide +kernel
theorem dX3_free_0 : decode cX3_free 0 = .ok (.iconst 0, 1) := by decide +kernel
theorem dX3_free_1 : decode cX3_free 1 = .ok (.aload_n 0, 1) := by decide +kernel
theorem dX3_free_2 : decode cX3_free 2 = .ok (.getfield 52, 3) := by decide +kernel
theorem dX3_free_5 : decode cX3_free 5 = .ok (.getfield 62, 3) := by decide +kernel
theorem dX3_free_8 : decode cX3_free 8 = .ok (.iload_n 1, 1) := by decide +kernel
theorem dX3_free_9 : decode cX3_free 9 = .ok (.iaload, 1) := by decide +kernel
theorem dX3_free_10 : decode cX3_free 10 = .ok (.aload_n 0, 1) := by decide +kernel
theorem dX3_free_11 : decode cX3_free 11 = .ok (.getfield 15, 3) := by decide +kernel
theorem dX3_free_14 : decode cX3_free 14 = .ok (.iload_n 1, 1) := by decide +kernel
theorem dX3_free_15 : decode cX3_free 15 = .ok (.iaload, 1) := by decide +kernel
theorem dX3_free_16 : decode cX3_free 16 = .ok (.isub, 1) := by decide +kernel
theorem dX3_free_17 : decode cX3_free 17 = .ok (.invokestatic 119, 3) := by decide +kernel
theorem dX3_free_20 : decode cX3_free 20 = .ok (.ireturn, 1) := by decide +kernel
theorem dX3_allHeld_0 : decode cX3_allHeld 0 = .ok (.iconst 0, 1) := by decide +kernel
theorem dX3_allHeld_1 : decode cX3_allHeld 1 = .ok (.istore_n 1, 1) := by decide +kernel
theorem dX3_allHeld_2 : decode cX3_allHeld 2 = .ok (.iconst 0, 1) := by decide +kernel
theorem dX3_allHeld_3 : decode cX3_allHeld 3 = .ok (.istore_n 2, 1) := by decide +kernel
theorem dX3_allHeld_4 : decode cX3_allHeld 4 = .ok (.iload_n 2, 1) := by decide +kernel
theorem dX3_allHeld_5 : decode cX3_allHeld 5 = .ok (.bipush 18, 2) := by decide +kernel
theorem dX3_allHeld_7 : decode cX3_allHeld 7 = .ok (.if_icmp .ge 18, 3) := by decide +kernel
theorem dX3_allHeld_10 : decode cX3_allHeld 10 = .ok (.iload_n 1, 1) := by decide +kernel
theorem dX3_allHeld_11 : decode cX3_allHeld 11 = .ok (.aload_n 0, 1) := by decide +kernel
theorem dX3_allHeld_12 : decode cX3_allHeld 12 = .ok (.getfield 15, 3) := by decide +kernel
theorem dX3_allHeld_15 : decode cX3_allHeld 15 = .ok (.iload_n 2, 1) := by decide +kernel
theorem dX3_allHeld_16 : decode cX3_allHeld 16 = .ok (.iaload, 1) := by decide +kernel
theorem dX3_allHeld_17 : decode cX3_allHeld 17 = .ok (.iadd, 1) := by decide +kernel
theorem dX3_allHeld_18 : decode cX3_allHeld 18 = .ok (.istore_n 1, 1) := by decide +kernel
theorem dX3_allHeld_19 : decode cX3_allHeld 19 = .ok (.iinc 2 1, 3) := by decide +kernel
theorem dX3_allHeld_22 : decode cX3_allHeld 22 = .ok (.goto (-18), 3) := by decide +kernel
theorem dX3_allHeld_25 : decode cX3_allHeld 25 = .ok (.iload_n 1, 1) := by decide +kernel
theorem dX3_allHeld_26 : decode cX3_allHeld 26 = .ok (.ireturn, 1) := by decide +kernel
theorem dX3_minutesLeft_0 : decode cX3_minutesLeft 0 = .ok (.aload_n 0, 1) := by decide +kernel
theorem dX3_minutesLeft_1 : decode cX3_minutesLeft 1 = .ok (.getfield 18, 3) := by decide +kernel
theorem dX3_minutesLeft_4 : decode cX3_minutesLeft 4 = .ok (.iload_n 1, 1) := by decide +kernel
theorem dX3_minutesLeft_5 : decode cX3_minutesLeft 5 = .ok (.iaload, 1) := by decide +kernel
theorem dX3_minutesLeft_6 : decode cX3_minutesLeft 6 = .ok (.ifCond .ne 7, 3) := by decide +kernel
theorem dX3_minutesLeft_9 : decode cX3_minutesLeft 9 = .ok (.iconst 0, 1) := by decide +kernel
theorem dX3_minutesLeft_10 : decode cX3_minutesLeft 10 = .ok (.goto 14, 3) := by decide +kernel
theorem dX3_minutesLeft_13 : decode cX3_minutesLeft 13 = .ok (.aload_n 0, 1) := by decide +kernel
theorem dX3_minutesLeft_14 : decode cX3_minutesLeft 14 = .ok (.getfield 24, 3) := by decide +kernel
theorem dX3_minutesLeft_17 : decode cX3_minutesLeft 17 = .ok (.iload_n 1, 1) := by decide +kernel
theorem dX3_minutesLeft_18 : decode cX3_minutesLeft 18 = .ok (.iaload, 1) := by decide +kernel
theorem dX3_minutesLeft_19 : decode cX3_minutesLeft 19 = .ok (.aload_n 0, 1) := by decide +kernel
theorem dX3_minutesLeft_20 : decode cX3_minutesLeft 20 = .ok (.getfield 73, 3) := by decide +kernel
theorem dX3_minutesLeft_23 : decode cX3_minutesLeft 23 = .ok (.isub, 1) := by decide +kernel
theorem dX3_minutesLeft_24 : decode cX3_minutesLeft 24 = .ok (.ireturn, 1) := by decide +kernel
theorem dX3_minutesOf_0 : decode cX3_minutesOf 0 = .ok (.aload_n 0, 1) := by decide +kernel
theorem dX3_minutesOf_1 : decode cX3_minutesOf 1 = .ok (.getfield 30, 3) := by decide +kernel
theorem dX3_minutesOf_4 : decode cX3_minutesOf 4 = .ok (.iconst 4, 1) := by decide +kernel
theorem dX3_minutesOf_5 : decode cX3_minutesOf 5 = .ok (.iload_n 1, 1) := by decide +kernel
theorem dX3_minutesOf_6 : decode cX3_minutesOf 6 = .ok (.imul, 1) := by decide +kernel
theorem dX3_minutesOf_7 : decode cX3_minutesOf 7 = .ok (.iload_n 2, 1) := by decide +kernel
theorem dX3_minutesOf_8 : decode cX3_minutesOf 8 = .ok (.iadd, 1) := by decide +kernel
theorem dX3_minutesOf_9 : decode cX3_minutesOf 9 = .ok (.iaload, 1) := by decide +kernel
theorem dX3_minutesOf_10 : decode cX3_minutesOf 10 = .ok (.ireturn, 1) := by decide +kernel
theorem dX3_busiestBench_0 : decode cX3_busiestBench 0 = .ok (.iconst 0, 1) := by decide +kernel
theorem dX3_busiestBench_1 : decode cX3_busiestBench 1 = .ok (.istore_n 1, 1) := by decide +kernel
theorem dX3_busiestBench_2 : decode cX3_busiestBench 2 = .ok (.iconst 1, 1) := by decide +kernel
theorem dX3_busiestBench_3 : decode cX3_busiestBench 3 = .ok (.istore_n 2, 1) := by decide +kernel
theorem dX3_busiestBench_4 : decode cX3_busiestBench 4 = .ok (.iload_n 2, 1) := by decide +kernel
theorem dX3_busiestBench_5 : decode cX3_busiestBench 5 = .ok (.aload_n 0, 1) := by decide +kernel
theorem dX3_busiestBench_6 : decode cX3_busiestBench 6 = .ok (.getfield 48, 3) := by decide +kernel
theorem dX3_busiestBench_9 : decode cX3_busiestBench 9 = .ok (.getfield 102, 3) := by decide +kernel
theorem dX3_busiestBench_12 : decode cX3_busiestBench 12 = .ok (.if_icmp .ge 26, 3) := by decide +kernel
theorem dX3_busiestBench_15 : decode cX3_busiestBench 15 = .ok (.aload_n 0, 1) := by decide +kernel
theorem dX3_busiestBench_16 : decode cX3_busiestBench 16 = .ok (.iload_n 2, 1) := by decide +kernel
theorem dX3_busiestBench_17 : decode cX3_busiestBench 17 = .ok (.iconst 0, 1) := by decide +kernel
theorem dX3_busiestBench_18 : decode cX3_busiestBench 18 = .ok (.invokevirtual 184, 3) := by decide +kernel
theorem dX3_busiestBench_21 : decode cX3_busiestBench 21 = .ok (.aload_n 0, 1) := by decide +kernel
theorem dX3_busiestBench_22 : decode cX3_busiestBench 22 = .ok (.iload_n 1, 1) := by decide +kernel
theorem dX3_busiestBench_23 : decode cX3_busiestBench 23 = .ok (.iconst 0, 1) := by decide +kernel
theorem dX3_busiestBench_24 : decode cX3_busiestBench 24 = .ok (.invokevirtual 184, 3) := by decide +kernel
theorem dX3_busiestBench_27 : decode cX3_busiestBench 27 = .ok (.if_icmp .le 5, 3) := by decide +kernel
theorem dX3_busiestBench_30 : decode cX3_busiestBench 30 = .ok (.iload_n 2, 1) := by decide +kernel
theorem dX3_busiestBench_31 : decode cX3_busiestBench 31 = .ok (.istore_n 1, 1) := by decide +kernel
theorem dX3_busiestBench_32 : decode cX3_busiestBench 32 = .ok (.iinc 2 1, 3) := by decide +kernel
theorem dX3_busiestBench_35 : decode cX3_busiestBench 35 = .ok (.goto (-31), 3) := by decide +kernel
theorem dX3_busiestBench_38 : decode cX3_busiestBench 38 = .ok (.iload_n 1, 1) := by decide +kernel
theorem dX3_busiestBench_39 : decode cX3_busiestBench 39 = .ok (.ireturn, 1) := by decide +kernel
theorem dX3_allStreamsBegun_0 : decode cX3_allStreamsBegun 0 = .ok (.iconst 0, 1) := by decide +kernel
theorem dX3_allStreamsBegun_1 : decode cX3_allStreamsBegun 1 = .ok (.istore_n 1, 1) := by decide +kernel
theorem dX3_allStreamsBegun_2 : decode cX3_allStreamsBegun 2 = .ok (.iload_n 1, 1) := by decide +kernel
theorem dX3_allStreamsBegun_3 : decode cX3_allStreamsBegun 3 = .ok (.aload_n 0, 1) := by decide +kernel
theorem dX3_allStreamsBegun_4 : decode cX3_allStreamsBegun 4 = .ok (.getfield 48, 3) := by decide +kernel
theorem dX3_allStreamsBegun_7 : decode cX3_allStreamsBegun 7 = .ok (.getfield 107, 3) := by decide +kernel
theorem dX3_allStreamsBegun_10 : decode cX3_allStreamsBegun 10 = .ok (.if_icmp .ge 27, 3) := by decide +kernel
theorem dX3_allStreamsBegun_13 : decode cX3_allStreamsBegun 13 = .ok (.aload_n 0, 1) := by decide +kernel
theorem dX3_allStreamsBegun_14 : decode cX3_allStreamsBegun 14 = .ok (.getfield 73, 3) := by decide +kernel
theorem dX3_allStreamsBegun_17 : decode cX3_allStreamsBegun 17 = .ok (.aload_n 0, 1) := by decide +kernel
theorem dX3_allStreamsBegun_18 : decode cX3_allStreamsBegun 18 = .ok (.getfield 48, 3) := by decide +kernel
theorem dX3_allStreamsBegun_21 : decode cX3_allStreamsBegun 21 = .ok (.getfield 122, 3) := by decide +kernel
theorem dX3_allStreamsBegun_24 : decode cX3_allStreamsBegun 24 = .ok (.iload_n 1, 1) := by decide +kernel
theorem dX3_allStreamsBegun_25 : decode cX3_allStreamsBegun 25 = .ok (.iaload, 1) := by decide +kernel
theorem dX3_allStreamsBegun_26 : decode cX3_allStreamsBegun 26 = .ok (.if_icmp .gt 5, 3) := by decide +kernel
theorem dX3_allStreamsBegun_29 : decode cX3_allStreamsBegun 29 = .ok (.iconst 0, 1) := by decide +kernel
theorem dX3_allStreamsBegun_30 : decode cX3_allStreamsBegun 30 = .ok (.ireturn, 1) := by decide +kernel
theorem dX3_allStreamsBegun_31 : decode cX3_allStreamsBegun 31 = .ok (.iinc 1 1, 3) := by decide +kernel
theorem dX3_allStreamsBegun_34 : decode cX3_allStreamsBegun 34 = .ok (.goto (-32), 3) := by decide +kernel
theorem dX3_allStreamsBegun_37 : decode cX3_allStreamsBegun 37 = .ok (.iconst 1, 1) := by decide +kernel
theorem dX3_allStreamsBegun_38 : decode cX3_allStreamsBegun 38 = .ok (.ireturn, 1) := by decide +kernel
theorem dX3_sign_0 : decode cX3_sign 0 = .ok (.iconst 0, 1) := by decide +kernel
theorem dX3_sign_1 : decode cX3_sign 1 = .ok (.istore_n 3, 1) := by decide +kernel
theorem dX3_sign_2 : decode cX3_sign 2 = .ok (.iload_n 3, 1) := by decide +kernel
theorem dX3_sign_3 : decode cX3_sign 3 = .ok (.iconst 5, 1) := by decide +kernel
theorem dX3_sign_4 : decode cX3_sign 4 = .ok (.if_icmp .ge 15, 3) := by decide +kernel
theorem dX3_sign_7 : decode cX3_sign 7 = .ok (.aload_n 1, 1) := by decide +kernel
theorem dX3_sign_8 : decode cX3_sign 8 = .ok (.iload_n 2, 1) := by decide +kernel
theorem dX3_sign_9 : decode cX3_sign 9 = .ok (.iload_n 3, 1) := by decide +kernel
theorem dX3_sign_10 : decode cX3_sign 10 = .ok (.iadd, 1) := by decide +kernel
theorem dX3_sign_11 : decode cX3_sign 11 = .ok (.lconst 0, 1) := by decide +kernel
theorem dX3_sign_12 : decode cX3_sign 12 = .ok (.lastore, 1) := by decide +kernel
theorem dX3_sign_13 : decode cX3_sign 13 = .ok (.iinc 3 1, 3) := by decide +kernel
theorem dX3_sign_16 : decode cX3_sign 16 = .ok (.goto (-14), 3) := by decide +kernel
theorem dX3_sign_19 : decode cX3_sign 19 = .ok (.iconst 0, 1) := by decide +kernel
theorem dX3_sign_20 : decode cX3_sign 20 = .ok (.istore_n 3, 1) := by decide +kernel
theorem dX3_sign_21 : decode cX3_sign 21 = .ok (.iload_n 3, 1) := by decide +kernel
theorem dX3_sign_22 : decode cX3_sign 22 = .ok (.aload_n 0, 1) := by decide +kernel
theorem dX3_sign_23 : decode cX3_sign 23 = .ok (.getfield 48, 3) := by decide +kernel
theorem dX3_sign_26 : decode cX3_sign 26 = .ok (.getfield 102, 3) := by decide +kernel
theorem dX3_sign_29 : decode cX3_sign 29 = .ok (.if_icmp .ge 37, 3) := by decide +kernel
theorem dX3_sign_32 : decode cX3_sign 32 = .ok (.aload_n 1, 1) := by decide +kernel
theorem dX3_sign_33 : decode cX3_sign 33 = .ok (.iload_n 2, 1) := by decide +kernel
theorem dX3_sign_34 : decode cX3_sign 34 = .ok (.iload_n 3, 1) := by decide +kernel
theorem dX3_sign_35 : decode cX3_sign 35 = .ok (.iconst 2, 1) := by decide +kernel
theorem dX3_sign_36 : decode cX3_sign 36 = .ok (.idiv, 1) := by decide +kernel
theorem dX3_sign_37 : decode cX3_sign 37 = .ok (.iadd, 1) := by decide +kernel
theorem dX3_sign_38 : decode cX3_sign 38 = .ok (.dup2, 1) := by decide +kernel
theorem dX3_sign_39 : decode cX3_sign 39 = .ok (.laload, 1) := by decide +kernel
theorem dX3_sign_40 : decode cX3_sign 40 = .ok (.aload_n 0, 1) := by decide +kernel
theorem dX3_sign_41 : decode cX3_sign 41 = .ok (.iload_n 3, 1) := by decide +kernel
theorem dX3_sign_42 : decode cX3_sign 42 = .ok (.invokevirtual 187, 3) := by decide +kernel
theorem dX3_sign_45 : decode cX3_sign 45 = .ok (.iload_n 3, 1) := by decide +kernel
theorem dX3_sign_46 : decode cX3_sign 46 = .ok (.iconst 2, 1) := by decide +kernel
theorem dX3_sign_47 : decode cX3_sign 47 = .ok (.irem, 1) := by decide +kernel
theorem dX3_sign_48 : decode cX3_sign 48 = .ok (.ifCond .ne 7, 3) := by decide +kernel
theorem dX3_sign_51 : decode cX3_sign 51 = .ok (.iconst 0, 1) := by decide +kernel
theorem dX3_sign_52 : decode cX3_sign 52 = .ok (.goto 5, 3) := by decide +kernel
theorem dX3_sign_55 : decode cX3_sign 55 = .ok (.bipush 32, 2) := by decide +kernel
theorem dX3_sign_57 : decode cX3_sign 57 = .ok (.lshl, 1) := by decide +kernel
theorem dX3_sign_58 : decode cX3_sign 58 = .ok (.lor, 1) := by decide +kernel
theorem dX3_sign_59 : decode cX3_sign 59 = .ok (.lastore, 1) := by decide +kernel
theorem dX3_sign_60 : decode cX3_sign 60 = .ok (.iinc 3 1, 3) := by decide +kernel
theorem dX3_sign_63 : decode cX3_sign 63 = .ok (.goto (-42), 3) := by decide +kernel
theorem dX3_sign_66 : decode cX3_sign 66 = .ok (.iconst 0, 1) := by decide +kernel
theorem dX3_sign_67 : decode cX3_sign 67 = .ok (.istore_n 3, 1) := by decide +kernel
theorem dX3_sign_68 : decode cX3_sign 68 = .ok (.iload_n 3, 1) := by decide +kernel
theorem dX3_sign_69 : decode cX3_sign 69 = .ok (.aload_n 0, 1) := by decide +kernel
theorem dX3_sign_70 : decode cX3_sign 70 = .ok (.getfield 48, 3) := by decide +kernel
theorem dX3_sign_73 : decode cX3_sign 73 = .ok (.getfield 138, 3) := by decide +kernel
theorem dX3_sign_76 : decode cX3_sign 76 = .ok (.if_icmp .ge 30, 3) := by decide +kernel
theorem dX3_sign_79 : decode cX3_sign 79 = .ok (.aload_n 1, 1) := by decide +kernel
theorem dX3_sign_80 : decode cX3_sign 80 = .ok (.iload_n 2, 1) := by decide +kernel
theorem dX3_sign_81 : decode cX3_sign 81 = .ok (.iconst 3, 1) := by decide +kernel
theorem dX3_sign_82 : decode cX3_sign 82 = .ok (.iadd, 1) := by decide +kernel
theorem dX3_sign_83 : decode cX3_sign 83 = .ok (.aload_n 1, 1) := by decide +kernel
theorem dX3_sign_84 : decode cX3_sign 84 = .ok (.iload_n 2, 1) := by decide +kernel
theorem dX3_sign_85 : decode cX3_sign 85 = .ok (.iconst 3, 1) := by decide +kernel
theorem dX3_sign_86 : decode cX3_sign 86 = .ok (.iadd, 1) := by decide +kernel
theorem dX3_sign_87 : decode cX3_sign 87 = .ok (.laload, 1) := by decide +kernel
theorem dX3_sign_88 : decode cX3_sign 88 = .ok (.bipush 20, 2) := by decide +kernel
theorem dX3_sign_90 : decode cX3_sign 90 = .ok (.lshl, 1) := by decide +kernel
theorem dX3_sign_91 : decode cX3_sign 91 = .ok (.aload_n 0, 1) := by decide +kernel
theorem dX3_sign_92 : decode cX3_sign 92 = .ok (.getfield 39, 3) := by decide +kernel
theorem dX3_sign_95 : decode cX3_sign 95 = .ok (.iload_n 3, 1) := by decide +kernel
theorem dX3_sign_96 : decode cX3_sign 96 = .ok (.iaload, 1) := by decide +kernel
theorem dX3_sign_97 : decode cX3_sign 97 = .ok (.i2l, 1) := by decide +kernel
theorem dX3_sign_98 : decode cX3_sign 98 = .ok (.ladd, 1) := by decide +kernel
theorem dX3_sign_99 : decode cX3_sign 99 = .ok (.lastore, 1) := by decide +kernel
theorem dX3_sign_100 : decode cX3_sign 100 = .ok (.iinc 3 1, 3) := by decide +kernel
theorem dX3_sign_103 : decode cX3_sign 103 = .ok (.goto (-35), 3) := by decide +kernel
theorem dX3_sign_106 : decode cX3_sign 106 = .ok (.iconst 0, 1) := by decide +kernel
theorem dX3_sign_107 : decode cX3_sign 107 = .ok (.istore_n 3, 1) := by decide +kernel
theorem dX3_sign_108 : decode cX3_sign 108 = .ok (.iload_n 3, 1) := by decide +kernel
theorem dX3_sign_109 : decode cX3_sign 109 = .ok (.aload_n 0, 1) := by decide +kernel
theorem dX3_sign_110 : decode cX3_sign 110 = .ok (.getfield 48, 3) := by decide +kernel
theorem dX3_sign_113 : decode cX3_sign 113 = .ok (.getfield 107, 3) := by decide +kernel
theorem dX3_sign_116 : decode cX3_sign 116 = .ok (.if_icmp .ge 34, 3) := by decide +kernel
theorem dX3_sign_119 : decode cX3_sign 119 = .ok (.aload_n 1, 1) := by decide +kernel
theorem dX3_sign_120 : decode cX3_sign 120 = .ok (.iload_n 2, 1) := by decide +kernel
theorem dX3_sign_121 : decode cX3_sign 121 = .ok (.iconst 4, 1) := by decide +kernel
theorem dX3_sign_122 : decode cX3_sign 122 = .ok (.iadd, 1) := by decide +kernel
theorem dX3_sign_123 : decode cX3_sign 123 = .ok (.aload_n 1, 1) := by decide +kernel
theorem dX3_sign_124 : decode cX3_sign 124 = .ok (.iload_n 2, 1) := by decide +kernel
theorem dX3_sign_125 : decode cX3_sign 125 = .ok (.iconst 4, 1) := by decide +kernel
theorem dX3_sign_126 : decode cX3_sign 126 = .ok (.iadd, 1) := by decide +kernel
theorem dX3_sign_127 : decode cX3_sign 127 = .ok (.laload, 1) := by decide +kernel
theorem dX3_sign_128 : decode cX3_sign 128 = .ok (.bipush 10, 2) := by decide +kernel
theorem dX3_sign_130 : decode cX3_sign 130 = .ok (.lshl, 1) := by decide +kernel
theorem dX3_sign_131 : decode cX3_sign 131 = .ok (.aload_n 0, 1) := by decide +kernel
theorem dX3_sign_132 : decode cX3_sign 132 = .ok (.iload_n 3, 1) := by decide +kernel
theorem dX3_sign_133 : decode cX3_sign 133 = .ok (.invokevirtual 110, 3) := by decide +kernel
theorem dX3_sign_136 : decode cX3_sign 136 = .ok (.aload_n 0, 1) := by decide +kernel
theorem dX3_sign_137 : decode cX3_sign 137 = .ok (.getfield 73, 3) := by decide +kernel
theorem dX3_sign_140 : decode cX3_sign 140 = .ok (.isub, 1) := by decide +kernel
theorem dX3_sign_141 : decode cX3_sign 141 = .ok (.i2l, 1) := by decide +kernel
theorem dX3_sign_142 : decode cX3_sign 142 = .ok (.ladd, 1) := by decide +kernel
theorem dX3_sign_143 : decode cX3_sign 143 = .ok (.lastore, 1) := by decide +kernel
theorem dX3_sign_144 : decode cX3_sign 144 = .ok (.iinc 3 1, 3) := by decide +kernel
theorem dX3_sign_147 : decode cX3_sign 147 = .ok (.goto (-39), 3) := by decide +kernel
theorem dX3_sign_150 : decode cX3_sign 150 = .ok (.return_, 1) := by decide +kernel
theorem dX3_signOfBench_0 : decode cX3_signOfBench 0 = .ok (.aload_n 0, 1) := by decide +kernel
theorem dX3_signOfBench_1 : decode cX3_signOfBench 1 = .ok (.getfield 18, 3) := by decide +kernel
theorem dX3_signOfBench_4 : decode cX3_signOfBench 4 = .ok (.iload_n 1, 1) := by decide +kernel
theorem dX3_signOfBench_5 : decode cX3_signOfBench 5 = .ok (.iaload, 1) := by decide +kernel
theorem dX3_signOfBench_6 : decode cX3_signOfBench 6 = .ok (.i2l, 1) := by decide +kernel
theorem dX3_signOfBench_7 : decode cX3_signOfBench 7 = .ok (.lstore_n 2, 1) := by decide +kernel
theorem dX3_signOfBench_8 : decode cX3_signOfBench 8 = .ok (.lload_n 2, 1) := by decide +kernel
theorem dX3_signOfBench_9 : decode cX3_signOfBench 9 = .ok (.iconst 2, 1) := by decide +kernel
theorem dX3_signOfBench_10 : decode cX3_signOfBench 10 = .ok (.lshl, 1) := by decide +kernel
theorem dX3_signOfBench_11 : decode cX3_signOfBench 11 = .ok (.aload_n 0, 1) := by decide +kernel
theorem dX3_signOfBench_12 : decode cX3_signOfBench 12 = .ok (.getfield 21, 3) := by decide +kernel
theorem dX3_signOfBench_15 : decode cX3_signOfBench 15 = .ok (.iload_n 1, 1) := by decide +kernel
theorem dX3_signOfBench_16 : decode cX3_signOfBench 16 = .ok (.iaload, 1) := by decide +kernel
theorem dX3_signOfBench_17 : decode cX3_signOfBench 17 = .ok (.bipush (-2), 2) := by decide +kernel
theorem dX3_signOfBench_19 : decode cX3_signOfBench 19 = .ok (.if_icmp .ne 7, 3) := by decide +kernel
theorem dX3_signOfBench_22 : decode cX3_signOfBench 22 = .ok (.iconst 3, 1) := by decide +kernel
theorem dX3_signOfBench_23 : decode cX3_signOfBench 23 = .ok (.goto 9, 3) := by decide +kernel
theorem dX3_signOfBench_26 : decode cX3_signOfBench 26 = .ok (.aload_n 0, 1) := by decide +kernel
theorem dX3_signOfBench_27 : decode cX3_signOfBench 27 = .ok (.getfield 21, 3) := by decide +kernel
theorem dX3_signOfBench_30 : decode cX3_signOfBench 30 = .ok (.iload_n 1, 1) := by decide +kernel
theorem dX3_signOfBench_31 : decode cX3_signOfBench 31 = .ok (.iaload, 1) := by decide +kernel
theorem dX3_signOfBench_32 : decode cX3_signOfBench 32 = .ok (.i2l, 1) := by decide +kernel
theorem dX3_signOfBench_33 : decode cX3_signOfBench 33 = .ok (.ladd, 1) := by decide +kernel
theorem dX3_signOfBench_34 : decode cX3_signOfBench 34 = .ok (.lstore_n 2, 1) := by decide +kernel
theorem dX3_signOfBench_35 : decode cX3_signOfBench 35 = .ok (.lload_n 2, 1) := by decide +kernel
theorem dX3_signOfBench_36 : decode cX3_signOfBench 36 = .ok (.bipush 7, 2) := by decide +kernel
theorem dX3_signOfBench_38 : decode cX3_signOfBench 38 = .ok (.lshl, 1) := by decide +kernel
theorem dX3_signOfBench_39 : decode cX3_signOfBench 39 = .ok (.aload_n 0, 1) := by decide +kernel
theorem dX3_signOfBench_40 : decode cX3_signOfBench 40 = .ok (.iload_n 1, 1) := by decide +kernel
theorem dX3_signOfBench_41 : decode cX3_signOfBench 41 = .ok (.invokevirtual 191, 3) := by decide +kernel
theorem dX3_signOfBench_44 : decode cX3_signOfBench 44 = .ok (.i2l, 1) := by decide +kernel
theorem dX3_signOfBench_45 : decode cX3_signOfBench 45 = .ok (.ladd, 1) := by decide +kernel
theorem dX3_signOfBench_46 : decode cX3_signOfBench 46 = .ok (.lstore_n 2, 1) := by decide +kernel
theorem dX3_signOfBench_47 : decode cX3_signOfBench 47 = .ok (.lload_n 2, 1) := by decide +kernel
theorem dX3_signOfBench_48 : decode cX3_signOfBench 48 = .ok (.bipush 7, 2) := by decide +kernel
theorem dX3_signOfBench_50 : decode cX3_signOfBench 50 = .ok (.lshl, 1) := by decide +kernel
theorem dX3_signOfBench_51 : decode cX3_signOfBench 51 = .ok (.aload_n 0, 1) := by decide +kernel
theorem dX3_signOfBench_52 : decode cX3_signOfBench 52 = .ok (.getfield 27, 3) := by decide +kernel
theorem dX3_signOfBench_55 : decode cX3_signOfBench 55 = .ok (.iload_n 1, 1) := by decide +kernel
theorem dX3_signOfBench_56 : decode cX3_signOfBench 56 = .ok (.iaload, 1) := by decide +kernel
theorem dX3_signOfBench_57 : decode cX3_signOfBench 57 = .ok (.aload_n 0, 1) := by decide +kernel
theorem dX3_signOfBench_58 : decode cX3_signOfBench 58 = .ok (.getfield 48, 3) := by decide +kernel
theorem dX3_signOfBench_61 : decode cX3_signOfBench 61 = .ok (.getfield 154, 3) := by decide +kernel
theorem dX3_signOfBench_64 : decode cX3_signOfBench 64 = .ok (.iload_n 1, 1) := by decide +kernel
theorem dX3_signOfBench_65 : decode cX3_signOfBench 65 = .ok (.iaload, 1) := by decide +kernel
theorem dX3_signOfBench_66 : decode cX3_signOfBench 66 = .ok (.invokestatic 128, 3) := by decide +kernel
theorem dX3_signOfBench_69 : decode cX3_signOfBench 69 = .ok (.i2l, 1) := by decide +kernel
theorem dX3_signOfBench_70 : decode cX3_signOfBench 70 = .ok (.ladd, 1) := by decide +kernel
theorem dX3_signOfBench_71 : decode cX3_signOfBench 71 = .ok (.lstore_n 2, 1) := by decide +kernel
theorem dX3_signOfBench_72 : decode cX3_signOfBench 72 = .ok (.iconst 0, 1) := by decide +kernel
theorem dX3_signOfBench_73 : decode cX3_signOfBench 73 = .ok (.istore 4, 2) := by decide +kernel
theorem dX3_signOfBench_75 : decode cX3_signOfBench 75 = .ok (.iload 4, 2) := by decide +kernel
theorem dX3_signOfBench_77 : decode cX3_signOfBench 77 = .ok (.iconst 3, 1) := by decide +kernel
theorem dX3_signOfBench_78 : decode cX3_signOfBench 78 = .ok (.if_icmp .ge 26, 3) := by decide +kernel
theorem dX3_signOfBench_81 : decode cX3_signOfBench 81 = .ok (.lload_n 2, 1) := by decide +kernel
theorem dX3_signOfBench_82 : decode cX3_signOfBench 82 = .ok (.iconst 4, 1) := by decide +kernel
theorem dX3_signOfBench_83 : decode cX3_signOfBench 83 = .ok (.lshl, 1) := by decide +kernel
theorem dX3_signOfBench_84 : decode cX3_signOfBench 84 = .ok (.aload_n 0, 1) := by decide +kernel
theorem dX3_signOfBench_85 : decode cX3_signOfBench 85 = .ok (.getfield 9, 3) := by decide +kernel
theorem dX3_signOfBench_88 : decode cX3_signOfBench 88 = .ok (.iload_n 1, 1) := by decide +kernel
theorem dX3_signOfBench_89 : decode cX3_signOfBench 89 = .ok (.iload 4, 2) := by decide +kernel
theorem dX3_signOfBench_91 : decode cX3_signOfBench 91 = .ok (.invokestatic 151, 3) := by decide +kernel
theorem dX3_signOfBench_94 : decode cX3_signOfBench 94 = .ok (.iaload, 1) := by decide +kernel
theorem dX3_signOfBench_95 : decode cX3_signOfBench 95 = .ok (.i2l, 1) := by decide +kernel
theorem dX3_signOfBench_96 : decode cX3_signOfBench 96 = .ok (.ladd, 1) := by decide +kernel
theorem dX3_signOfBench_97 : decode cX3_signOfBench 97 = .ok (.lstore_n 2, 1) := by decide +kernel
theorem dX3_signOfBench_98 : decode cX3_signOfBench 98 = .ok (.iinc 4 1, 3) := by decide +kernel
theorem dX3_signOfBench_101 : decode cX3_signOfBench 101 = .ok (.goto (-26), 3) := by decide +kernel
theorem dX3_signOfBench_104 : decode cX3_signOfBench 104 = .ok (.lload_n 2, 1) := by decide +kernel
theorem dX3_signOfBench_105 : decode cX3_signOfBench 105 = .ok (.lreturn, 1) := by decide +kernel
theorem dX4_tried_0 : decode cX4_tried 0 = .ok (.aload_n 0, 1) := by decide +kernel
theorem dX4_tried_1 : decode cX4_tried 1 = .ok (.getfield 30, 3) := by decide +kernel
theorem dX4_tried_4 : decode cX4_tried 4 = .ok (.iconst 0, 1) := by decide +kernel
theorem dX4_tried_5 : decode cX4_tried 5 = .ok (.invokevirtual 34, 3) := by decide +kernel
theorem dX4_tried_8 : decode cX4_tried 8 = .ok (.aload_n 0, 1) := by decide +kernel
theorem dX4_tried_9 : decode cX4_tried 9 = .ok (.getfield 30, 3) := by decide +kernel
theorem dX4_tried_12 : decode cX4_tried 12 = .ok (.iload_n 1, 1) := by decide +kernel
theorem dX4_tried_13 : decode cX4_tried 13 = .ok (.invokevirtual 38, 3) := by decide +kernel
theorem dX4_tried_16 : decode cX4_tried 16 = .ok (.aload_n 0, 1) := by decide +kernel
theorem dX4_tried_17 : decode cX4_tried 17 = .ok (.getfield 30, 3) := by decide +kernel
theorem dX4_tried_20 : decode cX4_tried 20 = .ok (.getfield 42, 3) := by decide +kernel
theorem dX4_tried_23 : decode cX4_tried 23 = .ok (.ireturn, 1) := by decide +kernel
theorem dX4_asNow_0 : decode cX4_asNow 0 = .ok (.aload_n 0, 1) := by decide +kernel
theorem dX4_asNow_1 : decode cX4_asNow 1 = .ok (.getfield 12, 3) := by decide +kernel
theorem dX4_asNow_4 : decode cX4_asNow 4 = .ok (.aload_n 0, 1) := by decide +kernel
theorem dX4_asNow_5 : decode cX4_asNow 5 = .ok (.getfield 22, 3) := by decide +kernel
theorem dX4_asNow_8 : decode cX4_asNow 8 = .ok (.invokevirtual 46, 3) := by decide +kernel
theorem dX4_asNow_11 : decode cX4_asNow 11 = .ok (.aload_n 0, 1) := by decide +kernel
theorem dX4_asNow_12 : decode cX4_asNow 12 = .ok (.iload_n 1, 1) := by decide +kernel
theorem dX4_asNow_13 : decode cX4_asNow 13 = .ok (.invokevirtual 50, 3) := by decide +kernel
theorem dX4_asNow_16 : decode cX4_asNow 16 = .ok (.ireturn, 1) := by decide +kernel
theorem dX4_withCards_0 : decode cX4_withCards 0 = .ok (.aload_n 0, 1) := by decide +kernel
theorem dX4_withCards_1 : decode cX4_withCards 1 = .ok (.getfield 12, 3) := by decide +kernel
theorem dX4_withCards_4 : decode cX4_withCards 4 = .ok (.aload_n 0, 1) := by decide +kernel
theorem dX4_withCards_5 : decode cX4_withCards 5 = .ok (.getfield 22, 3) := by decide +kernel
theorem dX4_withCards_8 : decode cX4_withCards 8 = .ok (.invokevirtual 46, 3) := by decide +kernel
theorem dX4_withCards_11 : decode cX4_withCards 11 = .ok (.aload_n 0, 1) := by decide +kernel
theorem dX4_withCards_12 : decode cX4_withCards 12 = .ok (.getfield 12, 3) := by decide +kernel
theorem dX4_withCards_15 : decode cX4_withCards 15 = .ok (.getfield 54, 3) := by decide +kernel
theorem dX4_withCards_18 : decode cX4_withCards 18 = .ok (.iload_n 1, 1) := by decide +kernel
theorem dX4_withCards_19 : decode cX4_withCards 19 = .ok (.iload_n 2, 1) := by decide +kernel
theorem dX4_withCards_20 : decode cX4_withCards 20 = .ok (.iastore, 1) := by decide +kernel
theorem dX4_withCards_21 : decode cX4_withCards 21 = .ok (.aload_n 0, 1) := by decide +kernel
theorem dX4_withCards_22 : decode cX4_withCards 22 = .ok (.iload_n 3, 1) := by decide +kernel
theorem dX4_withCards_23 : decode cX4_withCards 23 = .ok (.invokevirtual 50, 3) := by decide +kernel
theorem dX4_withCards_26 : decode cX4_withCards 26 = .ok (.ireturn, 1) := by decide +kernel
theorem dX4_fewestFor_0 : decode cX4_fewestFor 0 = .ok (.aload_n 0, 1) := by decide +kernel
theorem dX4_fewestFor_1 : decode cX4_fewestFor 1 = .ok (.getfield 12, 3) := by decide +kernel
theorem dX4_fewestFor_4 : decode cX4_fewestFor 4 = .ok (.aload_n 0, 1) := by decide +kernel
theorem dX4_fewestFor_5 : decode cX4_fewestFor 5 = .ok (.getfield 22, 3) := by decide +kernel
theorem dX4_fewestFor_8 : decode cX4_fewestFor 8 = .ok (.invokevirtual 46, 3) := by decide +kernel
theorem dX4_fewestFor_11 : decode cX4_fewestFor 11 = .ok (.iconst 1, 1) := by decide +kernel
theorem dX4_fewestFor_12 : decode cX4_fewestFor 12 = .ok (.istore_n 3, 1) := by decide +kernel
theorem dX4_fewestFor_13 : decode cX4_fewestFor 13 = .ok (.iload_n 3, 1) := by decide +kernel
theorem dX4_fewestFor_14 : decode cX4_fewestFor 14 = .ok (.bipush 9, 2) := by decide +kernel
theorem dX4_fewestFor_16 : decode cX4_fewestFor 16 = .ok (.if_icmp .gt 78, 3) := by decide +kernel
theorem dX4_fewestFor_19 : decode cX4_fewestFor 19 = .ok (.iconst 0, 1) := by decide +kernel
theorem dX4_fewestFor_20 : decode cX4_fewestFor 20 = .ok (.istore 4, 2) := by decide +kernel
theorem dX4_fewestFor_22 : decode cX4_fewestFor 22 = .ok (.iload 4, 2) := by decide +kernel
theorem dX4_fewestFor_24 : decode cX4_fewestFor 24 = .ok (.aload_n 0, 1) := by decide +kernel
theorem dX4_fewestFor_25 : decode cX4_fewestFor 25 = .ok (.getfield 18, 3) := by decide +kernel
theorem dX4_fewestFor_28 : decode cX4_fewestFor 28 = .ok (.getfield 58, 3) := by decide +kernel
theorem dX4_fewestFor_31 : decode cX4_fewestFor 31 = .ok (.if_icmp .ge 46, 3) := by decide +kernel
theorem dX4_fewestFor_34 : decode cX4_fewestFor 34 = .ok (.iconst 0, 1) := by decide +kernel
theorem dX4_fewestFor_35 : decode cX4_fewestFor 35 = .ok (.istore 5, 2) := by decide +kernel
theorem dX4_fewestFor_37 : decode cX4_fewestFor 37 = .ok (.iload 5, 2) := by decide +kernel
theorem dX4_fewestFor_39 : decode cX4_fewestFor 39 = .ok (.aload_n 0, 1) := by decide +kernel
theorem dX4_fewestFor_40 : decode cX4_fewestFor 40 = .ok (.getfield 18, 3) := by decide +kernel
theorem dX4_fewestFor_43 : decode cX4_fewestFor 43 = .ok (.getfield 63, 3) := by decide +kernel
theorem dX4_fewestFor_46 : decode cX4_fewestFor 46 = .ok (.if_icmp .ge 25, 3) := by decide +kernel
theorem dX4_fewestFor_49 : decode cX4_fewestFor 49 = .ok (.aload_n 0, 1) := by decide +kernel
theorem dX4_fewestFor_50 : decode cX4_fewestFor 50 = .ok (.getfield 12, 3) := by decide +kernel
theorem dX4_fewestFor_53 : decode cX4_fewestFor 53 = .ok (.getfield 54, 3) := by decide +kernel
theorem dX4_fewestFor_56 : decode cX4_fewestFor 56 = .ok (.iload 4, 2) := by decide +kernel
theorem dX4_fewestFor_58 : decode cX4_fewestFor 58 = .ok (.iload 5, 2) := by decide +kernel
theorem dX4_fewestFor_60 : decode cX4_fewestFor 60 = .ok (.invokestatic 66, 3) := by decide +kernel
theorem dX4_fewestFor_63 : decode cX4_fewestFor 63 = .ok (.iload_n 3, 1) := by decide +kernel
theorem dX4_fewestFor_64 : decode cX4_fewestFor 64 = .ok (.iastore, 1) := by decide +kernel
theorem dX4_fewestFor_65 : decode cX4_fewestFor 65 = .ok (.iinc 5 1, 3) := by decide +kernel
theorem dX4_fewestFor_68 : decode cX4_fewestFor 68 = .ok (.goto (-31), 3) := by decide +kernel
theorem dX4_fewestFor_71 : decode cX4_fewestFor 71 = .ok (.iinc 4 1, 3) := by decide +kernel
theorem dX4_fewestFor_74 : decode cX4_fewestFor 74 = .ok (.goto (-52), 3) := by decide +kernel
theorem dX4_fewestFor_77 : decode cX4_fewestFor 77 = .ok (.aload_n 0, 1) := by decide +kernel
theorem dX4_fewestFor_78 : decode cX4_fewestFor 78 = .ok (.iload_n 2, 1) := by decide +kernel
theorem dX4_fewestFor_79 : decode cX4_fewestFor 79 = .ok (.invokevirtual 50, 3) := by decide +kernel
theorem dX4_fewestFor_82 : decode cX4_fewestFor 82 = .ok (.iload_n 1, 1) := by decide +kernel
theorem dX4_fewestFor_83 : decode cX4_fewestFor 83 = .ok (.if_icmp .lt 5, 3) := by decide +kernel
theorem dX4_fewestFor_86 : decode cX4_fewestFor 86 = .ok (.iload_n 3, 1) := by decide +kernel
theorem dX4_fewestFor_87 : decode cX4_fewestFor 87 = .ok (.ireturn, 1) := by decide +kernel
theorem dX4_fewestFor_88 : decode cX4_fewestFor 88 = .ok (.iinc 3 1, 3) := by decide +kernel
theorem dX4_fewestFor_91 : decode cX4_fewestFor 91 = .ok (.goto (-78), 3) := by decide +kernel
theorem dX4_fewestFor_94 : decode cX4_fewestFor 94 = .ok (.bipush (-2), 2) := by decide +kernel
theorem dX4_fewestFor_96 : decode cX4_fewestFor 96 = .ok (.ireturn, 1) := by decide +kernel
theorem dX4_takeOut_0 : decode cX4_takeOut 0 = .ok (.aload_n 0, 1) := by decide +kernel
theorem dX4_takeOut_1 : decode cX4_takeOut 1 = .ok (.iload_n 1, 1) := by decide +kernel
theorem dX4_takeOut_2 : decode cX4_takeOut 2 = .ok (.invokevirtual 70, 3) := by decide +kernel
theorem dX4_takeOut_5 : decode cX4_takeOut 5 = .ok (.istore_n 2, 1) := by decide +kernel
theorem dX4_takeOut_6 : decode cX4_takeOut 6 = .ok (.iconst 1, 1) := by decide +kernel
theorem dX4_takeOut_7 : decode cX4_takeOut 7 = .ok (.istore_n 3, 1) := by decide +kernel
theorem dX4_takeOut_8 : decode cX4_takeOut 8 = .ok (.iconst 0, 1) := by decide +kernel
theorem dX4_takeOut_9 : decode cX4_takeOut 9 = .ok (.istore 4, 2) := by decide +kernel
theorem dX4_takeOut_11 : decode cX4_takeOut 11 = .ok (.iload_n 3, 1) := by decide +kernel
theorem dX4_takeOut_12 : decode cX4_takeOut 12 = .ok (.ifCond .eq 97, 3) := by decide +kernel
theorem dX4_takeOut_15 : decode cX4_takeOut 15 = .ok (.iload 4, 2) := by decide +kernel
theorem dX4_takeOut_17 : decode cX4_takeOut 17 = .ok (.sipush 162, 3) := by decide +kernel
theorem dX4_takeOut_20 : decode cX4_takeOut 20 = .ok (.if_icmp .gt 89, 3) := by decide +kernel
theorem dX4_takeOut_23 : decode cX4_takeOut 23 = .ok (.iconst 0, 1) := by decide +kernel
theorem dX4_takeOut_24 : decode cX4_takeOut 24 = .ok (.istore_n 3, 1) := by decide +kernel
theorem dX4_takeOut_25 : decode cX4_takeOut 25 = .ok (.iconst 0, 1) := by decide +kernel
theorem dX4_takeOut_26 : decode cX4_takeOut 26 = .ok (.istore 5, 2) := by decide +kernel
theorem dX4_takeOut_28 : decode cX4_takeOut 28 = .ok (.iload 5, 2) := by decide +kernel
theorem dX4_takeOut_30 : decode cX4_takeOut 30 = .ok (.bipush 18, 2) := by decide +kernel
theorem dX4_takeOut_32 : decode cX4_takeOut 32 = .ok (.if_icmp .ge 71, 3) := by decide +kernel
theorem dX4_takeOut_35 : decode cX4_takeOut 35 = .ok (.aload_n 0, 1) := by decide +kernel
theorem dX4_takeOut_36 : decode cX4_takeOut 36 = .ok (.getfield 12, 3) := by decide +kernel
theorem dX4_takeOut_39 : decode cX4_takeOut 39 = .ok (.getfield 54, 3) := by decide +kernel
theorem dX4_takeOut_42 : decode cX4_takeOut 42 = .ok (.iload 5, 2) := by decide +kernel
theorem dX4_takeOut_44 : decode cX4_takeOut 44 = .ok (.iaload, 1) := by decide +kernel
theorem dX4_takeOut_45 : decode cX4_takeOut 45 = .ok (.ifCond .le 52, 3) := by decide +kernel
theorem dX4_takeOut_48 : decode cX4_takeOut 48 = .ok (.aload_n 0, 1) := by decide +kernel
theorem dX4_takeOut_49 : decode cX4_takeOut 49 = .ok (.getfield 12, 3) := by decide +kernel
theorem dX4_takeOut_52 : decode cX4_takeOut 52 = .ok (.getfield 54, 3) := by decide +kernel
theorem dX4_takeOut_55 : decode cX4_takeOut 55 = .ok (.iload 5, 2) := by decide +kernel
theorem dX4_takeOut_57 : decode cX4_takeOut 57 = .ok (.dup2, 1) := by decide +kernel
theorem dX4_takeOut_58 : decode cX4_takeOut 58 = .ok (.iaload, 1) := by decide +kernel
theorem dX4_takeOut_59 : decode cX4_takeOut 59 = .ok (.iconst 1, 1) := by decide +kernel
theorem dX4_takeOut_60 : decode cX4_takeOut 60 = .ok (.isub, 1) := by decide +kernel
theorem dX4_takeOut_61 : decode cX4_takeOut 61 = .ok (.iastore, 1) := by decide +kernel
theorem dX4_takeOut_62 : decode cX4_takeOut 62 = .ok (.aload_n 0, 1) := by decide +kernel
theorem dX4_takeOut_63 : decode cX4_takeOut 63 = .ok (.iload_n 1, 1) := by decide +kernel
theorem dX4_takeOut_64 : decode cX4_takeOut 64 = .ok (.invokevirtual 50, 3) := by decide +kernel
theorem dX4_takeOut_67 : decode cX4_takeOut 67 = .ok (.istore 6, 2) := by decide +kernel
theorem dX4_takeOut_69 : decode cX4_takeOut 69 = .ok (.iload 6, 2) := by decide +kernel
theorem dX4_takeOut_71 : decode cX4_takeOut 71 = .ok (.iload_n 2, 1) := by decide +kernel
theorem dX4_takeOut_72 : decode cX4_takeOut 72 = .ok (.if_icmp .ge 20, 3) := by decide +kernel
theorem dX4_takeOut_75 : decode cX4_takeOut 75 = .ok (.aload_n 0, 1) := by decide +kernel
theorem dX4_takeOut_76 : decode cX4_takeOut 76 = .ok (.getfield 12, 3) := by decide +kernel
theorem dX4_takeOut_79 : decode cX4_takeOut 79 = .ok (.getfield 54, 3) := by decide +kernel
theorem dX4_takeOut_82 : decode cX4_takeOut 82 = .ok (.iload 5, 2) := by decide +kernel
theorem dX4_takeOut_84 : decode cX4_takeOut 84 = .ok (.dup2, 1) := by decide +kernel
theorem dX4_takeOut_85 : decode cX4_takeOut 85 = .ok (.iaload, 1) := by decide +kernel
theorem dX4_takeOut_86 : decode cX4_takeOut 86 = .ok (.iconst 1, 1) := by decide +kernel
theorem dX4_takeOut_87 : decode cX4_takeOut 87 = .ok (.iadd, 1) := by decide +kernel
theorem dX4_takeOut_88 : decode cX4_takeOut 88 = .ok (.iastore, 1) := by decide +kernel
theorem dX4_takeOut_89 : decode cX4_takeOut 89 = .ok (.goto 8, 3) := by decide +kernel
theorem dX4_takeOut_92 : decode cX4_takeOut 92 = .ok (.iload 6, 2) := by decide +kernel
theorem dX4_takeOut_94 : decode cX4_takeOut 94 = .ok (.istore_n 2, 1) := by decide +kernel
theorem dX4_takeOut_95 : decode cX4_takeOut 95 = .ok (.iconst 1, 1) := by decide +kernel
theorem dX4_takeOut_96 : decode cX4_takeOut 96 = .ok (.istore_n 3, 1) := by decide +kernel
theorem dX4_takeOut_97 : decode cX4_takeOut 97 = .ok (.iinc 5 1, 3) := by decide +kernel
theorem dX4_takeOut_100 : decode cX4_takeOut 100 = .ok (.goto (-72), 3) := by decide +kernel
theorem dX4_takeOut_103 : decode cX4_takeOut 103 = .ok (.iinc 4 1, 3) := by decide +kernel
theorem dX4_takeOut_106 : decode cX4_takeOut 106 = .ok (.goto (-95), 3) := by decide +kernel
theorem dX4_takeOut_109 : decode cX4_takeOut 109 = .ok (.return_, 1) := by decide +kernel
theorem dX4_bestCardMore_0 : decode cX4_bestCardMore 0 = .ok (.aload_n 0, 1) := by decide +kernel
theorem dX4_bestCardMore_1 : decode cX4_bestCardMore 1 = .ok (.iload_n 1, 1) := by decide +kernel
theorem dX4_bestCardMore_2 : decode cX4_bestCardMore 2 = .ok (.invokevirtual 70, 3) := by decide +kernel
theorem dX4_bestCardMore_5 : decode cX4_bestCardMore 5 = .ok (.istore_n 2, 1) := by decide +kernel
theorem dX4_bestCardMore_6 : decode cX4_bestCardMore 6 = .ok (.bipush (-2), 2) := by decide +kernel
theorem dX4_bestCardMore_8 : decode cX4_bestCardMore 8 = .ok (.istore_n 3, 1) := by decide +kernel
theorem dX4_bestCardMore_9 : decode cX4_bestCardMore 9 = .ok (.iconst 0, 1) := by decide +kernel
theorem dX4_bestCardMore_10 : decode cX4_bestCardMore 10 = .ok (.istore 4, 2) := by decide +kernel
theorem dX4_bestCardMore_12 : decode cX4_bestCardMore 12 = .ok (.iload 4, 2) := by decide +kernel
theorem dX4_bestCardMore_14 : decode cX4_bestCardMore 14 = .ok (.aload_n 0, 1) := by decide +kernel
theorem dX4_bestCardMore_15 : decode cX4_bestCardMore 15 = .ok (.getfield 18, 3) := by decide +kernel
theorem dX4_bestCardMore_18 : decode cX4_bestCardMore 18 = .ok (.getfield 58, 3) := by decide +kernel
theorem dX4_bestCardMore_21 : decode cX4_bestCardMore 21 = .ok (.if_icmp .ge 87, 3) := by decide +kernel
theorem dX4_bestCardMore_24 : decode cX4_bestCardMore 24 = .ok (.iconst 0, 1) := by decide +kernel
theorem dX4_bestCardMore_25 : decode cX4_bestCardMore 25 = .ok (.istore 5, 2) := by decide +kernel
theorem dX4_bestCardMore_27 : decode cX4_bestCardMore 27 = .ok (.iload 5, 2) := by decide +kernel
theorem dX4_bestCardMore_29 : decode cX4_bestCardMore 29 = .ok (.aload_n 0, 1) := by decide +kernel
theorem dX4_bestCardMore_30 : decode cX4_bestCardMore 30 = .ok (.getfield 18, 3) := by decide +kernel
theorem dX4_bestCardMore_33 : decode cX4_bestCardMore 33 = .ok (.getfield 63, 3) := by decide +kernel
theorem dX4_bestCardMore_36 : decode cX4_bestCardMore 36 = .ok (.if_icmp .ge 66, 3) := by decide +kernel
theorem dX4_bestCardMore_39 : decode cX4_bestCardMore 39 = .ok (.iload 4, 2) := by decide +kernel
theorem dX4_bestCardMore_41 : decode cX4_bestCardMore 41 = .ok (.iload 5, 2) := by decide +kernel
theorem dX4_bestCardMore_43 : decode cX4_bestCardMore 43 = .ok (.invokestatic 66, 3) := by decide +kernel
theorem dX4_bestCardMore_46 : decode cX4_bestCardMore 46 = .ok (.istore 6, 2) := by decide +kernel
theorem dX4_bestCardMore_48 : decode cX4_bestCardMore 48 = .ok (.aload_n 0, 1) := by decide +kernel
theorem dX4_bestCardMore_49 : decode cX4_bestCardMore 49 = .ok (.getfield 22, 3) := by decide +kernel
theorem dX4_bestCardMore_52 : decode cX4_bestCardMore 52 = .ok (.getfield 54, 3) := by decide +kernel
theorem dX4_bestCardMore_55 : decode cX4_bestCardMore 55 = .ok (.iload 6, 2) := by decide +kernel
theorem dX4_bestCardMore_57 : decode cX4_bestCardMore 57 = .ok (.iaload, 1) := by decide +kernel
theorem dX4_bestCardMore_58 : decode cX4_bestCardMore 58 = .ok (.istore 7, 2) := by decide +kernel
theorem dX4_bestCardMore_60 : decode cX4_bestCardMore 60 = .ok (.iload 7, 2) := by decide +kernel
theorem dX4_bestCardMore_62 : decode cX4_bestCardMore 62 = .ok (.bipush 9, 2) := by decide +kernel
theorem dX4_bestCardMore_64 : decode cX4_bestCardMore 64 = .ok (.if_icmp .ge 17, 3) := by decide +kernel
theorem dX4_bestCardMore_67 : decode cX4_bestCardMore 67 = .ok (.aload_n 0, 1) := by decide +kernel
theorem dX4_bestCardMore_68 : decode cX4_bestCardMore 68 = .ok (.iload 6, 2) := by decide +kernel
theorem dX4_bestCardMore_70 : decode cX4_bestCardMore 70 = .ok (.iload 7, 2) := by decide +kernel
theorem dX4_bestCardMore_72 : decode cX4_bestCardMore 72 = .ok (.iconst 1, 1) := by decide +kernel
theorem dX4_bestCardMore_73 : decode cX4_bestCardMore 73 = .ok (.iadd, 1) := by decide +kernel
theorem dX4_bestCardMore_74 : decode cX4_bestCardMore 74 = .ok (.iload_n 1, 1) := by decide +kernel
theorem dX4_bestCardMore_75 : decode cX4_bestCardMore 75 = .ok (.invokevirtual 73, 3) := by decide +kernel
theorem dX4_bestCardMore_78 : decode cX4_bestCardMore 78 = .ok (.goto 4, 3) := by decide +kernel
theorem dX4_bestCardMore_81 : decode cX4_bestCardMore 81 = .ok (.iconst 0, 1) := by decide +kernel
theorem dX4_bestCardMore_82 : decode cX4_bestCardMore 82 = .ok (.istore 8, 2) := by decide +kernel
theorem dX4_bestCardMore_84 : decode cX4_bestCardMore 84 = .ok (.iload 8, 2) := by decide +kernel
theorem dX4_bestCardMore_86 : decode cX4_bestCardMore 86 = .ok (.iload_n 2, 1) := by decide +kernel
theorem dX4_bestCardMore_87 : decode cX4_bestCardMore 87 = .ok (.if_icmp .le 9, 3) := by decide +kernel
theorem dX4_bestCardMore_90 : decode cX4_bestCardMore 90 = .ok (.iload 8, 2) := by decide +kernel
theorem dX4_bestCardMore_92 : decode cX4_bestCardMore 92 = .ok (.istore_n 2, 1) := by decide +kernel
theorem dX4_bestCardMore_93 : decode cX4_bestCardMore 93 = .ok (.iload 6, 2) := by decide +kernel
theorem dX4_bestCardMore_95 : decode cX4_bestCardMore 95 = .ok (.istore_n 3, 1) := by decide +kernel
theorem dX4_bestCardMore_96 : decode cX4_bestCardMore 96 = .ok (.iinc 5 1, 3) := by decide +kernel
theorem dX4_bestCardMore_99 : decode cX4_bestCardMore 99 = .ok (.goto (-72), 3) := by decide +kernel
theorem dX4_bestCardMore_102 : decode cX4_bestCardMore 102 = .ok (.iinc 4 1, 3) := by decide +kernel
theorem dX4_bestCardMore_105 : decode cX4_bestCardMore 105 = .ok (.goto (-93), 3) := by decide +kernel
theorem dX4_bestCardMore_108 : decode cX4_bestCardMore 108 = .ok (.iload_n 3, 1) := by decide +kernel
theorem dX4_bestCardMore_109 : decode cX4_bestCardMore 109 = .ok (.ireturn, 1) := by decide +kernel
theorem dX4_bestSwiftBench_0 : decode cX4_bestSwiftBench 0 = .ok (.iconst (-1), 1) := by decide +kernel
theorem dX4_bestSwiftBench_1 : decode cX4_bestSwiftBench 1 = .ok (.istore_n 2, 1) := by decide +kernel
theorem dX4_bestSwiftBench_2 : decode cX4_bestSwiftBench 2 = .ok (.iconst 0, 1) := by decide +kernel
theorem dX4_bestSwiftBench_3 : decode cX4_bestSwiftBench 3 = .ok (.istore_n 3, 1) := by decide +kernel
theorem dX4_bestSwiftBench_4 : decode cX4_bestSwiftBench 4 = .ok (.iconst 0, 1) := by decide +kernel
theorem dX4_bestSwiftBench_5 : decode cX4_bestSwiftBench 5 = .ok (.istore 4, 2) := by decide +kernel
theorem dX4_bestSwiftBench_7 : decode cX4_bestSwiftBench 7 = .ok (.iload 4, 2) := by decide +kernel
theorem dX4_bestSwiftBench_9 : decode cX4_bestSwiftBench 9 = .ok (.aload_n 0, 1) := by decide +kernel
theorem dX4_bestSwiftBench_10 : decode cX4_bestSwiftBench 10 = .ok (.getfield 18, 3) := by decide +kernel
theorem dX4_bestSwiftBench_13 : decode cX4_bestSwiftBench 13 = .ok (.getfield 58, 3) := by decide +kernel
theorem dX4_bestSwiftBench_16 : decode cX4_bestSwiftBench 16 = .ok (.if_icmp .ge 76, 3) := by decide +kernel
theorem dX4_bestSwiftBench_19 : decode cX4_bestSwiftBench 19 = .ok (.aload_n 0, 1) := by decide +kernel
theorem dX4_bestSwiftBench_20 : decode cX4_bestSwiftBench 20 = .ok (.getfield 12, 3) := by decide +kernel
theorem dX4_bestSwiftBench_23 : decode cX4_bestSwiftBench 23 = .ok (.aload_n 0, 1) := by decide +kernel
theorem dX4_bestSwiftBench_24 : decode cX4_bestSwiftBench 24 = .ok (.getfield 22, 3) := by decide +kernel
theorem dX4_bestSwiftBench_27 : decode cX4_bestSwiftBench 27 = .ok (.invokevirtual 46, 3) := by decide +kernel
theorem dX4_bestSwiftBench_30 : decode cX4_bestSwiftBench 30 = .ok (.iconst 0, 1) := by decide +kernel
theorem dX4_bestSwiftBench_31 : decode cX4_bestSwiftBench 31 = .ok (.istore 5, 2) := by decide +kernel
theorem dX4_bestSwiftBench_33 : decode cX4_bestSwiftBench 33 = .ok (.iload 5, 2) := by decide +kernel
theorem dX4_bestSwiftBench_35 : decode cX4_bestSwiftBench 35 = .ok (.aload_n 0, 1) := by decide +kernel
theorem dX4_bestSwiftBench_36 : decode cX4_bestSwiftBench 36 = .ok (.getfield 18, 3) := by decide +kernel
theorem dX4_bestSwiftBench_39 : decode cX4_bestSwiftBench 39 = .ok (.getfield 63, 3) := by decide +kernel
theorem dX4_bestSwiftBench_42 : decode cX4_bestSwiftBench 42 = .ok (.if_icmp .ge 25, 3) := by decide +kernel
theorem dX4_bestSwiftBench_45 : decode cX4_bestSwiftBench 45 = .ok (.aload_n 0, 1) := by decide +kernel
theorem dX4_bestSwiftBench_46 : decode cX4_bestSwiftBench 46 = .ok (.getfield 12, 3) := by decide +kernel
theorem dX4_bestSwiftBench_49 : decode cX4_bestSwiftBench 49 = .ok (.getfield 77, 3) := by decide +kernel
theorem dX4_bestSwiftBench_52 : decode cX4_bestSwiftBench 52 = .ok (.iload 4, 2) := by decide +kernel
theorem dX4_bestSwiftBench_54 : decode cX4_bestSwiftBench 54 = .ok (.iload 5, 2) := by decide +kernel
theorem dX4_bestSwiftBench_56 : decode cX4_bestSwiftBench 56 = .ok (.invokestatic 66, 3) := by decide +kernel
theorem dX4_bestSwiftBench_59 : decode cX4_bestSwiftBench 59 = .ok (.iconst 1, 1) := by decide +kernel
theorem dX4_bestSwiftBench_60 : decode cX4_bestSwiftBench 60 = .ok (.iastore, 1) := by decide +kernel
theorem dX4_bestSwiftBench_61 : decode cX4_bestSwiftBench 61 = .ok (.iinc 5 1, 3) := by decide +kernel
theorem dX4_bestSwiftBench_64 : decode cX4_bestSwiftBench 64 = .ok (.goto (-31), 3) := by decide +kernel
theorem dX4_bestSwiftBench_67 : decode cX4_bestSwiftBench 67 = .ok (.aload_n 0, 1) := by decide +kernel
theorem dX4_bestSwiftBench_68 : decode cX4_bestSwiftBench 68 = .ok (.iload_n 1, 1) := by decide +kernel
theorem dX4_bestSwiftBench_69 : decode cX4_bestSwiftBench 69 = .ok (.invokevirtual 50, 3) := by decide +kernel
theorem dX4_bestSwiftBench_72 : decode cX4_bestSwiftBench 72 = .ok (.istore 5, 2) := by decide +kernel
theorem dX4_bestSwiftBench_74 : decode cX4_bestSwiftBench 74 = .ok (.iload 5, 2) := by decide +kernel
theorem dX4_bestSwiftBench_76 : decode cX4_bestSwiftBench 76 = .ok (.iload_n 2, 1) := by decide +kernel
theorem dX4_bestSwiftBench_77 : decode cX4_bestSwiftBench 77 = .ok (.if_icmp .le 9, 3) := by decide +kernel
theorem dX4_bestSwiftBench_80 : decode cX4_bestSwiftBench 80 = .ok (.iload 5, 2) := by decide +kernel
theorem dX4_bestSwiftBench_82 : decode cX4_bestSwiftBench 82 = .ok (.istore_n 2, 1) := by decide +kernel
theorem dX4_bestSwiftBench_83 : decode cX4_bestSwiftBench 83 = .ok (.iload 4, 2) := by decide +kernel
theorem dX4_bestSwiftBench_85 : decode cX4_bestSwiftBench 85 = .ok (.istore_n 3, 1) := by decide +kernel
theorem dX4_bestSwiftBench_86 : decode cX4_bestSwiftBench 86 = .ok (.iinc 4 1, 3) := by decide +kernel
theorem dX4_bestSwiftBench_89 : decode cX4_bestSwiftBench 89 = .ok (.goto (-82), 3) := by decide +kernel
theorem dX4_bestSwiftBench_92 : decode cX4_bestSwiftBench 92 = .ok (.iload_n 3, 1) := by decide +kernel
theorem dX4_bestSwiftBench_93 : decode cX4_bestSwiftBench 93 = .ok (.ireturn, 1) := by decide +kernel
theorem dX4_firstAgain_0 : decode cX4_firstAgain 0 = .ok (.aload_n 0, 1) := by decide +kernel
theorem dX4_firstAgain_1 : decode cX4_firstAgain 1 = .ok (.getfield 80, 3) := by decide +kernel
theorem dX4_firstAgain_4 : decode cX4_firstAgain 4 = .ok (.ifnonnull 14, 3) := by decide +kernel
theorem dX4_firstAgain_7 : decode cX4_firstAgain 7 = .ok (.aload_n 0, 1) := by decide +kernel
theorem dX4_firstAgain_8 : decode cX4_firstAgain 8 = .ok (.new 84, 3) := by decide +kernel
theorem dX4_firstAgain_11 : decode cX4_firstAgain 11 = .ok (.dup, 1) := by decide +kernel
theorem dX4_firstAgain_12 : decode cX4_firstAgain 12 = .ok (.invokespecial 86, 3) := by decide +kernel
theorem dX4_firstAgain_15 : decode cX4_firstAgain 15 = .ok (.putfield 80, 3) := by decide +kernel
theorem dX4_firstAgain_18 : decode cX4_firstAgain 18 = .ok (.aload_n 0, 1) := by decide +kernel
theorem dX4_firstAgain_19 : decode cX4_firstAgain 19 = .ok (.getfield 12, 3) := by decide +kernel
theorem dX4_firstAgain_22 : decode cX4_firstAgain 22 = .ok (.aload_n 0, 1) := by decide +kernel
theorem dX4_firstAgain_23 : decode cX4_firstAgain 23 = .ok (.getfield 22, 3) := by decide +kernel
theorem dX4_firstAgain_26 : decode cX4_firstAgain 26 = .ok (.invokevirtual 46, 3) := by decide +kernel
theorem dX4_firstAgain_29 : decode cX4_firstAgain 29 = .ok (.aload_n 0, 1) := by decide +kernel
theorem dX4_firstAgain_30 : decode cX4_firstAgain 30 = .ok (.getfield 30, 3) := by decide +kernel
theorem dX4_firstAgain_33 : decode cX4_firstAgain 33 = .ok (.iconst 0, 1) := by decide +kernel
theorem dX4_firstAgain_34 : decode cX4_firstAgain 34 = .ok (.invokevirtual 34, 3) := by decide +kernel
theorem dX4_firstAgain_37 : decode cX4_firstAgain 37 = .ok (.aload_n 0, 1) := by decide +kernel
theorem dX4_firstAgain_38 : decode cX4_firstAgain 38 = .ok (.getfield 80, 3) := by decide +kernel
theorem dX4_firstAgain_41 : decode cX4_firstAgain 41 = .ok (.invokevirtual 87, 3) := by decide +kernel
theorem dX4_firstAgain_44 : decode cX4_firstAgain 44 = .ok (.iconst 0, 1) := by decide +kernel
theorem dX4_firstAgain_45 : decode cX4_firstAgain 45 = .ok (.istore_n 2, 1) := by decide +kernel
theorem dX4_firstAgain_46 : decode cX4_firstAgain 46 = .ok (.iload_n 2, 1) := by decide +kernel
theorem dX4_firstAgain_47 : decode cX4_firstAgain 47 = .ok (.iload_n 1, 1) := by decide +kernel
theorem dX4_firstAgain_48 : decode cX4_firstAgain 48 = .ok (.if_icmp .ge 65, 3) := by decide +kernel
theorem dX4_firstAgain_51 : decode cX4_firstAgain 51 = .ok (.aload_n 0, 1) := by decide +kernel
theorem dX4_firstAgain_52 : decode cX4_firstAgain 52 = .ok (.getfield 30, 3) := by decide +kernel
theorem dX4_firstAgain_55 : decode cX4_firstAgain 55 = .ok (.invokevirtual 90, 3) := by decide +kernel
theorem dX4_firstAgain_58 : decode cX4_firstAgain 58 = .ok (.aload_n 0, 1) := by decide +kernel
theorem dX4_firstAgain_59 : decode cX4_firstAgain 59 = .ok (.getfield 30, 3) := by decide +kernel
theorem dX4_firstAgain_62 : decode cX4_firstAgain 62 = .ok (.dup, 1) := by decide +kernel
theorem dX4_firstAgain_63 : decode cX4_firstAgain 63 = .ok (.getfield 93, 3) := by decide +kernel
theorem dX4_firstAgain_66 : decode cX4_firstAgain 66 = .ok (.iconst 1, 1) := by decide +kernel
theorem dX4_firstAgain_67 : decode cX4_firstAgain 67 = .ok (.iadd, 1) := by decide +kernel
theorem dX4_firstAgain_68 : decode cX4_firstAgain 68 = .ok (.putfield 93, 3) := by decide +kernel
theorem dX4_firstAgain_71 : decode cX4_firstAgain 71 = .ok (.aload_n 0, 1) := by decide +kernel
theorem dX4_firstAgain_72 : decode cX4_firstAgain 72 = .ok (.getfield 30, 3) := by decide +kernel
theorem dX4_firstAgain_75 : decode cX4_firstAgain 75 = .ok (.invokevirtual 96, 3) := by decide +kernel
theorem dX4_firstAgain_78 : decode cX4_firstAgain 78 = .ok (.ifCond .eq 29, 3) := by decide +kernel
theorem dX4_firstAgain_81 : decode cX4_firstAgain 81 = .ok (.aload_n 0, 1) := by decide +kernel
theorem dX4_firstAgain_82 : decode cX4_firstAgain 82 = .ok (.aload_n 0, 1) := by decide +kernel
theorem dX4_firstAgain_83 : decode cX4_firstAgain 83 = .ok (.getfield 80, 3) := by decide +kernel
theorem dX4_firstAgain_86 : decode cX4_firstAgain 86 = .ok (.aload_n 0, 1) := by decide +kernel
theorem dX4_firstAgain_87 : decode cX4_firstAgain 87 = .ok (.getfield 30, 3) := by decide +kernel
theorem dX4_firstAgain_90 : decode cX4_firstAgain 90 = .ok (.iload_n 2, 1) := by decide +kernel
theorem dX4_firstAgain_91 : decode cX4_firstAgain 91 = .ok (.invokevirtual 100, 3) := by decide +kernel
theorem dX4_firstAgain_94 : decode cX4_firstAgain 94 = .ok (.putfield 104, 3) := by decide +kernel
theorem dX4_firstAgain_97 : decode cX4_firstAgain 97 = .ok (.aload_n 0, 1) := by decide +kernel
theorem dX4_firstAgain_98 : decode cX4_firstAgain 98 = .ok (.getfield 104, 3) := by decide +kernel
theorem dX4_firstAgain_101 : decode cX4_firstAgain 101 = .ok (.iconst (-1), 1) := by decide +kernel
theorem dX4_firstAgain_102 : decode cX4_firstAgain 102 = .ok (.if_icmp .eq 5, 3) := by decide +kernel
theorem dX4_firstAgain_105 : decode cX4_firstAgain 105 = .ok (.iload_n 2, 1) := by decide +kernel
theorem dX4_firstAgain_106 : decode cX4_firstAgain 106 = .ok (.ireturn, 1) := by decide +kernel
theorem dX4_firstAgain_107 : decode cX4_firstAgain 107 = .ok (.iinc 2 1, 3) := by decide +kernel
theorem dX4_firstAgain_110 : decode cX4_firstAgain 110 = .ok (.goto (-64), 3) := by decide +kernel
theorem dX4_firstAgain_113 : decode cX4_firstAgain 113 = .ok (.bipush (-2), 2) := by decide +kernel
theorem dX4_firstAgain_115 : decode cX4_firstAgain 115 = .ok (.ireturn, 1) := by decide +kernel
theorem dX5_clear_0 : decode cX5_clear 0 = .ok (.aload_n 0, 1) := by decide +kernel
theorem dX5_clear_1 : decode cX5_clear 1 = .ok (.iconst 0, 1) := by decide +kernel
theorem dX5_clear_2 : decode cX5_clear 2 = .ok (.putfield 43, 3) := by decide +kernel
theorem dX5_clear_5 : decode cX5_clear 5 = .ok (.aload_n 0, 1) := by decide +kernel
theorem dX5_clear_6 : decode cX5_clear 6 = .ok (.iconst 0, 1) := by decide +kernel
theorem dX5_clear_7 : decode cX5_clear 7 = .ok (.putfield 47, 3) := by decide +kernel
theorem dX5_clear_10 : decode cX5_clear 10 = .ok (.aload_n 0, 1) := by decide +kernel
theorem dX5_clear_11 : decode cX5_clear 11 = .ok (.iconst 0, 1) := by decide +kernel
theorem dX5_clear_12 : decode cX5_clear 12 = .ok (.putfield 50, 3) := by decide +kernel
theorem dX5_clear_15 : decode cX5_clear 15 = .ok (.aload_n 0, 1) := by decide +kernel
theorem dX5_clear_16 : decode cX5_clear 16 = .ok (.getfield 9, 3) := by decide +kernel
theorem dX5_clear_19 : decode cX5_clear 19 = .ok (.iconst 0, 1) := by decide +kernel
theorem dX5_clear_20 : decode cX5_clear 20 = .ok (.invokestatic 53, 3) := by decide +kernel
theorem dX5_clear_23 : decode cX5_clear 23 = .ok (.aload_n 0, 1) := by decide +kernel
theorem dX5_clear_24 : decode cX5_clear 24 = .ok (.getfield 15, 3) := by decide +kernel
theorem dX5_clear_27 : decode cX5_clear 27 = .ok (.iconst 0, 1) := by decide +kernel
theorem dX5_clear_28 : decode cX5_clear 28 = .ok (.invokestatic 53, 3) := by decide +kernel
theorem dX5_clear_31 : decode cX5_clear 31 = .ok (.aload_n 0, 1) := by decide +kernel
theorem dX5_clear_32 : decode cX5_clear 32 = .ok (.getfield 18, 3) := by decide +kernel
theorem dX5_clear_35 : decode cX5_clear 35 = .ok (.iconst 0, 1) := by decide +kernel
theorem dX5_clear_36 : decode cX5_clear 36 = .ok (.invokestatic 53, 3) := by decide +kernel
theorem dX5_clear_39 : decode cX5_clear 39 = .ok (.aload_n 0, 1) := by decide +kernel
theorem dX5_clear_40 : decode cX5_clear 40 = .ok (.getfield 39, 3) := by decide +kernel
theorem dX5_clear_43 : decode cX5_clear 43 = .ok (.invokevirtual 59, 3) := by decide +kernel
theorem dX5_clear_46 : decode cX5_clear 46 = .ok (.return_, 1) := by decide +kernel
theorem dX5_copy_0 : decode cX5_copy 0 = .ok (.aload_n 0, 1) := by decide +kernel
theorem dX5_copy_1 : decode cX5_copy 1 = .ok (.aload_n 1, 1) := by decide +kernel
theorem dX5_copy_2 : decode cX5_copy 2 = .ok (.getfield 43, 3) := by decide +kernel
theorem dX5_copy_5 : decode cX5_copy 5 = .ok (.putfield 43, 3) := by decide +kernel
theorem dX5_copy_8 : decode cX5_copy 8 = .ok (.aload_n 0, 1) := by decide +kernel
theorem dX5_copy_9 : decode cX5_copy 9 = .ok (.aload_n 1, 1) := by decide +kernel
theorem dX5_copy_10 : decode cX5_copy 10 = .ok (.getfield 47, 3) := by decide +kernel
theorem dX5_copy_13 : decode cX5_copy 13 = .ok (.putfield 47, 3) := by decide +kernel
theorem dX5_copy_16 : decode cX5_copy 16 = .ok (.aload_n 0, 1) := by decide +kernel
theorem dX5_copy_17 : decode cX5_copy 17 = .ok (.aload_n 1, 1) := by decide +kernel
theorem dX5_copy_18 : decode cX5_copy 18 = .ok (.getfield 50, 3) := by decide +kernel
theorem dX5_copy_21 : decode cX5_copy 21 = .ok (.putfield 50, 3) := by decide +kernel
theorem dX5_copy_24 : decode cX5_copy 24 = .ok (.aload_n 1, 1) := by decide +kernel
theorem dX5_copy_25 : decode cX5_copy 25 = .ok (.getfield 9, 3) := by decide +kernel
theorem dX5_copy_28 : decode cX5_copy 28 = .ok (.iconst 0, 1) := by decide +kernel
theorem dX5_copy_29 : decode cX5_copy 29 = .ok (.aload_n 0, 1) := by decide +kernel
theorem dX5_copy_30 : decode cX5_copy 30 = .ok (.getfield 9, 3) := by decide +kernel
theorem dX5_copy_33 : decode cX5_copy 33 = .ok (.iconst 0, 1) := by decide +kernel
theorem dX5_copy_34 : decode cX5_copy 34 = .ok (.bipush 6, 2) := by decide +kernel
theorem dX5_copy_36 : decode cX5_copy 36 = .ok (.invokestatic 62, 3) := by decide +kernel
theorem dX5_copy_39 : decode cX5_copy 39 = .ok (.aload_n 1, 1) := by decide +kernel
theorem dX5_copy_40 : decode cX5_copy 40 = .ok (.getfield 15, 3) := by decide +kernel
theorem dX5_copy_43 : decode cX5_copy 43 = .ok (.iconst 0, 1) := by decide +kernel
theorem dX5_copy_44 : decode cX5_copy 44 = .ok (.aload_n 0, 1) := by decide +kernel
theorem dX5_copy_45 : decode cX5_copy 45 = .ok (.getfield 15, 3) := by decide +kernel
theorem dX5_copy_48 : decode cX5_copy 48 = .ok (.iconst 0, 1) := by decide +kernel
theorem dX5_copy_49 : decode cX5_copy 49 = .ok (.bipush 6, 2) := by decide +kernel
theorem dX5_copy_51 : decode cX5_copy 51 = .ok (.invokestatic 62, 3) := by decide +kernel
theorem dX5_copy_54 : decode cX5_copy 54 = .ok (.aload_n 1, 1) := by decide +kernel
theorem dX5_copy_55 : decode cX5_copy 55 = .ok (.getfield 18, 3) := by decide +kernel
theorem dX5_copy_58 : decode cX5_copy 58 = .ok (.iconst 0, 1) := by decide +kernel
theorem dX5_copy_59 : decode cX5_copy 59 = .ok (.aload_n 0, 1) := by decide +kernel
theorem dX5_copy_60 : decode cX5_copy 60 = .ok (.getfield 18, 3) := by decide +kernel
theorem dX5_copy_63 : decode cX5_copy 63 = .ok (.iconst 0, 1) := by decide +kernel
theorem dX5_copy_64 : decode cX5_copy 64 = .ok (.bipush 6, 2) := by decide +kernel
theorem dX5_copy_66 : decode cX5_copy 66 = .ok (.invokestatic 62, 3) := by decide +kernel
theorem dX5_copy_69 : decode cX5_copy 69 = .ok (.aload_n 1, 1) := by decide +kernel
theorem dX5_copy_70 : decode cX5_copy 70 = .ok (.getfield 21, 3) := by decide +kernel
theorem dX5_copy_73 : decode cX5_copy 73 = .ok (.iconst 0, 1) := by decide +kernel
theorem dX5_copy_74 : decode cX5_copy 74 = .ok (.aload_n 0, 1) := by decide +kernel
theorem dX5_copy_75 : decode cX5_copy 75 = .ok (.getfield 21, 3) := by decide +kernel
theorem dX5_copy_78 : decode cX5_copy 78 = .ok (.iconst 0, 1) := by decide +kernel
theorem dX5_copy_79 : decode cX5_copy 79 = .ok (.iconst 4, 1) := by decide +kernel
theorem dX5_copy_80 : decode cX5_copy 80 = .ok (.invokestatic 62, 3) := by decide +kernel
theorem dX5_copy_83 : decode cX5_copy 83 = .ok (.aload_n 1, 1) := by decide +kernel
theorem dX5_copy_84 : decode cX5_copy 84 = .ok (.getfield 24, 3) := by decide +kernel
theorem dX5_copy_87 : decode cX5_copy 87 = .ok (.iconst 0, 1) := by decide +kernel
theorem dX5_copy_88 : decode cX5_copy 88 = .ok (.aload_n 0, 1) := by decide +kernel
theorem dX5_copy_89 : decode cX5_copy 89 = .ok (.getfield 24, 3) := by decide +kernel
theorem dX5_copy_92 : decode cX5_copy 92 = .ok (.iconst 0, 1) := by decide +kernel
theorem dX5_copy_93 : decode cX5_copy 93 = .ok (.iconst 4, 1) := by decide +kernel
theorem dX5_copy_94 : decode cX5_copy 94 = .ok (.invokestatic 62, 3) := by decide +kernel
theorem dX5_copy_97 : decode cX5_copy 97 = .ok (.aload_n 1, 1) := by decide +kernel
theorem dX5_copy_98 : decode cX5_copy 98 = .ok (.getfield 27, 3) := by decide +kernel
theorem dX5_copy_101 : decode cX5_copy 101 = .ok (.iconst 0, 1) := by decide +kernel
theorem dX5_copy_102 : decode cX5_copy 102 = .ok (.aload_n 0, 1) := by decide +kernel
theorem dX5_copy_103 : decode cX5_copy 103 = .ok (.getfield 27, 3) := by decide +kernel
theorem dX5_copy_106 : decode cX5_copy 106 = .ok (.iconst 0, 1) := by decide +kernel
theorem dX5_copy_107 : decode cX5_copy 107 = .ok (.iconst 4, 1) := by decide +kernel
theorem dX5_copy_108 : decode cX5_copy 108 = .ok (.invokestatic 62, 3) := by decide +kernel
theorem dX5_copy_111 : decode cX5_copy 111 = .ok (.aload_n 1, 1) := by decide +kernel
theorem dX5_copy_112 : decode cX5_copy 112 = .ok (.getfield 30, 3) := by decide +kernel
theorem dX5_copy_115 : decode cX5_copy 115 = .ok (.iconst 0, 1) := by decide +kernel
theorem dX5_copy_116 : decode cX5_copy 116 = .ok (.aload_n 0, 1) := by decide +kernel
theorem dX5_copy_117 : decode cX5_copy 117 = .ok (.getfield 30, 3) := by decide +kernel
theorem dX5_copy_120 : decode cX5_copy 120 = .ok (.iconst 0, 1) := by decide +kernel
theorem dX5_copy_121 : decode cX5_copy 121 = .ok (.bipush 54, 2) := by decide +kernel
theorem dX5_copy_123 : decode cX5_copy 123 = .ok (.invokestatic 62, 3) := by decide +kernel
theorem dX5_copy_126 : decode cX5_copy 126 = .ok (.aload_n 1, 1) := by decide +kernel
theorem dX5_copy_127 : decode cX5_copy 127 = .ok (.getfield 33, 3) := by decide +kernel
theorem dX5_copy_130 : decode cX5_copy 130 = .ok (.iconst 0, 1) := by decide +kernel
theorem dX5_copy_131 : decode cX5_copy 131 = .ok (.aload_n 0, 1) := by decide +kernel
theorem dX5_copy_132 : decode cX5_copy 132 = .ok (.getfield 33, 3) := by decide +kernel
theorem dX5_copy_135 : decode cX5_copy 135 = .ok (.iconst 0, 1) := by decide +kernel
theorem dX5_copy_136 : decode cX5_copy 136 = .ok (.bipush 9, 2) := by decide +kernel
theorem dX5_copy_138 : decode cX5_copy 138 = .ok (.invokestatic 62, 3) := by decide +kernel
theorem dX5_copy_141 : decode cX5_copy 141 = .ok (.aload_n 0, 1) := by decide +kernel
theorem dX5_copy_142 : decode cX5_copy 142 = .ok (.getfield 39, 3) := by decide +kernel
theorem dX5_copy_145 : decode cX5_copy 145 = .ok (.aload_n 1, 1) := by decide +kernel
theorem dX5_copy_146 : decode cX5_copy 146 = .ok (.getfield 39, 3) := by decide +kernel
theorem dX5_copy_149 : decode cX5_copy 149 = .ok (.invokevirtual 68, 3) := by decide +kernel
theorem dX5_copy_152 : decode cX5_copy 152 = .ok (.return_, 1) := by decide +kernel
theorem dX6_read_0 : decode cX6_read 0 = .ok (.aload_n 0, 1) := by decide +kernel
theorem dX6_read_1 : decode cX6_read 1 = .ok (.getfield 23, 3) := by decide +kernel
theorem dX6_read_4 : decode cX6_read 4 = .ok (.iload_n 1, 1) := by decide +kernel
theorem dX6_read_5 : decode cX6_read 5 = .ok (.invokevirtual 27, 3) := by decide +kernel
theorem dX6_read_8 : decode cX6_read 8 = .ok (.aload_n 0, 1) := by decide +kernel
theorem dX6_read_9 : decode cX6_read 9 = .ok (.iconst 0, 1) := by decide +kernel
theorem dX6_read_10 : decode cX6_read 10 = .ok (.putfield 31, 3) := by decide +kernel
theorem dX6_read_13 : decode cX6_read 13 = .ok (.aload_n 0, 1) := by decide +kernel
theorem dX6_read_14 : decode cX6_read 14 = .ok (.iconst 0, 1) := by decide +kernel
theorem dX6_read_15 : decode cX6_read 15 = .ok (.putfield 35, 3) := by decide +kernel
theorem dX6_read_18 : decode cX6_read 18 = .ok (.aload_n 0, 1) := by decide +kernel
theorem dX6_read_19 : decode cX6_read 19 = .ok (.iconst 0, 1) := by decide +kernel
theorem dX6_read_20 : decode cX6_read 20 = .ok (.putfield 38, 3) := by decide +kernel
theorem dX6_read_23 : decode cX6_read 23 = .ok (.aload_n 0, 1) := by decide +kernel
theorem dX6_read_24 : decode cX6_read 24 = .ok (.getfield 12, 3) := by decide +kernel
theorem dX6_read_27 : decode cX6_read 27 = .ok (.invokevirtual 42, 3) := by decide +kernel
theorem dX6_read_30 : decode cX6_read 30 = .ok (.iconst 0, 1) := by decide +kernel
theorem dX6_read_31 : decode cX6_read 31 = .ok (.istore_n 2, 1) := by decide +kernel
theorem dX6_read_32 : decode cX6_read 32 = .ok (.iload_n 2, 1) := by decide +kernel
theorem dX6_read_33 : decode cX6_read 33 = .ok (.sipush 600, 3) := by decide +kernel
theorem dX6_read_36 : decode cX6_read 36 = .ok (.if_icmp .gt 78, 3) := by decide +kernel
theorem dX6_read_39 : decode cX6_read 39 = .ok (.aload_n 0, 1) := by decide +kernel
theorem dX6_read_40 : decode cX6_read 40 = .ok (.invokevirtual 45, 3) := by decide +kernel
theorem dX6_read_43 : decode cX6_read 43 = .ok (.ifCond .eq 71, 3) := by decide +kernel
theorem dX6_read_46 : decode cX6_read 46 = .ok (.aload_n 0, 1) := by decide +kernel
theorem dX6_read_47 : decode cX6_read 47 = .ok (.iconst 0, 1) := by decide +kernel
theorem dX6_read_48 : decode cX6_read 48 = .ok (.invokevirtual 49, 3) := by decide +kernel
theorem dX6_read_51 : decode cX6_read 51 = .ok (.ifCond .eq 34, 3) := by decide +kernel
theorem dX6_read_54 : decode cX6_read 54 = .ok (.aload_n 0, 1) := by decide +kernel
theorem dX6_read_55 : decode cX6_read 55 = .ok (.getfield 12, 3) := by decide +kernel
theorem dX6_read_58 : decode cX6_read 58 = .ok (.getfield 53, 3) := by decide +kernel
theorem dX6_read_61 : decode cX6_read 61 = .ok (.ifCond .eq 13, 3) := by decide +kernel
theorem dX6_read_64 : decode cX6_read 64 = .ok (.aload_n 0, 1) := by decide +kernel
theorem dX6_read_65 : decode cX6_read 65 = .ok (.getfield 12, 3) := by decide +kernel
theorem dX6_read_68 : decode cX6_read 68 = .ok (.getfield 56, 3) := by decide +kernel
theorem dX6_read_71 : decode cX6_read 71 = .ok (.ifCond .ne 9, 3) := by decide +kernel
theorem dX6_read_74 : decode cX6_read 74 = .ok (.aload_n 0, 1) := by decide +kernel
theorem dX6_read_75 : decode cX6_read 75 = .ok (.iconst 5, 1) := by decide +kernel
theorem dX6_read_76 : decode cX6_read 76 = .ok (.invokevirtual 59, 3) := by decide +kernel
theorem dX6_read_79 : decode cX6_read 79 = .ok (.pop, 1) := by decide +kernel
theorem dX6_read_80 : decode cX6_read 80 = .ok (.aload_n 0, 1) := by decide +kernel
theorem dX6_read_81 : decode cX6_read 81 = .ok (.getfield 35, 3) := by decide +kernel
theorem dX6_read_84 : decode cX6_read 84 = .ok (.ireturn, 1) := by decide +kernel
theorem dX6_read_85 : decode cX6_read 85 = .ok (.aload_n 0, 1) := by decide +kernel
theorem dX6_read_86 : decode cX6_read 86 = .ok (.iconst 3, 1) := by decide +kernel
theorem dX6_read_87 : decode cX6_read 87 = .ok (.invokevirtual 49, 3) := by decide +kernel
theorem dX6_read_90 : decode cX6_read 90 = .ok (.ifCond .ne 14, 3) := by decide +kernel
theorem dX6_read_93 : decode cX6_read 93 = .ok (.aload_n 0, 1) := by decide +kernel
theorem dX6_read_94 : decode cX6_read 94 = .ok (.iconst 1, 1) := by decide +kernel
theorem dX6_read_95 : decode cX6_read 95 = .ok (.invokevirtual 59, 3) := by decide +kernel
theorem dX6_read_98 : decode cX6_read 98 = .ok (.pop, 1) := by decide +kernel
theorem dX6_read_99 : decode cX6_read 99 = .ok (.aload_n 0, 1) := by decide +kernel
theorem dX6_read_100 : decode cX6_read 100 = .ok (.getfield 35, 3) := by decide +kernel
theorem dX6_read_103 : decode cX6_read 103 = .ok (.ireturn, 1) := by decide +kernel
theorem dX6_read_104 : decode cX6_read 104 = .ok (.aload_n 0, 1) := by decide +kernel
theorem dX6_read_105 : decode cX6_read 105 = .ok (.invokevirtual 62, 3) := by decide +kernel
theorem dX6_read_108 : decode cX6_read 108 = .ok (.iinc 2 1, 3) := by decide +kernel
theorem dX6_read_111 : decode cX6_read 111 = .ok (.goto (-79), 3) := by decide +kernel
theorem dX6_read_114 : decode cX6_read 114 = .ok (.aload_n 0, 1) := by decide +kernel
theorem dX6_read_115 : decode cX6_read 115 = .ok (.getfield 35, 3) := by decide +kernel
theorem dX6_read_118 : decode cX6_read 118 = .ok (.ireturn, 1) := by decide +kernel
theorem dX6_placeReached_0 : decode cX6_placeReached 0 = .ok (.aload_n 0, 1) := by decide +kernel
theorem dX6_placeReached_1 : decode cX6_placeReached 1 = .ok (.getfield 23, 3) := by decide +kernel
theorem dX6_placeReached_4 : decode cX6_placeReached 4 = .ok (.getfield 65, 3) := by decide +kernel
theorem dX6_placeReached_7 : decode cX6_placeReached 7 = .ok (.aload_n 0, 1) := by decide +kernel
theorem dX6_placeReached_8 : decode cX6_placeReached 8 = .ok (.getfield 31, 3) := by decide +kernel
theorem dX6_placeReached_11 : decode cX6_placeReached 11 = .ok (.iaload, 1) := by decide +kernel
theorem dX6_placeReached_12 : decode cX6_placeReached 12 = .ok (.ireturn, 1) := by decide +kernel
theorem dX6_readLine_0 : decode cX6_readLine 0 = .ok (.aload_n 0, 1) := by decide +kernel
theorem dX6_readLine_1 : decode cX6_readLine 1 = .ok (.iconst 1, 1) := by decide +kernel
theorem dX6_readLine_2 : decode cX6_readLine 2 = .ok (.invokevirtual 49, 3) := by decide +kernel
theorem dX6_readLine_5 : decode cX6_readLine 5 = .ok (.ifCond .ne 9, 3) := by decide +kernel
theorem dX6_readLine_8 : decode cX6_readLine 8 = .ok (.aload_n 0, 1) := by decide +kernel
theorem dX6_readLine_9 : decode cX6_readLine 9 = .ok (.iconst 1, 1) := by decide +kernel
theorem dX6_readLine_10 : decode cX6_readLine 10 = .ok (.invokevirtual 59, 3) := by decide +kernel
theorem dX6_readLine_13 : decode cX6_readLine 13 = .ok (.ireturn, 1) := by decide +kernel
theorem dX6_readLine_14 : decode cX6_readLine 14 = .ok (.aload_n 0, 1) := by decide +kernel
theorem dX6_readLine_15 : decode cX6_readLine 15 = .ok (.getfield 23, 3) := by decide +kernel
theorem dX6_readLine_18 : decode cX6_readLine 18 = .ok (.getfield 69, 3) := by decide +kernel
theorem dX6_readLine_21 : decode cX6_readLine 21 = .ok (.aload_n 0, 1) := by decide +kernel
theorem dX6_readLine_22 : decode cX6_readLine 22 = .ok (.getfield 31, 3) := by decide +kernel
theorem dX6_readLine_25 : decode cX6_readLine 25 = .ok (.iaload, 1) := by decide +kernel
theorem dX6_readLine_26 : decode cX6_readLine 26 = .ok (.tableswitch 75 0 8 #[50, 55, 75, 75, 75, 60, 65, 75, 70], 50) := by decide +kernel
theorem dX6_readLine_76 : decode cX6_readLine 76 = .ok (.aload_n 0, 1) := by decide +kernel
theorem dX6_readLine_77 : decode cX6_readLine 77 = .ok (.invokevirtual 72, 3) := by decide +kernel
theorem dX6_readLine_80 : decode cX6_readLine 80 = .ok (.ireturn, 1) := by decide +kernel
theorem dX6_readLine_81 : decode cX6_readLine 81 = .ok (.aload_n 0, 1) := by decide +kernel
theorem dX6_readLine_82 : decode cX6_readLine 82 = .ok (.invokevirtual 75, 3) := by decide +kernel
theorem dX6_readLine_85 : decode cX6_readLine 85 = .ok (.ireturn, 1) := by decide +kernel
theorem dX6_readLine_86 : decode cX6_readLine 86 = .ok (.aload_n 0, 1) := by decide +kernel
theorem dX6_readLine_87 : decode cX6_readLine 87 = .ok (.invokevirtual 78, 3) := by decide +kernel
theorem dX6_readLine_90 : decode cX6_readLine 90 = .ok (.ireturn, 1) := by decide +kernel
theorem dX6_readLine_91 : decode cX6_readLine 91 = .ok (.aload_n 0, 1) := by decide +kernel
theorem dX6_readLine_92 : decode cX6_readLine 92 = .ok (.invokevirtual 81, 3) := by decide +kernel
theorem dX6_readLine_95 : decode cX6_readLine 95 = .ok (.ireturn, 1) := by decide +kernel
theorem dX6_readLine_96 : decode cX6_readLine 96 = .ok (.aload_n 0, 1) := by decide +kernel
theorem dX6_readLine_97 : decode cX6_readLine 97 = .ok (.invokevirtual 84, 3) := by decide +kernel
theorem dX6_readLine_100 : decode cX6_readLine 100 = .ok (.ireturn, 1) := by decide +kernel
theorem dX6_readLine_101 : decode cX6_readLine 101 = .ok (.aload_n 0, 1) := by decide +kernel
theorem dX6_readLine_102 : decode cX6_readLine 102 = .ok (.iconst 1, 1) := by decide +kernel
theorem dX6_readLine_103 : decode cX6_readLine 103 = .ok (.invokevirtual 59, 3) := by decide +kernel
theorem dX6_readLine_106 : decode cX6_readLine 106 = .ok (.ireturn, 1) := by decide +kernel
theorem dX6_readWare_0 : decode cX6_readWare 0 = .ok (.aload_n 0, 1) := by decide +kernel
theorem dX6_readWare_1 : decode cX6_readWare 1 = .ok (.getfield 12, 3) := by decide +kernel
theorem dX6_readWare_4 : decode cX6_readWare 4 = .ok (.getfield 53, 3) := by decide +kernel
theorem dX6_readWare_7 : decode cX6_readWare 7 = .ok (.iconst 3, 1) := by decide +kernel
theorem dX6_readWare_8 : decode cX6_readWare 8 = .ok (.if_icmp .ge 13, 3) := by decide +kernel
theorem dX6_readWare_11 : decode cX6_readWare 11 = .ok (.aload_n 0, 1) := by decide +kernel
theorem dX6_readWare_12 : decode cX6_readWare 12 = .ok (.getfield 12, 3) := by decide +kernel
theorem dX6_readWare_15 : decode cX6_readWare 15 = .ok (.getfield 56, 3) := by decide +kernel
theorem dX6_readWare_18 : decode cX6_readWare 18 = .ok (.ifCond .le 9, 3) := by decide +kernel
theorem dX6_readWare_21 : decode cX6_readWare 21 = .ok (.aload_n 0, 1) := by decide +kernel
theorem dX6_readWare_22 : decode cX6_readWare 22 = .ok (.iconst 4, 1) := by decide +kernel
theorem dX6_readWare_23 : decode cX6_readWare 23 = .ok (.invokevirtual 59, 3) := by decide +kernel
theorem dX6_readWare_26 : decode cX6_readWare 26 = .ok (.ireturn, 1) := by decide +kernel
theorem dX6_readWare_27 : decode cX6_readWare 27 = .ok (.aload_n 0, 1) := by decide +kernel
theorem dX6_readWare_28 : decode cX6_readWare 28 = .ok (.invokevirtual 62, 3) := by decide +kernel
theorem dX6_readWare_31 : decode cX6_readWare 31 = .ok (.aload_n 0, 1) := by decide +kernel
theorem dX6_readWare_32 : decode cX6_readWare 32 = .ok (.aload_n 0, 1) := by decide +kernel
theorem dX6_readWare_33 : decode cX6_readWare 33 = .ok (.getfield 12, 3) := by decide +kernel
theorem dX6_readWare_36 : decode cX6_readWare 36 = .ok (.getfield 53, 3) := by decide +kernel
theorem dX6_readWare_39 : decode cX6_readWare 39 = .ok (.invokevirtual 87, 3) := by decide +kernel
theorem dX6_readWare_42 : decode cX6_readWare 42 = .ok (.ifCond .ne 5, 3) := by decide +kernel
theorem dX6_readWare_45 : decode cX6_readWare 45 = .ok (.iconst 0, 1) := by decide +kernel
theorem dX6_readWare_46 : decode cX6_readWare 46 = .ok (.ireturn, 1) := by decide +kernel
theorem dX6_readWare_47 : decode cX6_readWare 47 = .ok (.aload_n 0, 1) := by decide +kernel
theorem dX6_readWare_48 : decode cX6_readWare 48 = .ok (.getfield 12, 3) := by decide +kernel
theorem dX6_readWare_51 : decode cX6_readWare 51 = .ok (.dup, 1) := by decide +kernel
theorem dX6_readWare_52 : decode cX6_readWare 52 = .ok (.getfield 53, 3) := by decide +kernel
theorem dX6_readWare_55 : decode cX6_readWare 55 = .ok (.iconst 1, 1) := by decide +kernel
theorem dX6_readWare_56 : decode cX6_readWare 56 = .ok (.iadd, 1) := by decide +kernel
theorem dX6_readWare_57 : decode cX6_readWare 57 = .ok (.putfield 53, 3) := by decide +kernel
theorem dX6_readWare_60 : decode cX6_readWare 60 = .ok (.iconst 1, 1) := by decide +kernel
theorem dX6_readWare_61 : decode cX6_readWare 61 = .ok (.ireturn, 1) := by decide +kernel
theorem dX6_readBench_0 : decode cX6_readBench 0 = .ok (.aload_n 0, 1) := by decide +kernel
theorem dX6_readBench_1 : decode cX6_readBench 1 = .ok (.getfield 12, 3) := by decide +kernel
theorem dX6_readBench_4 : decode cX6_readBench 4 = .ok (.getfield 56, 3) := by decide +kernel
theorem dX6_readBench_7 : decode cX6_readBench 7 = .ok (.istore_n 1, 1) := by decide +kernel
theorem dX6_readBench_8 : decode cX6_readBench 8 = .ok (.iload_n 1, 1) := by decide +kernel
theorem dX6_readBench_9 : decode cX6_readBench 9 = .ok (.bipush 6, 2) := by decide +kernel
theorem dX6_readBench_11 : decode cX6_readBench 11 = .ok (.if_icmp .lt 9, 3) := by decide +kernel
theorem dX6_readBench_14 : decode cX6_readBench 14 = .ok (.aload_n 0, 1) := by decide +kernel
theorem dX6_readBench_15 : decode cX6_readBench 15 = .ok (.iconst 4, 1) := by decide +kernel
theorem dX6_readBench_16 : decode cX6_readBench 16 = .ok (.invokevirtual 59, 3) := by decide +kernel
theorem dX6_readBench_19 : decode cX6_readBench 19 = .ok (.ireturn, 1) := by decide +kernel
theorem dX6_readBench_20 : decode cX6_readBench 20 = .ok (.aload_n 0, 1) := by decide +kernel
theorem dX6_readBench_21 : decode cX6_readBench 21 = .ok (.invokevirtual 62, 3) := by decide +kernel
theorem dX6_readBench_24 : decode cX6_readBench 24 = .ok (.aload_n 0, 1) := by decide +kernel
theorem dX6_readBench_25 : decode cX6_readBench 25 = .ok (.iconst 3, 1) := by decide +kernel
theorem dX6_readBench_26 : decode cX6_readBench 26 = .ok (.iload_n 1, 1) := by decide +kernel
theorem dX6_readBench_27 : decode cX6_readBench 27 = .ok (.iadd, 1) := by decide +kernel
theorem dX6_readBench_28 : decode cX6_readBench 28 = .ok (.invokevirtual 87, 3) := by decide +kernel
theorem dX6_readBench_31 : decode cX6_readBench 31 = .ok (.ifCond .ne 5, 3) := by decide +kernel
theorem dX6_readBench_34 : decode cX6_readBench 34 = .ok (.iconst 0, 1) := by decide +kernel
theorem dX6_readBench_35 : decode cX6_readBench 35 = .ok (.ireturn, 1) := by decide +kernel
theorem dX6_readBench_36 : decode cX6_readBench 36 = .ok (.aload_n 0, 1) := by decide +kernel
theorem dX6_readBench_37 : decode cX6_readBench 37 = .ok (.getfield 12, 3) := by decide +kernel
theorem dX6_readBench_40 : decode cX6_readBench 40 = .ok (.dup, 1) := by decide +kernel
theorem dX6_readBench_41 : decode cX6_readBench 41 = .ok (.getfield 56, 3) := by decide +kernel
theorem dX6_readBench_44 : decode cX6_readBench 44 = .ok (.iconst 1, 1) := by decide +kernel
theorem dX6_readBench_45 : decode cX6_readBench 45 = .ok (.iadd, 1) := by decide +kernel
theorem dX6_readBench_46 : decode cX6_readBench 46 = .ok (.putfield 56, 3) := by decide +kernel
theorem dX6_readBench_49 : decode cX6_readBench 49 = .ok (.aload_n 0, 1) := by decide +kernel
theorem dX6_readBench_50 : decode cX6_readBench 50 = .ok (.iload_n 1, 1) := by decide +kernel
theorem dX6_readBench_51 : decode cX6_readBench 51 = .ok (.invokevirtual 90, 3) := by decide +kernel
theorem dX6_readBench_54 : decode cX6_readBench 54 = .ok (.ifCond .eq 23, 3) := by decide +kernel
theorem dX6_readBench_57 : decode cX6_readBench 57 = .ok (.aload_n 0, 1) := by decide +kernel
theorem dX6_readBench_58 : decode cX6_readBench 58 = .ok (.iload_n 1, 1) := by decide +kernel
theorem dX6_readBench_59 : decode cX6_readBench 59 = .ok (.invokevirtual 93, 3) := by decide +kernel
theorem dX6_readBench_62 : decode cX6_readBench 62 = .ok (.ifCond .eq 15, 3) := by decide +kernel
theorem dX6_readBench_65 : decode cX6_readBench 65 = .ok (.aload_n 0, 1) := by decide +kernel
theorem dX6_readBench_66 : decode cX6_readBench 66 = .ok (.iload_n 1, 1) := by decide +kernel
theorem dX6_readBench_67 : decode cX6_readBench 67 = .ok (.invokevirtual 96, 3) := by decide +kernel
theorem dX6_readBench_70 : decode cX6_readBench 70 = .ok (.ifCond .eq 7, 3) := by decide +kernel
theorem dX6_readBench_73 : decode cX6_readBench 73 = .ok (.iconst 1, 1) := by decide +kernel
theorem dX6_readBench_74 : decode cX6_readBench 74 = .ok (.goto 4, 3) := by decide +kernel
theorem dX6_readBench_77 : decode cX6_readBench 77 = .ok (.iconst 0, 1) := by decide +kernel
theorem dX6_readBench_78 : decode cX6_readBench 78 = .ok (.ireturn, 1) := by decide +kernel
theorem dX6_readTimes_0 : decode cX6_readTimes 0 = .ok (.aload_n 0, 1) := by decide +kernel
theorem dX6_readTimes_1 : decode cX6_readTimes 1 = .ok (.getfield 12, 3) := by decide +kernel
theorem dX6_readTimes_4 : decode cX6_readTimes 4 = .ok (.getfield 53, 3) := by decide +kernel
theorem dX6_readTimes_7 : decode cX6_readTimes 7 = .ok (.ifCond .ne 9, 3) := by decide +kernel
theorem dX6_readTimes_10 : decode cX6_readTimes 10 = .ok (.aload_n 0, 1) := by decide +kernel
theorem dX6_readTimes_11 : decode cX6_readTimes 11 = .ok (.iconst 1, 1) := by decide +kernel
theorem dX6_readTimes_12 : decode cX6_readTimes 12 = .ok (.invokevirtual 59, 3) := by decide +kernel
theorem dX6_readTimes_15 : decode cX6_readTimes 15 = .ok (.ireturn, 1) := by decide +kernel
theorem dX6_readTimes_16 : decode cX6_readTimes 16 = .ok (.iconst 0, 1) := by decide +kernel
theorem dX6_readTimes_17 : decode cX6_readTimes 17 = .ok (.istore_n 2, 1) := by decide +kernel
theorem dX6_readTimes_18 : decode cX6_readTimes 18 = .ok (.iload_n 2, 1) := by decide +kernel
theorem dX6_readTimes_19 : decode cX6_readTimes 19 = .ok (.aload_n 0, 1) := by decide +kernel
theorem dX6_readTimes_20 : decode cX6_readTimes 20 = .ok (.getfield 12, 3) := by decide +kernel
theorem dX6_readTimes_23 : decode cX6_readTimes 23 = .ok (.getfield 53, 3) := by decide +kernel
theorem dX6_readTimes_26 : decode cX6_readTimes 26 = .ok (.if_icmp .ge 79, 3) := by decide +kernel
theorem dX6_readTimes_29 : decode cX6_readTimes 29 = .ok (.iload_n 2, 1) := by decide +kernel
theorem dX6_readTimes_30 : decode cX6_readTimes 30 = .ok (.ifCond .le 21, 3) := by decide +kernel
theorem dX6_readTimes_33 : decode cX6_readTimes 33 = .ok (.aload_n 0, 1) := by decide +kernel
theorem dX6_readTimes_34 : decode cX6_readTimes 34 = .ok (.iconst 4, 1) := by decide +kernel
theorem dX6_readTimes_35 : decode cX6_readTimes 35 = .ok (.invokevirtual 49, 3) := by decide +kernel
theorem dX6_readTimes_38 : decode cX6_readTimes 38 = .ok (.ifCond .ne 9, 3) := by decide +kernel
theorem dX6_readTimes_41 : decode cX6_readTimes 41 = .ok (.aload_n 0, 1) := by decide +kernel
theorem dX6_readTimes_42 : decode cX6_readTimes 42 = .ok (.iconst 1, 1) := by decide +kernel
theorem dX6_readTimes_43 : decode cX6_readTimes 43 = .ok (.invokevirtual 59, 3) := by decide +kernel
theorem dX6_readTimes_46 : decode cX6_readTimes 46 = .ok (.ireturn, 1) := by decide +kernel
theorem dX6_readTimes_47 : decode cX6_readTimes 47 = .ok (.aload_n 0, 1) := by decide +kernel
theorem dX6_readTimes_48 : decode cX6_readTimes 48 = .ok (.invokevirtual 62, 3) := by decide +kernel
theorem dX6_readTimes_51 : decode cX6_readTimes 51 = .ok (.aload_n 0, 1) := by decide +kernel
theorem dX6_readTimes_52 : decode cX6_readTimes 52 = .ok (.iconst 1, 1) := by decide +kernel
theorem dX6_readTimes_53 : decode cX6_readTimes 53 = .ok (.bipush 60, 2) := by decide +kernel
theorem dX6_readTimes_55 : decode cX6_readTimes 55 = .ok (.invokevirtual 99, 3) := by decide +kernel
theorem dX6_readTimes_58 : decode cX6_readTimes 58 = .ok (.istore_n 3, 1) := by decide +kernel
theorem dX6_readTimes_59 : decode cX6_readTimes 59 = .ok (.iload_n 3, 1) := by decide +kernel
theorem dX6_readTimes_60 : decode cX6_readTimes 60 = .ok (.ifCond .ge 5, 3) := by decide +kernel
theorem dX6_readTimes_63 : decode cX6_readTimes 63 = .ok (.iconst 0, 1) := by decide +kernel
theorem dX6_readTimes_64 : decode cX6_readTimes 64 = .ok (.ireturn, 1) := by decide +kernel
theorem dX6_readTimes_65 : decode cX6_readTimes 65 = .ok (.aload_n 0, 1) := by decide +kernel
theorem dX6_readTimes_66 : decode cX6_readTimes 66 = .ok (.getfield 12, 3) := by decide +kernel
theorem dX6_readTimes_69 : decode cX6_readTimes 69 = .ok (.getfield 103, 3) := by decide +kernel
theorem dX6_readTimes_72 : decode cX6_readTimes 72 = .ok (.getfield 107, 3) := by decide +kernel
theorem dX6_readTimes_75 : decode cX6_readTimes 75 = .ok (.iload_n 1, 1) := by decide +kernel
theorem dX6_readTimes_76 : decode cX6_readTimes 76 = .ok (.iload_n 2, 1) := by decide +kernel
theorem dX6_readTimes_77 : decode cX6_readTimes 77 = .ok (.invokestatic 112, 3) := by decide +kernel
theorem dX6_readTimes_80 : decode cX6_readTimes 80 = .ok (.iload_n 3, 1) := by decide +kernel
theorem dX6_readTimes_81 : decode cX6_readTimes 81 = .ok (.iastore, 1) := by decide +kernel
theorem dX6_readTimes_82 : decode cX6_readTimes 82 = .ok (.aload_n 0, 1) := by decide +kernel
theorem dX6_readTimes_83 : decode cX6_readTimes 83 = .ok (.getfield 12, 3) := by decide +kernel
theorem dX6_readTimes_86 : decode cX6_readTimes 86 = .ok (.getfield 103, 3) := by decide +kernel
theorem dX6_readTimes_89 : decode cX6_readTimes 89 = .ok (.getfield 115, 3) := by decide +kernel
theorem dX6_readTimes_92 : decode cX6_readTimes 92 = .ok (.iload_n 1, 1) := by decide +kernel
theorem dX6_readTimes_93 : decode cX6_readTimes 93 = .ok (.iload_n 2, 1) := by decide +kernel
theorem dX6_readTimes_94 : decode cX6_readTimes 94 = .ok (.invokestatic 112, 3) := by decide +kernel
theorem dX6_readTimes_97 : decode cX6_readTimes 97 = .ok (.iconst 1, 1) := by decide +kernel
theorem dX6_readTimes_98 : decode cX6_readTimes 98 = .ok (.iastore, 1) := by decide +kernel
theorem dX6_readTimes_99 : decode cX6_readTimes 99 = .ok (.iinc 2 1, 3) := by decide +kernel
theorem dX6_readTimes_102 : decode cX6_readTimes 102 = .ok (.goto (-84), 3) := by decide +kernel
theorem dX6_readTimes_105 : decode cX6_readTimes 105 = .ok (.iconst 1, 1) := by decide +kernel
theorem dX6_readTimes_106 : decode cX6_readTimes 106 = .ok (.ireturn, 1) := by decide +kernel
theorem dX6_readSetup_0 : decode cX6_readSetup 0 = .ok (.aload_n 0, 1) := by decide +kernel
theorem dX6_readSetup_1 : decode cX6_readSetup 1 = .ok (.iconst 2, 1) := by decide +kernel
theorem dX6_readSetup_2 : decode cX6_readSetup 2 = .ok (.invokevirtual 118, 3) := by decide +kernel
theorem dX6_readSetup_5 : decode cX6_readSetup 5 = .ok (.ifCond .ne 5, 3) := by decide +kernel
theorem dX6_readSetup_8 : decode cX6_readSetup 8 = .ok (.iconst 1, 1) := by decide +kernel
theorem dX6_readSetup_9 : decode cX6_readSetup 9 = .ok (.ireturn, 1) := by decide +kernel
theorem dX6_readSetup_10 : decode cX6_readSetup 10 = .ok (.aload_n 0, 1) := by decide +kernel
theorem dX6_readSetup_11 : decode cX6_readSetup 11 = .ok (.invokevirtual 62, 3) := by decide +kernel
theorem dX6_readSetup_14 : decode cX6_readSetup 14 = .ok (.aload_n 0, 1) := by decide +kernel
theorem dX6_readSetup_15 : decode cX6_readSetup 15 = .ok (.iconst 0, 1) := by decide +kernel
theorem dX6_readSetup_16 : decode cX6_readSetup 16 = .ok (.bipush 60, 2) := by decide +kernel
theorem dX6_readSetup_18 : decode cX6_readSetup 18 = .ok (.invokevirtual 99, 3) := by decide +kernel
theorem dX6_readSetup_21 : decode cX6_readSetup 21 = .ok (.istore_n 2, 1) := by decide +kernel
theorem dX6_readSetup_22 : decode cX6_readSetup 22 = .ok (.iload_n 2, 1) := by decide +kernel
theorem dX6_readSetup_23 : decode cX6_readSetup 23 = .ok (.ifCond .ge 5, 3) := by decide +kernel
theorem dX6_readSetup_26 : decode cX6_readSetup 26 = .ok (.iconst 0, 1) := by decide +kernel
theorem dX6_readSetup_27 : decode cX6_readSetup 27 = .ok (.ireturn, 1) := by decide +kernel
theorem dX6_readSetup_28 : decode cX6_readSetup 28 = .ok (.aload_n 0, 1) := by decide +kernel
theorem dX6_readSetup_29 : decode cX6_readSetup 29 = .ok (.getfield 12, 3) := by decide +kernel
theorem dX6_readSetup_32 : decode cX6_readSetup 32 = .ok (.getfield 121, 3) := by decide +kernel
theorem dX6_readSetup_35 : decode cX6_readSetup 35 = .ok (.iload_n 1, 1) := by decide +kernel
theorem dX6_readSetup_36 : decode cX6_readSetup 36 = .ok (.iload_n 2, 1) := by decide +kernel
theorem dX6_readSetup_37 : decode cX6_readSetup 37 = .ok (.iastore, 1) := by decide +kernel
theorem dX6_readSetup_38 : decode cX6_readSetup 38 = .ok (.iconst 1, 1) := by decide +kernel
theorem dX6_readSetup_39 : decode cX6_readSetup 39 = .ok (.ireturn, 1) := by decide +kernel
theorem dX6_readRest_0 : decode cX6_readRest 0 = .ok (.aload_n 0, 1) := by decide +kernel
theorem dX6_readRest_1 : decode cX6_readRest 1 = .ok (.iconst 3, 1) := by decide +kernel
theorem dX6_readRest_2 : decode cX6_readRest 2 = .ok (.invokevirtual 118, 3) := by decide +kernel
theorem dX6_readRest_5 : decode cX6_readRest 5 = .ok (.ifCond .ne 5, 3) := by decide +kernel
theorem dX6_readRest_8 : decode cX6_readRest 8 = .ok (.iconst 1, 1) := by decide +kernel
theorem dX6_readRest_9 : decode cX6_readRest 9 = .ok (.ireturn, 1) := by decide +kernel
theorem dX6_readRest_10 : decode cX6_readRest 10 = .ok (.aload_n 0, 1) := by decide +kernel
theorem dX6_readRest_11 : decode cX6_readRest 11 = .ok (.invokevirtual 62, 3) := by decide +kernel
theorem dX6_readRest_14 : decode cX6_readRest 14 = .ok (.aload_n 0, 1) := by decide +kernel
theorem dX6_readRest_15 : decode cX6_readRest 15 = .ok (.iconst 1, 1) := by decide +kernel
theorem dX6_readRest_16 : decode cX6_readRest 16 = .ok (.bipush 60, 2) := by decide +kernel
theorem dX6_readRest_18 : decode cX6_readRest 18 = .ok (.invokevirtual 99, 3) := by decide +kernel
theorem dX6_readRest_21 : decode cX6_readRest 21 = .ok (.istore_n 2, 1) := by decide +kernel
theorem dX6_readRest_22 : decode cX6_readRest 22 = .ok (.iload_n 2, 1) := by decide +kernel
theorem dX6_readRest_23 : decode cX6_readRest 23 = .ok (.ifCond .lt 11, 3) := by decide +kernel
theorem dX6_readRest_26 : decode cX6_readRest 26 = .ok (.aload_n 0, 1) := by decide +kernel
theorem dX6_readRest_27 : decode cX6_readRest 27 = .ok (.iconst 4, 1) := by decide +kernel
theorem dX6_readRest_28 : decode cX6_readRest 28 = .ok (.invokevirtual 124, 3) := by decide +kernel
theorem dX6_readRest_31 : decode cX6_readRest 31 = .ok (.ifCond .ne 5, 3) := by decide +kernel
theorem dX6_readRest_34 : decode cX6_readRest 34 = .ok (.iconst 0, 1) := by decide +kernel
theorem dX6_readRest_35 : decode cX6_readRest 35 = .ok (.ireturn, 1) := by decide +kernel
theorem dX6_readRest_36 : decode cX6_readRest 36 = .ok (.aload_n 0, 1) := by decide +kernel
theorem dX6_readRest_37 : decode cX6_readRest 37 = .ok (.iconst 1, 1) := by decide +kernel
theorem dX6_readRest_38 : decode cX6_readRest 38 = .ok (.bipush 99, 2) := by decide +kernel
theorem dX6_readRest_40 : decode cX6_readRest 40 = .ok (.invokevirtual 99, 3) := by decide +kernel
theorem dX6_readRest_43 : decode cX6_readRest 43 = .ok (.istore_n 3, 1) := by decide +kernel
theorem dX6_readRest_44 : decode cX6_readRest 44 = .ok (.iload_n 3, 1) := by decide +kernel
theorem dX6_readRest_45 : decode cX6_readRest 45 = .ok (.ifCond .ge 5, 3) := by decide +kernel
