theorem dc_B_lowest_0 : decode cd_B_lowest 0 = .ok (.ldc2_w 7, 3) := by decide +kernel
theorem dc_B_lowest_3 : decode cd_B_lowest 3 = .ok (.bipush 64, 2) := by decide +kernel
theorem dc_B_lowest_5 : decode cd_B_lowest 5 = .ok (.iload_n 0, 1) := by decide +kernel
theorem dc_B_lowest_6 : decode cd_B_lowest 6 = .ok (.isub, 1) := by decide +kernel
theorem dc_B_lowest_7 : decode cd_B_lowest 7 = .ok (.lushr, 1) := by decide +kernel
theorem dc_B_lowest_8 : decode cd_B_lowest 8 = .ok (.lreturn, 1) := by decide +kernel
theorem dc_B_withHighestInFront_0 : decode cd_B_withHighestInFront 0 = .ok (.lload_n 0, 1) := by decide +kernel
theorem dc_B_withHighestInFront_1 : decode cd_B_withHighestInFront 1 = .ok (.bipush 64, 2) := by decide +kernel
theorem dc_B_withHighestInFront_3 : decode cd_B_withHighestInFront 3 = .ok (.iload_n 2, 1) := by decide +kernel
theorem dc_B_withHighestInFront_4 : decode cd_B_withHighestInFront 4 = .ok (.isub, 1) := by decide +kernel
theorem dc_B_withHighestInFront_5 : decode cd_B_withHighestInFront 5 = .ok (.lshl, 1) := by decide +kernel
theorem dc_B_withHighestInFront_6 : decode cd_B_withHighestInFront 6 = .ok (.bipush 64, 2) := by decide +kernel
theorem dc_B_withHighestInFront_8 : decode cd_B_withHighestInFront 8 = .ok (.iload_n 2, 1) := by decide +kernel
theorem dc_B_withHighestInFront_9 : decode cd_B_withHighestInFront 9 = .ok (.isub, 1) := by decide +kernel
theorem dc_B_withHighestInFront_10 : decode cd_B_withHighestInFront 10 = .ok (.lshr, 1) := by decide +kernel
theorem dc_B_withHighestInFront_11 : decode cd_B_withHighestInFront 11 = .ok (.lreturn, 1) := by decide +kernel
theorem dc_B_below_0 : decode cd_B_below 0 = .ok (.lload_n 0, 1) := by decide +kernel
theorem dc_B_below_1 : decode cd_B_below 1 = .ok (.ldc2_w 11, 3) := by decide +kernel
theorem dc_B_below_4 : decode cd_B_below 4 = .ok (.ladd, 1) := by decide +kernel
theorem dc_B_below_5 : decode cd_B_below 5 = .ok (.lload_n 2, 1) := by decide +kernel
theorem dc_B_below_6 : decode cd_B_below 6 = .ok (.ldc2_w 11, 3) := by decide +kernel
theorem dc_B_below_9 : decode cd_B_below 9 = .ok (.ladd, 1) := by decide +kernel
theorem dc_B_below_10 : decode cd_B_below 10 = .ok (.lcmp, 1) := by decide +kernel
theorem dc_B_below_11 : decode cd_B_below 11 = .ok (.ifCond .ge 7, 3) := by decide +kernel
theorem dc_B_below_14 : decode cd_B_below 14 = .ok (.iconst 1, 1) := by decide +kernel
theorem dc_B_below_15 : decode cd_B_below 15 = .ok (.goto 4, 3) := by decide +kernel
theorem dc_B_below_18 : decode cd_B_below 18 = .ok (.iconst 0, 1) := by decide +kernel
theorem dc_B_below_19 : decode cd_B_below 19 = .ok (.ireturn, 1) := by decide +kernel
theorem dc_B_quotient_0 : decode cd_B_quotient 0 = .ok (.lload_n 2, 1) := by decide +kernel
theorem dc_B_quotient_1 : decode cd_B_quotient 1 = .ok (.lconst 0, 1) := by decide +kernel
theorem dc_B_quotient_2 : decode cd_B_quotient 2 = .ok (.lcmp, 1) := by decide +kernel
theorem dc_B_quotient_3 : decode cd_B_quotient 3 = .ok (.ifCond .gt 17, 3) := by decide +kernel
theorem dc_B_quotient_6 : decode cd_B_quotient 6 = .ok (.lload_n 0, 1) := by decide +kernel
theorem dc_B_quotient_7 : decode cd_B_quotient 7 = .ok (.lload_n 2, 1) := by decide +kernel
theorem dc_B_quotient_8 : decode cd_B_quotient 8 = .ok (.invokestatic 13, 3) := by decide +kernel
theorem dc_B_quotient_11 : decode cd_B_quotient 11 = .ok (.ifCond .eq 7, 3) := by decide +kernel
theorem dc_B_quotient_14 : decode cd_B_quotient 14 = .ok (.lconst 0, 1) := by decide +kernel
theorem dc_B_quotient_15 : decode cd_B_quotient 15 = .ok (.goto 4, 3) := by decide +kernel
theorem dc_B_quotient_18 : decode cd_B_quotient 18 = .ok (.lconst 1, 1) := by decide +kernel
theorem dc_B_quotient_19 : decode cd_B_quotient 19 = .ok (.lreturn, 1) := by decide +kernel
theorem dc_B_quotient_20 : decode cd_B_quotient 20 = .ok (.lload_n 0, 1) := by decide +kernel
theorem dc_B_quotient_21 : decode cd_B_quotient 21 = .ok (.iconst 1, 1) := by decide +kernel
theorem dc_B_quotient_22 : decode cd_B_quotient 22 = .ok (.lushr, 1) := by decide +kernel
theorem dc_B_quotient_23 : decode cd_B_quotient 23 = .ok (.lload_n 2, 1) := by decide +kernel
theorem dc_B_quotient_24 : decode cd_B_quotient 24 = .ok (.ldiv, 1) := by decide +kernel
theorem dc_B_quotient_25 : decode cd_B_quotient 25 = .ok (.iconst 1, 1) := by decide +kernel
theorem dc_B_quotient_26 : decode cd_B_quotient 26 = .ok (.lshl, 1) := by decide +kernel
theorem dc_B_quotient_27 : decode cd_B_quotient 27 = .ok (.lstore 4, 2) := by decide +kernel
theorem dc_B_quotient_29 : decode cd_B_quotient 29 = .ok (.lload_n 0, 1) := by decide +kernel
theorem dc_B_quotient_30 : decode cd_B_quotient 30 = .ok (.lload 4, 2) := by decide +kernel
theorem dc_B_quotient_32 : decode cd_B_quotient 32 = .ok (.lload_n 2, 1) := by decide +kernel
theorem dc_B_quotient_33 : decode cd_B_quotient 33 = .ok (.lmul, 1) := by decide +kernel
theorem dc_B_quotient_34 : decode cd_B_quotient 34 = .ok (.lsub, 1) := by decide +kernel
theorem dc_B_quotient_35 : decode cd_B_quotient 35 = .ok (.lload_n 2, 1) := by decide +kernel
theorem dc_B_quotient_36 : decode cd_B_quotient 36 = .ok (.invokestatic 13, 3) := by decide +kernel
theorem dc_B_quotient_39 : decode cd_B_quotient 39 = .ok (.ifCond .eq 8, 3) := by decide +kernel
theorem dc_B_quotient_42 : decode cd_B_quotient 42 = .ok (.lload 4, 2) := by decide +kernel
theorem dc_B_quotient_44 : decode cd_B_quotient 44 = .ok (.goto 7, 3) := by decide +kernel
theorem dc_B_quotient_47 : decode cd_B_quotient 47 = .ok (.lload 4, 2) := by decide +kernel
theorem dc_B_quotient_49 : decode cd_B_quotient 49 = .ok (.lconst 1, 1) := by decide +kernel
theorem dc_B_quotient_50 : decode cd_B_quotient 50 = .ok (.ladd, 1) := by decide +kernel
theorem dc_B_quotient_51 : decode cd_B_quotient 51 = .ok (.lreturn, 1) := by decide +kernel
theorem dc_B_digits_0 : decode cd_B_digits 0 = .ok (.lload_n 0, 1) := by decide +kernel
theorem dc_B_digits_1 : decode cd_B_digits 1 = .ok (.lstore_n 2, 1) := by decide +kernel
theorem dc_B_digits_2 : decode cd_B_digits 2 = .ok (.iconst 1, 1) := by decide +kernel
theorem dc_B_digits_3 : decode cd_B_digits 3 = .ok (.istore 4, 2) := by decide +kernel
theorem dc_B_digits_5 : decode cd_B_digits 5 = .ok (.iload 4, 2) := by decide +kernel
theorem dc_B_digits_7 : decode cd_B_digits 7 = .ok (.bipush 20, 2) := by decide +kernel
theorem dc_B_digits_9 : decode cd_B_digits 9 = .ok (.if_icmp .ge 26, 3) := by decide +kernel
theorem dc_B_digits_12 : decode cd_B_digits 12 = .ok (.lload_n 2, 1) := by decide +kernel
theorem dc_B_digits_13 : decode cd_B_digits 13 = .ok (.ldc2_w 19, 3) := by decide +kernel
theorem dc_B_digits_16 : decode cd_B_digits 16 = .ok (.invokestatic 21, 3) := by decide +kernel
theorem dc_B_digits_19 : decode cd_B_digits 19 = .ok (.lstore_n 2, 1) := by decide +kernel
theorem dc_B_digits_20 : decode cd_B_digits 20 = .ok (.lload_n 2, 1) := by decide +kernel
theorem dc_B_digits_21 : decode cd_B_digits 21 = .ok (.lconst 0, 1) := by decide +kernel
theorem dc_B_digits_22 : decode cd_B_digits 22 = .ok (.lcmp, 1) := by decide +kernel
theorem dc_B_digits_23 : decode cd_B_digits 23 = .ok (.ifCond .ne 6, 3) := by decide +kernel
theorem dc_B_digits_26 : decode cd_B_digits 26 = .ok (.iload 4, 2) := by decide +kernel
theorem dc_B_digits_28 : decode cd_B_digits 28 = .ok (.ireturn, 1) := by decide +kernel
theorem dc_B_digits_29 : decode cd_B_digits 29 = .ok (.iinc 4 1, 3) := by decide +kernel
theorem dc_B_digits_32 : decode cd_B_digits 32 = .ok (.goto (-27), 3) := by decide +kernel
theorem dc_B_digits_35 : decode cd_B_digits 35 = .ok (.bipush 20, 2) := by decide +kernel
theorem dc_B_digits_37 : decode cd_B_digits 37 = .ok (.ireturn, 1) := by decide +kernel
theorem dc_N_clear_0 : decode cd_N_clear 0 = .ok (.aload_n 0, 1) := by decide +kernel
theorem dc_N_clear_1 : decode cd_N_clear 1 = .ok (.iconst 0, 1) := by decide +kernel
theorem dc_N_clear_2 : decode cd_N_clear 2 = .ok (.putfield 15, 3) := by decide +kernel
theorem dc_N_clear_5 : decode cd_N_clear 5 = .ok (.return_, 1) := by decide +kernel
theorem dc_N_write_0 : decode cd_N_write 0 = .ok (.aload_n 0, 1) := by decide +kernel
theorem dc_N_write_1 : decode cd_N_write 1 = .ok (.getfield 9, 3) := by decide +kernel
theorem dc_N_write_4 : decode cd_N_write 4 = .ok (.aload_n 0, 1) := by decide +kernel
theorem dc_N_write_5 : decode cd_N_write 5 = .ok (.getfield 15, 3) := by decide +kernel
theorem dc_N_write_8 : decode cd_N_write 8 = .ok (.iload_n 1, 1) := by decide +kernel
theorem dc_N_write_9 : decode cd_N_write 9 = .ok (.i2b, 1) := by decide +kernel
theorem dc_N_write_10 : decode cd_N_write 10 = .ok (.bastore, 1) := by decide +kernel
theorem dc_N_write_11 : decode cd_N_write 11 = .ok (.aload_n 0, 1) := by decide +kernel
theorem dc_N_write_12 : decode cd_N_write 12 = .ok (.dup, 1) := by decide +kernel
theorem dc_N_write_13 : decode cd_N_write 13 = .ok (.getfield 15, 3) := by decide +kernel
theorem dc_N_write_16 : decode cd_N_write 16 = .ok (.iconst 1, 1) := by decide +kernel
theorem dc_N_write_17 : decode cd_N_write 17 = .ok (.iadd, 1) := by decide +kernel
theorem dc_N_write_18 : decode cd_N_write 18 = .ok (.putfield 15, 3) := by decide +kernel
theorem dc_N_write_21 : decode cd_N_write 21 = .ok (.return_, 1) := by decide +kernel
theorem dc_N_writeSpaces_0 : decode cd_N_writeSpaces 0 = .ok (.iconst 0, 1) := by decide +kernel
theorem dc_N_writeSpaces_1 : decode cd_N_writeSpaces 1 = .ok (.istore_n 2, 1) := by decide +kernel
theorem dc_N_writeSpaces_2 : decode cd_N_writeSpaces 2 = .ok (.iload_n 2, 1) := by decide +kernel
theorem dc_N_writeSpaces_3 : decode cd_N_writeSpaces 3 = .ok (.iload_n 1, 1) := by decide +kernel
theorem dc_N_writeSpaces_4 : decode cd_N_writeSpaces 4 = .ok (.if_icmp .ge 15, 3) := by decide +kernel
theorem dc_N_writeSpaces_7 : decode cd_N_writeSpaces 7 = .ok (.aload_n 0, 1) := by decide +kernel
theorem dc_N_writeSpaces_8 : decode cd_N_writeSpaces 8 = .ok (.bipush 32, 2) := by decide +kernel
theorem dc_N_writeSpaces_10 : decode cd_N_writeSpaces 10 = .ok (.invokevirtual 19, 3) := by decide +kernel
theorem dc_N_writeSpaces_13 : decode cd_N_writeSpaces 13 = .ok (.iinc 2 1, 3) := by decide +kernel
theorem dc_N_writeSpaces_16 : decode cd_N_writeSpaces 16 = .ok (.goto (-14), 3) := by decide +kernel
theorem dc_N_writeSpaces_19 : decode cd_N_writeSpaces 19 = .ok (.return_, 1) := by decide +kernel
theorem dc_N_writeDigits_0 : decode cd_N_writeDigits 0 = .ok (.lload_n 1, 1) := by decide +kernel
theorem dc_N_writeDigits_1 : decode cd_N_writeDigits 1 = .ok (.lstore 4, 2) := by decide +kernel
theorem dc_N_writeDigits_3 : decode cd_N_writeDigits 3 = .ok (.aload_n 0, 1) := by decide +kernel
theorem dc_N_writeDigits_4 : decode cd_N_writeDigits 4 = .ok (.getfield 15, 3) := by decide +kernel
theorem dc_N_writeDigits_7 : decode cd_N_writeDigits 7 = .ok (.iload_n 3, 1) := by decide +kernel
theorem dc_N_writeDigits_8 : decode cd_N_writeDigits 8 = .ok (.iadd, 1) := by decide +kernel
theorem dc_N_writeDigits_9 : decode cd_N_writeDigits 9 = .ok (.iconst 1, 1) := by decide +kernel
theorem dc_N_writeDigits_10 : decode cd_N_writeDigits 10 = .ok (.isub, 1) := by decide +kernel
theorem dc_N_writeDigits_11 : decode cd_N_writeDigits 11 = .ok (.istore 6, 2) := by decide +kernel
theorem dc_N_writeDigits_13 : decode cd_N_writeDigits 13 = .ok (.iload 6, 2) := by decide +kernel
theorem dc_N_writeDigits_15 : decode cd_N_writeDigits 15 = .ok (.aload_n 0, 1) := by decide +kernel
theorem dc_N_writeDigits_16 : decode cd_N_writeDigits 16 = .ok (.getfield 15, 3) := by decide +kernel
theorem dc_N_writeDigits_19 : decode cd_N_writeDigits 19 = .ok (.if_icmp .lt 45, 3) := by decide +kernel
theorem dc_N_writeDigits_22 : decode cd_N_writeDigits 22 = .ok (.lload 4, 2) := by decide +kernel
theorem dc_N_writeDigits_24 : decode cd_N_writeDigits 24 = .ok (.ldc2_w 23, 3) := by decide +kernel
theorem dc_N_writeDigits_27 : decode cd_N_writeDigits 27 = .ok (.invokestatic 25, 3) := by decide +kernel
theorem dc_N_writeDigits_30 : decode cd_N_writeDigits 30 = .ok (.lstore 7, 2) := by decide +kernel
theorem dc_N_writeDigits_32 : decode cd_N_writeDigits 32 = .ok (.aload_n 0, 1) := by decide +kernel
theorem dc_N_writeDigits_33 : decode cd_N_writeDigits 33 = .ok (.getfield 9, 3) := by decide +kernel
theorem dc_N_writeDigits_36 : decode cd_N_writeDigits 36 = .ok (.iload 6, 2) := by decide +kernel
theorem dc_N_writeDigits_38 : decode cd_N_writeDigits 38 = .ok (.ldc2_w 31, 3) := by decide +kernel
theorem dc_N_writeDigits_41 : decode cd_N_writeDigits 41 = .ok (.lload 4, 2) := by decide +kernel
theorem dc_N_writeDigits_43 : decode cd_N_writeDigits 43 = .ok (.ladd, 1) := by decide +kernel
theorem dc_N_writeDigits_44 : decode cd_N_writeDigits 44 = .ok (.lload 7, 2) := by decide +kernel
theorem dc_N_writeDigits_46 : decode cd_N_writeDigits 46 = .ok (.ldc2_w 23, 3) := by decide +kernel
theorem dc_N_writeDigits_49 : decode cd_N_writeDigits 49 = .ok (.lmul, 1) := by decide +kernel
theorem dc_N_writeDigits_50 : decode cd_N_writeDigits 50 = .ok (.lsub, 1) := by decide +kernel
theorem dc_N_writeDigits_51 : decode cd_N_writeDigits 51 = .ok (.l2i, 1) := by decide +kernel
theorem dc_N_writeDigits_52 : decode cd_N_writeDigits 52 = .ok (.i2b, 1) := by decide +kernel
theorem dc_N_writeDigits_53 : decode cd_N_writeDigits 53 = .ok (.bastore, 1) := by decide +kernel
theorem dc_N_writeDigits_54 : decode cd_N_writeDigits 54 = .ok (.lload 7, 2) := by decide +kernel
theorem dc_N_writeDigits_56 : decode cd_N_writeDigits 56 = .ok (.lstore 4, 2) := by decide +kernel
theorem dc_N_writeDigits_58 : decode cd_N_writeDigits 58 = .ok (.iinc 6 (-1), 3) := by decide +kernel
theorem dc_N_writeDigits_61 : decode cd_N_writeDigits 61 = .ok (.goto (-48), 3) := by decide +kernel
theorem dc_N_writeDigits_64 : decode cd_N_writeDigits 64 = .ok (.aload_n 0, 1) := by decide +kernel
theorem dc_N_writeDigits_65 : decode cd_N_writeDigits 65 = .ok (.dup, 1) := by decide +kernel
theorem dc_N_writeDigits_66 : decode cd_N_writeDigits 66 = .ok (.getfield 15, 3) := by decide +kernel
theorem dc_N_writeDigits_69 : decode cd_N_writeDigits 69 = .ok (.iload_n 3, 1) := by decide +kernel
theorem dc_N_writeDigits_70 : decode cd_N_writeDigits 70 = .ok (.iadd, 1) := by decide +kernel
theorem dc_N_writeDigits_71 : decode cd_N_writeDigits 71 = .ok (.putfield 15, 3) := by decide +kernel
theorem dc_N_writeDigits_74 : decode cd_N_writeDigits 74 = .ok (.return_, 1) := by decide +kernel
theorem dc_J_bitCount_0 : decode cd_J_bitCount 0 = .ok (.lload_n 0, 1) := by decide +kernel
theorem dc_J_bitCount_1 : decode cd_J_bitCount 1 = .ok (.lload_n 0, 1) := by decide +kernel
theorem dc_J_bitCount_2 : decode cd_J_bitCount 2 = .ok (.iconst 1, 1) := by decide +kernel
theorem dc_J_bitCount_3 : decode cd_J_bitCount 3 = .ok (.lushr, 1) := by decide +kernel
theorem dc_J_bitCount_4 : decode cd_J_bitCount 4 = .ok (.ldc2_w 314, 3) := by decide +kernel
theorem dc_J_bitCount_7 : decode cd_J_bitCount 7 = .ok (.land, 1) := by decide +kernel
theorem dc_J_bitCount_8 : decode cd_J_bitCount 8 = .ok (.lsub, 1) := by decide +kernel
theorem dc_J_bitCount_9 : decode cd_J_bitCount 9 = .ok (.lstore_n 0, 1) := by decide +kernel
theorem dc_J_bitCount_10 : decode cd_J_bitCount 10 = .ok (.lload_n 0, 1) := by decide +kernel
theorem dc_J_bitCount_11 : decode cd_J_bitCount 11 = .ok (.ldc2_w 316, 3) := by decide +kernel
theorem dc_J_bitCount_14 : decode cd_J_bitCount 14 = .ok (.land, 1) := by decide +kernel
theorem dc_J_bitCount_15 : decode cd_J_bitCount 15 = .ok (.lload_n 0, 1) := by decide +kernel
theorem dc_J_bitCount_16 : decode cd_J_bitCount 16 = .ok (.iconst 2, 1) := by decide +kernel
theorem dc_J_bitCount_17 : decode cd_J_bitCount 17 = .ok (.lushr, 1) := by decide +kernel
theorem dc_J_bitCount_18 : decode cd_J_bitCount 18 = .ok (.ldc2_w 316, 3) := by decide +kernel
theorem dc_J_bitCount_21 : decode cd_J_bitCount 21 = .ok (.land, 1) := by decide +kernel
theorem dc_J_bitCount_22 : decode cd_J_bitCount 22 = .ok (.ladd, 1) := by decide +kernel
theorem dc_J_bitCount_23 : decode cd_J_bitCount 23 = .ok (.lstore_n 0, 1) := by decide +kernel
theorem dc_J_bitCount_24 : decode cd_J_bitCount 24 = .ok (.lload_n 0, 1) := by decide +kernel
theorem dc_J_bitCount_25 : decode cd_J_bitCount 25 = .ok (.lload_n 0, 1) := by decide +kernel
theorem dc_J_bitCount_26 : decode cd_J_bitCount 26 = .ok (.iconst 4, 1) := by decide +kernel
theorem dc_J_bitCount_27 : decode cd_J_bitCount 27 = .ok (.lushr, 1) := by decide +kernel
theorem dc_J_bitCount_28 : decode cd_J_bitCount 28 = .ok (.ladd, 1) := by decide +kernel
theorem dc_J_bitCount_29 : decode cd_J_bitCount 29 = .ok (.ldc2_w 318, 3) := by decide +kernel
theorem dc_J_bitCount_32 : decode cd_J_bitCount 32 = .ok (.land, 1) := by decide +kernel
theorem dc_J_bitCount_33 : decode cd_J_bitCount 33 = .ok (.lstore_n 0, 1) := by decide +kernel
theorem dc_J_bitCount_34 : decode cd_J_bitCount 34 = .ok (.lload_n 0, 1) := by decide +kernel
theorem dc_J_bitCount_35 : decode cd_J_bitCount 35 = .ok (.lload_n 0, 1) := by decide +kernel
theorem dc_J_bitCount_36 : decode cd_J_bitCount 36 = .ok (.bipush 8, 2) := by decide +kernel
theorem dc_J_bitCount_38 : decode cd_J_bitCount 38 = .ok (.lushr, 1) := by decide +kernel
theorem dc_J_bitCount_39 : decode cd_J_bitCount 39 = .ok (.ladd, 1) := by decide +kernel
theorem dc_J_bitCount_40 : decode cd_J_bitCount 40 = .ok (.lstore_n 0, 1) := by decide +kernel
theorem dc_J_bitCount_41 : decode cd_J_bitCount 41 = .ok (.lload_n 0, 1) := by decide +kernel
theorem dc_J_bitCount_42 : decode cd_J_bitCount 42 = .ok (.lload_n 0, 1) := by decide +kernel
theorem dc_J_bitCount_43 : decode cd_J_bitCount 43 = .ok (.bipush 16, 2) := by decide +kernel
theorem dc_J_bitCount_45 : decode cd_J_bitCount 45 = .ok (.lushr, 1) := by decide +kernel
theorem dc_J_bitCount_46 : decode cd_J_bitCount 46 = .ok (.ladd, 1) := by decide +kernel
theorem dc_J_bitCount_47 : decode cd_J_bitCount 47 = .ok (.lstore_n 0, 1) := by decide +kernel
theorem dc_J_bitCount_48 : decode cd_J_bitCount 48 = .ok (.lload_n 0, 1) := by decide +kernel
theorem dc_J_bitCount_49 : decode cd_J_bitCount 49 = .ok (.lload_n 0, 1) := by decide +kernel
theorem dc_J_bitCount_50 : decode cd_J_bitCount 50 = .ok (.bipush 32, 2) := by decide +kernel
theorem dc_J_bitCount_52 : decode cd_J_bitCount 52 = .ok (.lushr, 1) := by decide +kernel
theorem dc_J_bitCount_53 : decode cd_J_bitCount 53 = .ok (.ladd, 1) := by decide +kernel
theorem dc_J_bitCount_54 : decode cd_J_bitCount 54 = .ok (.lstore_n 0, 1) := by decide +kernel
theorem dc_J_bitCount_55 : decode cd_J_bitCount 55 = .ok (.lload_n 0, 1) := by decide +kernel
theorem dc_J_bitCount_56 : decode cd_J_bitCount 56 = .ok (.l2i, 1) := by decide +kernel
theorem dc_J_bitCount_57 : decode cd_J_bitCount 57 = .ok (.bipush 127, 2) := by decide +kernel
theorem dc_J_bitCount_59 : decode cd_J_bitCount 59 = .ok (.iand, 1) := by decide +kernel
theorem dc_J_bitCount_60 : decode cd_J_bitCount 60 = .ok (.ireturn, 1) := by decide +kernel
theorem dc_X_demandRange_0 : decode cd_X_demandRange 0 = .ok (.iload_n 0, 1) := by decide +kernel
theorem dc_X_demandRange_1 : decode cd_X_demandRange 1 = .ok (.iload_n 1, 1) := by decide +kernel
theorem dc_X_demandRange_2 : decode cd_X_demandRange 2 = .ok (.if_icmp .lt 8, 3) := by decide +kernel
theorem dc_X_demandRange_5 : decode cd_X_demandRange 5 = .ok (.iload_n 0, 1) := by decide +kernel
theorem dc_X_demandRange_6 : decode cd_X_demandRange 6 = .ok (.iload_n 2, 1) := by decide +kernel
theorem dc_X_demandRange_7 : decode cd_X_demandRange 7 = .ok (.if_icmp .le 13, 3) := by decide +kernel
theorem dc_X_demandRange_10 : decode cd_X_demandRange 10 = .ok (.new 140, 3) := by decide +kernel
theorem dc_X_demandRange_13 : decode cd_X_demandRange 13 = .ok (.dup, 1) := by decide +kernel
theorem dc_X_demandRange_14 : decode cd_X_demandRange 14 = .ok (.ldc 142, 2) := by decide +kernel
theorem dc_X_demandRange_16 : decode cd_X_demandRange 16 = .ok (.invokespecial 144, 3) := by decide +kernel
theorem dc_X_demandRange_19 : decode cd_X_demandRange 19 = .ok (.athrow, 1) := by decide +kernel
theorem dc_X_demandRange_20 : decode cd_X_demandRange 20 = .ok (.return_, 1) := by decide +kernel
theorem dc_X_demandValues_0 : decode cd_X_demandValues 0 = .ok (.aload_n 0, 1) := by decide +kernel
theorem dc_X_demandValues_1 : decode cd_X_demandValues 1 = .ok (.getfield 31, 3) := by decide +kernel
theorem dc_X_demandValues_4 : decode cd_X_demandValues 4 = .ok (.iload_n 1, 1) := by decide +kernel
theorem dc_X_demandValues_5 : decode cd_X_demandValues 5 = .ok (.if_icmp .ge 13, 3) := by decide +kernel
theorem dc_X_demandValues_8 : decode cd_X_demandValues 8 = .ok (.new 145, 3) := by decide +kernel
theorem dc_X_demandValues_11 : decode cd_X_demandValues 11 = .ok (.dup, 1) := by decide +kernel
theorem dc_X_demandValues_12 : decode cd_X_demandValues 12 = .ok (.ldc 147, 2) := by decide +kernel
theorem dc_X_demandValues_14 : decode cd_X_demandValues 14 = .ok (.invokespecial 149, 3) := by decide +kernel
theorem dc_X_demandValues_17 : decode cd_X_demandValues 17 = .ok (.athrow, 1) := by decide +kernel
theorem dc_X_demandValues_18 : decode cd_X_demandValues 18 = .ok (.return_, 1) := by decide +kernel
theorem dc_X_demandPlace_0 : decode cd_X_demandPlace 0 = .ok (.iload_n 1, 1) := by decide +kernel
theorem dc_X_demandPlace_1 : decode cd_X_demandPlace 1 = .ok (.ifCond .lt 11, 3) := by decide +kernel
theorem dc_X_demandPlace_4 : decode cd_X_demandPlace 4 = .ok (.iload_n 1, 1) := by decide +kernel
theorem dc_X_demandPlace_5 : decode cd_X_demandPlace 5 = .ok (.aload_n 0, 1) := by decide +kernel
theorem dc_X_demandPlace_6 : decode cd_X_demandPlace 6 = .ok (.getfield 31, 3) := by decide +kernel
theorem dc_X_demandPlace_9 : decode cd_X_demandPlace 9 = .ok (.if_icmp .lt 13, 3) := by decide +kernel
theorem dc_X_demandPlace_12 : decode cd_X_demandPlace 12 = .ok (.new 145, 3) := by decide +kernel
theorem dc_X_demandPlace_15 : decode cd_X_demandPlace 15 = .ok (.dup, 1) := by decide +kernel
theorem dc_X_demandPlace_16 : decode cd_X_demandPlace 16 = .ok (.ldc 150, 2) := by decide +kernel
theorem dc_X_demandPlace_18 : decode cd_X_demandPlace 18 = .ok (.invokespecial 149, 3) := by decide +kernel
theorem dc_X_demandPlace_21 : decode cd_X_demandPlace 21 = .ok (.athrow, 1) := by decide +kernel
theorem dc_X_demandPlace_22 : decode cd_X_demandPlace 22 = .ok (.return_, 1) := by decide +kernel
theorem dc_X_demandRoom_0 : decode cd_X_demandRoom 0 = .ok (.aload_n 0, 1) := by decide +kernel
theorem dc_X_demandRoom_1 : decode cd_X_demandRoom 1 = .ok (.getfield 31, 3) := by decide +kernel
theorem dc_X_demandRoom_4 : decode cd_X_demandRoom 4 = .ok (.bipush 64, 2) := by decide +kernel
theorem dc_X_demandRoom_6 : decode cd_X_demandRoom 6 = .ok (.if_icmp .lt 13, 3) := by decide +kernel
theorem dc_X_demandRoom_9 : decode cd_X_demandRoom 9 = .ok (.new 145, 3) := by decide +kernel
theorem dc_X_demandRoom_12 : decode cd_X_demandRoom 12 = .ok (.dup, 1) := by decide +kernel
theorem dc_X_demandRoom_13 : decode cd_X_demandRoom 13 = .ok (.ldc 152, 2) := by decide +kernel
theorem dc_X_demandRoom_15 : decode cd_X_demandRoom 15 = .ok (.invokespecial 149, 3) := by decide +kernel
theorem dc_X_demandRoom_18 : decode cd_X_demandRoom 18 = .ok (.athrow, 1) := by decide +kernel
theorem dc_X_demandRoom_19 : decode cd_X_demandRoom 19 = .ok (.return_, 1) := by decide +kernel
theorem dc_X_bothTrue_0 : decode cd_X_bothTrue 0 = .ok (.iload_n 0, 1) := by decide +kernel
theorem dc_X_bothTrue_1 : decode cd_X_bothTrue 1 = .ok (.ifCond .eq 7, 3) := by decide +kernel
theorem dc_X_bothTrue_4 : decode cd_X_bothTrue 4 = .ok (.iload_n 1, 1) := by decide +kernel
theorem dc_X_bothTrue_5 : decode cd_X_bothTrue 5 = .ok (.ifCond .ne 5, 3) := by decide +kernel
theorem dc_X_bothTrue_8 : decode cd_X_bothTrue 8 = .ok (.iconst 0, 1) := by decide +kernel
theorem dc_X_bothTrue_9 : decode cd_X_bothTrue 9 = .ok (.ireturn, 1) := by decide +kernel
theorem dc_X_bothTrue_10 : decode cd_X_bothTrue 10 = .ok (.iload_n 0, 1) := by decide +kernel
theorem dc_X_bothTrue_11 : decode cd_X_bothTrue 11 = .ok (.iconst 1, 1) := by decide +kernel
theorem dc_X_bothTrue_12 : decode cd_X_bothTrue 12 = .ok (.if_icmp .ne 12, 3) := by decide +kernel
theorem dc_X_bothTrue_15 : decode cd_X_bothTrue 15 = .ok (.iload_n 1, 1) := by decide +kernel
theorem dc_X_bothTrue_16 : decode cd_X_bothTrue 16 = .ok (.iconst 1, 1) := by decide +kernel
theorem dc_X_bothTrue_17 : decode cd_X_bothTrue 17 = .ok (.if_icmp .ne 7, 3) := by decide +kernel
theorem dc_X_bothTrue_20 : decode cd_X_bothTrue 20 = .ok (.iconst 1, 1) := by decide +kernel
theorem dc_X_bothTrue_21 : decode cd_X_bothTrue 21 = .ok (.goto 4, 3) := by decide +kernel
theorem dc_X_bothTrue_24 : decode cd_X_bothTrue 24 = .ok (.iconst 2, 1) := by decide +kernel
theorem dc_X_bothTrue_25 : decode cd_X_bothTrue 25 = .ok (.ireturn, 1) := by decide +kernel
theorem dc_X_opposite_0 : decode cd_X_opposite 0 = .ok (.iload_n 0, 1) := by decide +kernel
theorem dc_X_opposite_1 : decode cd_X_opposite 1 = .ok (.iconst 2, 1) := by decide +kernel
theorem dc_X_opposite_2 : decode cd_X_opposite 2 = .ok (.if_icmp .ne 5, 3) := by decide +kernel
theorem dc_X_opposite_5 : decode cd_X_opposite 5 = .ok (.iconst 2, 1) := by decide +kernel
theorem dc_X_opposite_6 : decode cd_X_opposite 6 = .ok (.ireturn, 1) := by decide +kernel
theorem dc_X_opposite_7 : decode cd_X_opposite 7 = .ok (.iload_n 0, 1) := by decide +kernel
theorem dc_X_opposite_8 : decode cd_X_opposite 8 = .ok (.iconst 1, 1) := by decide +kernel
theorem dc_X_opposite_9 : decode cd_X_opposite 9 = .ok (.if_icmp .ne 7, 3) := by decide +kernel
theorem dc_X_opposite_12 : decode cd_X_opposite 12 = .ok (.iconst 0, 1) := by decide +kernel
theorem dc_X_opposite_13 : decode cd_X_opposite 13 = .ok (.goto 4, 3) := by decide +kernel
theorem dc_X_opposite_16 : decode cd_X_opposite 16 = .ok (.iconst 1, 1) := by decide +kernel
theorem dc_X_opposite_17 : decode cd_X_opposite 17 = .ok (.ireturn, 1) := by decide +kernel
theorem dc_X_unknownLetter_0 : decode cd_X_unknownLetter 0 = .ok (.lload_n 2, 1) := by decide +kernel
theorem dc_X_unknownLetter_1 : decode cd_X_unknownLetter 1 = .ok (.lload 4, 2) := by decide +kernel
theorem dc_X_unknownLetter_3 : decode cd_X_unknownLetter 3 = .ok (.lcmp, 1) := by decide +kernel
theorem dc_X_unknownLetter_4 : decode cd_X_unknownLetter 4 = .ok (.ifCond .ne 13, 3) := by decide +kernel
theorem dc_X_unknownLetter_7 : decode cd_X_unknownLetter 7 = .ok (.lload_n 0, 1) := by decide +kernel
theorem dc_X_unknownLetter_8 : decode cd_X_unknownLetter 8 = .ok (.lload 4, 2) := by decide +kernel
theorem dc_X_unknownLetter_10 : decode cd_X_unknownLetter 10 = .ok (.lcmp, 1) := by decide +kernel
theorem dc_X_unknownLetter_11 : decode cd_X_unknownLetter 11 = .ok (.ifCond .ne 6, 3) := by decide +kernel
theorem dc_X_unknownLetter_14 : decode cd_X_unknownLetter 14 = .ok (.bipush 120, 2) := by decide +kernel
theorem dc_X_unknownLetter_16 : decode cd_X_unknownLetter 16 = .ok (.ireturn, 1) := by decide +kernel
theorem dc_X_unknownLetter_17 : decode cd_X_unknownLetter 17 = .ok (.lload_n 2, 1) := by decide +kernel
theorem dc_X_unknownLetter_18 : decode cd_X_unknownLetter 18 = .ok (.lload 4, 2) := by decide +kernel
theorem dc_X_unknownLetter_20 : decode cd_X_unknownLetter 20 = .ok (.lcmp, 1) := by decide +kernel
theorem dc_X_unknownLetter_21 : decode cd_X_unknownLetter 21 = .ok (.ifCond .ne 12, 3) := by decide +kernel
theorem dc_X_unknownLetter_24 : decode cd_X_unknownLetter 24 = .ok (.lload_n 0, 1) := by decide +kernel
theorem dc_X_unknownLetter_25 : decode cd_X_unknownLetter 25 = .ok (.lconst 0, 1) := by decide +kernel
theorem dc_X_unknownLetter_26 : decode cd_X_unknownLetter 26 = .ok (.lcmp, 1) := by decide +kernel
theorem dc_X_unknownLetter_27 : decode cd_X_unknownLetter 27 = .ok (.ifCond .ne 6, 3) := by decide +kernel
theorem dc_X_unknownLetter_30 : decode cd_X_unknownLetter 30 = .ok (.bipush 122, 2) := by decide +kernel
theorem dc_X_unknownLetter_32 : decode cd_X_unknownLetter 32 = .ok (.ireturn, 1) := by decide +kernel
theorem dc_X_unknownLetter_33 : decode cd_X_unknownLetter 33 = .ok (.lload_n 0, 1) := by decide +kernel
theorem dc_X_unknownLetter_34 : decode cd_X_unknownLetter 34 = .ok (.lload_n 2, 1) := by decide +kernel
theorem dc_X_unknownLetter_35 : decode cd_X_unknownLetter 35 = .ok (.land, 1) := by decide +kernel
theorem dc_X_unknownLetter_36 : decode cd_X_unknownLetter 36 = .ok (.lconst 0, 1) := by decide +kernel
theorem dc_X_unknownLetter_37 : decode cd_X_unknownLetter 37 = .ok (.lcmp, 1) := by decide +kernel
theorem dc_X_unknownLetter_38 : decode cd_X_unknownLetter 38 = .ok (.ifCond .eq 8, 3) := by decide +kernel
theorem dc_X_unknownLetter_41 : decode cd_X_unknownLetter 41 = .ok (.bipush 88, 2) := by decide +kernel
theorem dc_X_unknownLetter_43 : decode cd_X_unknownLetter 43 = .ok (.goto 5, 3) := by decide +kernel
theorem dc_X_unknownLetter_46 : decode cd_X_unknownLetter 46 = .ok (.bipush 90, 2) := by decide +kernel
theorem dc_X_unknownLetter_48 : decode cd_X_unknownLetter 48 = .ok (.ireturn, 1) := by decide +kernel
theorem dc_X_groupLetter_0 : decode cd_X_groupLetter 0 = .ok (.lload_n 2, 1) := by decide +kernel
theorem dc_X_groupLetter_1 : decode cd_X_groupLetter 1 = .ok (.lconst 0, 1) := by decide +kernel
theorem dc_X_groupLetter_2 : decode cd_X_groupLetter 2 = .ok (.lcmp, 1) := by decide +kernel
theorem dc_X_groupLetter_3 : decode cd_X_groupLetter 3 = .ok (.ifCond .eq 11, 3) := by decide +kernel
theorem dc_X_groupLetter_6 : decode cd_X_groupLetter 6 = .ok (.lload_n 0, 1) := by decide +kernel
theorem dc_X_groupLetter_7 : decode cd_X_groupLetter 7 = .ok (.lload_n 2, 1) := by decide +kernel
theorem dc_X_groupLetter_8 : decode cd_X_groupLetter 8 = .ok (.lload 4, 2) := by decide +kernel
theorem dc_X_groupLetter_10 : decode cd_X_groupLetter 10 = .ok (.invokestatic 221, 3) := by decide +kernel
theorem dc_X_groupLetter_13 : decode cd_X_groupLetter 13 = .ok (.ireturn, 1) := by decide +kernel
theorem dc_X_groupLetter_14 : decode cd_X_groupLetter 14 = .ok (.lload_n 0, 1) := by decide +kernel
theorem dc_X_groupLetter_15 : decode cd_X_groupLetter 15 = .ok (.ldc2_w 224, 3) := by decide +kernel
theorem dc_X_groupLetter_18 : decode cd_X_groupLetter 18 = .ok (.lcmp, 1) := by decide +kernel
theorem dc_X_groupLetter_19 : decode cd_X_groupLetter 19 = .ok (.ifCond .ge 11, 3) := by decide +kernel
theorem dc_X_groupLetter_22 : decode cd_X_groupLetter 22 = .ok (.ldc2_w 226, 3) := by decide +kernel
theorem dc_X_groupLetter_25 : decode cd_X_groupLetter 25 = .ok (.lload_n 0, 1) := by decide +kernel
theorem dc_X_groupLetter_26 : decode cd_X_groupLetter 26 = .ok (.ladd, 1) := by decide +kernel
theorem dc_X_groupLetter_27 : decode cd_X_groupLetter 27 = .ok (.goto 12, 3) := by decide +kernel
theorem dc_X_groupLetter_30 : decode cd_X_groupLetter 30 = .ok (.ldc2_w 228, 3) := by decide +kernel
theorem dc_X_groupLetter_33 : decode cd_X_groupLetter 33 = .ok (.lload_n 0, 1) := by decide +kernel
theorem dc_X_groupLetter_34 : decode cd_X_groupLetter 34 = .ok (.ladd, 1) := by decide +kernel
theorem dc_X_groupLetter_35 : decode cd_X_groupLetter 35 = .ok (.ldc2_w 224, 3) := by decide +kernel
theorem dc_X_groupLetter_38 : decode cd_X_groupLetter 38 = .ok (.lsub, 1) := by decide +kernel
theorem dc_X_groupLetter_39 : decode cd_X_groupLetter 39 = .ok (.l2i, 1) := by decide +kernel
theorem dc_X_groupLetter_40 : decode cd_X_groupLetter 40 = .ok (.i2c, 1) := by decide +kernel
theorem dc_X_groupLetter_41 : decode cd_X_groupLetter 41 = .ok (.ireturn, 1) := by decide +kernel
theorem dc_X_setBits_0 : decode cd_X_setBits 0 = .ok (.aload_n 0, 1) := by decide +kernel
theorem dc_X_setBits_1 : decode cd_X_setBits 1 = .ok (.getfield 16, 3) := by decide +kernel
theorem dc_X_setBits_4 : decode cd_X_setBits 4 = .ok (.iload_n 1, 1) := by decide +kernel
theorem dc_X_setBits_5 : decode cd_X_setBits 5 = .ok (.iaload, 1) := by decide +kernel
theorem dc_X_setBits_6 : decode cd_X_setBits 6 = .ok (.invokestatic 157, 3) := by decide +kernel
theorem dc_X_setBits_9 : decode cd_X_setBits 9 = .ok (.lstore 6, 2) := by decide +kernel
theorem dc_X_setBits_11 : decode cd_X_setBits 11 = .ok (.aload_n 0, 1) := by decide +kernel
theorem dc_X_setBits_12 : decode cd_X_setBits 12 = .ok (.getfield 9, 3) := by decide +kernel
theorem dc_X_setBits_15 : decode cd_X_setBits 15 = .ok (.iload_n 1, 1) := by decide +kernel
theorem dc_X_setBits_16 : decode cd_X_setBits 16 = .ok (.lload_n 2, 1) := by decide +kernel
theorem dc_X_setBits_17 : decode cd_X_setBits 17 = .ok (.lload 6, 2) := by decide +kernel
theorem dc_X_setBits_19 : decode cd_X_setBits 19 = .ok (.land, 1) := by decide +kernel
theorem dc_X_setBits_20 : decode cd_X_setBits 20 = .ok (.lastore, 1) := by decide +kernel
theorem dc_X_setBits_21 : decode cd_X_setBits 21 = .ok (.aload_n 0, 1) := by decide +kernel
theorem dc_X_setBits_22 : decode cd_X_setBits 22 = .ok (.getfield 13, 3) := by decide +kernel
theorem dc_X_setBits_25 : decode cd_X_setBits 25 = .ok (.iload_n 1, 1) := by decide +kernel
theorem dc_X_setBits_26 : decode cd_X_setBits 26 = .ok (.lload 4, 2) := by decide +kernel
theorem dc_X_setBits_28 : decode cd_X_setBits 28 = .ok (.lload 6, 2) := by decide +kernel
theorem dc_X_setBits_30 : decode cd_X_setBits 30 = .ok (.land, 1) := by decide +kernel
theorem dc_X_setBits_31 : decode cd_X_setBits 31 = .ok (.lastore, 1) := by decide +kernel
theorem dc_X_setBits_32 : decode cd_X_setBits 32 = .ok (.return_, 1) := by decide +kernel
theorem dc_X_setValue_0 : decode cd_X_setValue 0 = .ok (.aload_n 0, 1) := by decide +kernel
theorem dc_X_setValue_1 : decode cd_X_setValue 1 = .ok (.getfield 16, 3) := by decide +kernel
theorem dc_X_setValue_4 : decode cd_X_setValue 4 = .ok (.iload_n 1, 1) := by decide +kernel
theorem dc_X_setValue_5 : decode cd_X_setValue 5 = .ok (.iload 6, 2) := by decide +kernel
theorem dc_X_setValue_7 : decode cd_X_setValue 7 = .ok (.iastore, 1) := by decide +kernel
theorem dc_X_setValue_8 : decode cd_X_setValue 8 = .ok (.aload_n 0, 1) := by decide +kernel
theorem dc_X_setValue_9 : decode cd_X_setValue 9 = .ok (.getfield 20, 3) := by decide +kernel
theorem dc_X_setValue_12 : decode cd_X_setValue 12 = .ok (.iload_n 1, 1) := by decide +kernel
theorem dc_X_setValue_13 : decode cd_X_setValue 13 = .ok (.iload 7, 2) := by decide +kernel
theorem dc_X_setValue_15 : decode cd_X_setValue 15 = .ok (.bastore, 1) := by decide +kernel
theorem dc_X_setValue_16 : decode cd_X_setValue 16 = .ok (.aload_n 0, 1) := by decide +kernel
theorem dc_X_setValue_17 : decode cd_X_setValue 17 = .ok (.iload_n 1, 1) := by decide +kernel
theorem dc_X_setValue_18 : decode cd_X_setValue 18 = .ok (.lload_n 2, 1) := by decide +kernel
theorem dc_X_setValue_19 : decode cd_X_setValue 19 = .ok (.lload 4, 2) := by decide +kernel
theorem dc_X_setValue_21 : decode cd_X_setValue 21 = .ok (.invokevirtual 154, 3) := by decide +kernel
theorem dc_X_setValue_24 : decode cd_X_setValue 24 = .ok (.return_, 1) := by decide +kernel
theorem dc_X_setSure_0 : decode cd_X_setSure 0 = .ok (.aload_n 0, 1) := by decide +kernel
theorem dc_X_setSure_1 : decode cd_X_setSure 1 = .ok (.iload_n 1, 1) := by decide +kernel
theorem dc_X_setSure_2 : decode cd_X_setSure 2 = .ok (.lload 4, 2) := by decide +kernel
theorem dc_X_setSure_4 : decode cd_X_setSure 4 = .ok (.ldc2_w 162, 3) := by decide +kernel
theorem dc_X_setSure_7 : decode cd_X_setSure 7 = .ok (.lxor, 1) := by decide +kernel
theorem dc_X_setSure_8 : decode cd_X_setSure 8 = .ok (.lload_n 2, 1) := by decide +kernel
theorem dc_X_setSure_9 : decode cd_X_setSure 9 = .ok (.lload 4, 2) := by decide +kernel
theorem dc_X_setSure_11 : decode cd_X_setSure 11 = .ok (.lor, 1) := by decide +kernel
theorem dc_X_setSure_12 : decode cd_X_setSure 12 = .ok (.ldc2_w 162, 3) := by decide +kernel
theorem dc_X_setSure_15 : decode cd_X_setSure 15 = .ok (.lxor, 1) := by decide +kernel
theorem dc_X_setSure_16 : decode cd_X_setSure 16 = .ok (.invokevirtual 154, 3) := by decide +kernel
theorem dc_X_setSure_19 : decode cd_X_setSure 19 = .ok (.return_, 1) := by decide +kernel
theorem dc_X_setTruth_0 : decode cd_X_setTruth 0 = .ok (.aload_n 0, 1) := by decide +kernel
theorem dc_X_setTruth_1 : decode cd_X_setTruth 1 = .ok (.iload_n 1, 1) := by decide +kernel
theorem dc_X_setTruth_2 : decode cd_X_setTruth 2 = .ok (.iload_n 2, 1) := by decide +kernel
theorem dc_X_setTruth_3 : decode cd_X_setTruth 3 = .ok (.ifCond .ne 7, 3) := by decide +kernel
theorem dc_X_setTruth_6 : decode cd_X_setTruth 6 = .ok (.lconst 0, 1) := by decide +kernel
theorem dc_X_setTruth_7 : decode cd_X_setTruth 7 = .ok (.goto 4, 3) := by decide +kernel
theorem dc_X_setTruth_10 : decode cd_X_setTruth 10 = .ok (.lconst 1, 1) := by decide +kernel
theorem dc_X_setTruth_11 : decode cd_X_setTruth 11 = .ok (.iload_n 2, 1) := by decide +kernel
theorem dc_X_setTruth_12 : decode cd_X_setTruth 12 = .ok (.iconst 2, 1) := by decide +kernel
theorem dc_X_setTruth_13 : decode cd_X_setTruth 13 = .ok (.if_icmp .ne 7, 3) := by decide +kernel
theorem dc_X_setTruth_16 : decode cd_X_setTruth 16 = .ok (.lconst 1, 1) := by decide +kernel
theorem dc_X_setTruth_17 : decode cd_X_setTruth 17 = .ok (.goto 4, 3) := by decide +kernel
theorem dc_X_setTruth_20 : decode cd_X_setTruth 20 = .ok (.lconst 0, 1) := by decide +kernel
theorem dc_X_setTruth_21 : decode cd_X_setTruth 21 = .ok (.iconst 1, 1) := by decide +kernel
theorem dc_X_setTruth_22 : decode cd_X_setTruth 22 = .ok (.iconst 0, 1) := by decide +kernel
theorem dc_X_setTruth_23 : decode cd_X_setTruth 23 = .ok (.invokevirtual 42, 3) := by decide +kernel
theorem dc_X_setTruth_26 : decode cd_X_setTruth 26 = .ok (.return_, 1) := by decide +kernel
theorem dc_X_fillWithX_0 : decode cd_X_fillWithX 0 = .ok (.aload_n 0, 1) := by decide +kernel
theorem dc_X_fillWithX_1 : decode cd_X_fillWithX 1 = .ok (.iload_n 1, 1) := by decide +kernel
theorem dc_X_fillWithX_2 : decode cd_X_fillWithX 2 = .ok (.ldc2_w 162, 3) := by decide +kernel
theorem dc_X_fillWithX_5 : decode cd_X_fillWithX 5 = .ok (.ldc2_w 162, 3) := by decide +kernel
theorem dc_X_fillWithX_8 : decode cd_X_fillWithX 8 = .ok (.invokevirtual 154, 3) := by decide +kernel
theorem dc_X_fillWithX_11 : decode cd_X_fillWithX 11 = .ok (.return_, 1) := by decide +kernel
theorem dc_X_copyValue_0 : decode cd_X_copyValue 0 = .ok (.aload_n 0, 1) := by decide +kernel
theorem dc_X_copyValue_1 : decode cd_X_copyValue 1 = .ok (.iload_n 2, 1) := by decide +kernel
theorem dc_X_copyValue_2 : decode cd_X_copyValue 2 = .ok (.aload_n 0, 1) := by decide +kernel
theorem dc_X_copyValue_3 : decode cd_X_copyValue 3 = .ok (.getfield 9, 3) := by decide +kernel
theorem dc_X_copyValue_6 : decode cd_X_copyValue 6 = .ok (.iload_n 1, 1) := by decide +kernel
theorem dc_X_copyValue_7 : decode cd_X_copyValue 7 = .ok (.laload, 1) := by decide +kernel
theorem dc_X_copyValue_8 : decode cd_X_copyValue 8 = .ok (.aload_n 0, 1) := by decide +kernel
theorem dc_X_copyValue_9 : decode cd_X_copyValue 9 = .ok (.getfield 13, 3) := by decide +kernel
theorem dc_X_copyValue_12 : decode cd_X_copyValue 12 = .ok (.iload_n 1, 1) := by decide +kernel
theorem dc_X_copyValue_13 : decode cd_X_copyValue 13 = .ok (.laload, 1) := by decide +kernel
theorem dc_X_copyValue_14 : decode cd_X_copyValue 14 = .ok (.aload_n 0, 1) := by decide +kernel
theorem dc_X_copyValue_15 : decode cd_X_copyValue 15 = .ok (.getfield 16, 3) := by decide +kernel
theorem dc_X_copyValue_18 : decode cd_X_copyValue 18 = .ok (.iload_n 1, 1) := by decide +kernel
theorem dc_X_copyValue_19 : decode cd_X_copyValue 19 = .ok (.iaload, 1) := by decide +kernel
theorem dc_X_copyValue_20 : decode cd_X_copyValue 20 = .ok (.aload_n 0, 1) := by decide +kernel
theorem dc_X_copyValue_21 : decode cd_X_copyValue 21 = .ok (.getfield 20, 3) := by decide +kernel
theorem dc_X_copyValue_24 : decode cd_X_copyValue 24 = .ok (.iload_n 1, 1) := by decide +kernel
theorem dc_X_copyValue_25 : decode cd_X_copyValue 25 = .ok (.baload, 1) := by decide +kernel
theorem dc_X_copyValue_26 : decode cd_X_copyValue 26 = .ok (.invokevirtual 42, 3) := by decide +kernel
theorem dc_X_copyValue_29 : decode cd_X_copyValue 29 = .ok (.return_, 1) := by decide +kernel
theorem dc_X_setWidth_0 : decode cd_X_setWidth 0 = .ok (.aload_n 0, 1) := by decide +kernel
theorem dc_X_setWidth_1 : decode cd_X_setWidth 1 = .ok (.getfield 9, 3) := by decide +kernel
theorem dc_X_setWidth_4 : decode cd_X_setWidth 4 = .ok (.iload_n 1, 1) := by decide +kernel
theorem dc_X_setWidth_5 : decode cd_X_setWidth 5 = .ok (.laload, 1) := by decide +kernel
theorem dc_X_setWidth_6 : decode cd_X_setWidth 6 = .ok (.lstore 4, 2) := by decide +kernel
theorem dc_X_setWidth_8 : decode cd_X_setWidth 8 = .ok (.aload_n 0, 1) := by decide +kernel
theorem dc_X_setWidth_9 : decode cd_X_setWidth 9 = .ok (.getfield 13, 3) := by decide +kernel
theorem dc_X_setWidth_12 : decode cd_X_setWidth 12 = .ok (.iload_n 1, 1) := by decide +kernel
theorem dc_X_setWidth_13 : decode cd_X_setWidth 13 = .ok (.laload, 1) := by decide +kernel
theorem dc_X_setWidth_14 : decode cd_X_setWidth 14 = .ok (.lstore 6, 2) := by decide +kernel
theorem dc_X_setWidth_16 : decode cd_X_setWidth 16 = .ok (.iload_n 3, 1) := by decide +kernel
theorem dc_X_setWidth_17 : decode cd_X_setWidth 17 = .ok (.ifCond .eq 29, 3) := by decide +kernel
theorem dc_X_setWidth_20 : decode cd_X_setWidth 20 = .ok (.lload 4, 2) := by decide +kernel
theorem dc_X_setWidth_22 : decode cd_X_setWidth 22 = .ok (.aload_n 0, 1) := by decide +kernel
theorem dc_X_setWidth_23 : decode cd_X_setWidth 23 = .ok (.getfield 16, 3) := by decide +kernel
theorem dc_X_setWidth_26 : decode cd_X_setWidth 26 = .ok (.iload_n 1, 1) := by decide +kernel
theorem dc_X_setWidth_27 : decode cd_X_setWidth 27 = .ok (.iaload, 1) := by decide +kernel
theorem dc_X_setWidth_28 : decode cd_X_setWidth 28 = .ok (.invokestatic 164, 3) := by decide +kernel
theorem dc_X_setWidth_31 : decode cd_X_setWidth 31 = .ok (.lstore 4, 2) := by decide +kernel
theorem dc_X_setWidth_33 : decode cd_X_setWidth 33 = .ok (.lload 6, 2) := by decide +kernel
theorem dc_X_setWidth_35 : decode cd_X_setWidth 35 = .ok (.aload_n 0, 1) := by decide +kernel
theorem dc_X_setWidth_36 : decode cd_X_setWidth 36 = .ok (.getfield 16, 3) := by decide +kernel
theorem dc_X_setWidth_39 : decode cd_X_setWidth 39 = .ok (.iload_n 1, 1) := by decide +kernel
theorem dc_X_setWidth_40 : decode cd_X_setWidth 40 = .ok (.iaload, 1) := by decide +kernel
theorem dc_X_setWidth_41 : decode cd_X_setWidth 41 = .ok (.invokestatic 164, 3) := by decide +kernel
theorem dc_X_setWidth_44 : decode cd_X_setWidth 44 = .ok (.lstore 6, 2) := by decide +kernel
theorem dc_X_setWidth_46 : decode cd_X_setWidth 46 = .ok (.aload_n 0, 1) := by decide +kernel
theorem dc_X_setWidth_47 : decode cd_X_setWidth 47 = .ok (.getfield 16, 3) := by decide +kernel
theorem dc_X_setWidth_50 : decode cd_X_setWidth 50 = .ok (.iload_n 1, 1) := by decide +kernel
theorem dc_X_setWidth_51 : decode cd_X_setWidth 51 = .ok (.iload_n 2, 1) := by decide +kernel
theorem dc_X_setWidth_52 : decode cd_X_setWidth 52 = .ok (.iastore, 1) := by decide +kernel
theorem dc_X_setWidth_53 : decode cd_X_setWidth 53 = .ok (.aload_n 0, 1) := by decide +kernel
theorem dc_X_setWidth_54 : decode cd_X_setWidth 54 = .ok (.iload_n 1, 1) := by decide +kernel
theorem dc_X_setWidth_55 : decode cd_X_setWidth 55 = .ok (.lload 4, 2) := by decide +kernel
theorem dc_X_setWidth_57 : decode cd_X_setWidth 57 = .ok (.lload 6, 2) := by decide +kernel
theorem dc_X_setWidth_59 : decode cd_X_setWidth 59 = .ok (.invokevirtual 154, 3) := by decide +kernel
theorem dc_X_setWidth_62 : decode cd_X_setWidth 62 = .ok (.return_, 1) := by decide +kernel
theorem dc_X_bringTogether_0 : decode cd_X_bringTogether 0 = .ok (.aload_n 0, 1) := by decide +kernel
theorem dc_X_bringTogether_1 : decode cd_X_bringTogether 1 = .ok (.getfield 20, 3) := by decide +kernel
theorem dc_X_bringTogether_4 : decode cd_X_bringTogether 4 = .ok (.iload_n 1, 1) := by decide +kernel
theorem dc_X_bringTogether_5 : decode cd_X_bringTogether 5 = .ok (.baload, 1) := by decide +kernel
theorem dc_X_bringTogether_6 : decode cd_X_bringTogether 6 = .ok (.ifCond .eq 16, 3) := by decide +kernel
theorem dc_X_bringTogether_9 : decode cd_X_bringTogether 9 = .ok (.aload_n 0, 1) := by decide +kernel
theorem dc_X_bringTogether_10 : decode cd_X_bringTogether 10 = .ok (.getfield 20, 3) := by decide +kernel
theorem dc_X_bringTogether_13 : decode cd_X_bringTogether 13 = .ok (.iload_n 2, 1) := by decide +kernel
theorem dc_X_bringTogether_14 : decode cd_X_bringTogether 14 = .ok (.baload, 1) := by decide +kernel
theorem dc_X_bringTogether_15 : decode cd_X_bringTogether 15 = .ok (.ifCond .eq 7, 3) := by decide +kernel
theorem dc_X_bringTogether_18 : decode cd_X_bringTogether 18 = .ok (.iconst 1, 1) := by decide +kernel
theorem dc_X_bringTogether_19 : decode cd_X_bringTogether 19 = .ok (.goto 4, 3) := by decide +kernel
theorem dc_X_bringTogether_22 : decode cd_X_bringTogether 22 = .ok (.iconst 0, 1) := by decide +kernel
theorem dc_X_bringTogether_23 : decode cd_X_bringTogether 23 = .ok (.istore_n 3, 1) := by decide +kernel
theorem dc_X_bringTogether_24 : decode cd_X_bringTogether 24 = .ok (.aload_n 0, 1) := by decide +kernel
theorem dc_X_bringTogether_25 : decode cd_X_bringTogether 25 = .ok (.getfield 16, 3) := by decide +kernel
theorem dc_X_bringTogether_28 : decode cd_X_bringTogether 28 = .ok (.iload_n 1, 1) := by decide +kernel
theorem dc_X_bringTogether_29 : decode cd_X_bringTogether 29 = .ok (.iaload, 1) := by decide +kernel
theorem dc_X_bringTogether_30 : decode cd_X_bringTogether 30 = .ok (.aload_n 0, 1) := by decide +kernel
theorem dc_X_bringTogether_31 : decode cd_X_bringTogether 31 = .ok (.getfield 16, 3) := by decide +kernel
theorem dc_X_bringTogether_34 : decode cd_X_bringTogether 34 = .ok (.iload_n 2, 1) := by decide +kernel
theorem dc_X_bringTogether_35 : decode cd_X_bringTogether 35 = .ok (.iaload, 1) := by decide +kernel
theorem dc_X_bringTogether_36 : decode cd_X_bringTogether 36 = .ok (.invokestatic 168, 3) := by decide +kernel
theorem dc_X_bringTogether_39 : decode cd_X_bringTogether 39 = .ok (.istore 4, 2) := by decide +kernel
theorem dc_X_bringTogether_41 : decode cd_X_bringTogether 41 = .ok (.aload_n 0, 1) := by decide +kernel
theorem dc_X_bringTogether_42 : decode cd_X_bringTogether 42 = .ok (.iload_n 1, 1) := by decide +kernel
theorem dc_X_bringTogether_43 : decode cd_X_bringTogether 43 = .ok (.iload 4, 2) := by decide +kernel
theorem dc_X_bringTogether_45 : decode cd_X_bringTogether 45 = .ok (.iload_n 3, 1) := by decide +kernel
theorem dc_X_bringTogether_46 : decode cd_X_bringTogether 46 = .ok (.invokevirtual 109, 3) := by decide +kernel
theorem dc_X_bringTogether_49 : decode cd_X_bringTogether 49 = .ok (.aload_n 0, 1) := by decide +kernel
theorem dc_X_bringTogether_50 : decode cd_X_bringTogether 50 = .ok (.iload_n 2, 1) := by decide +kernel
theorem dc_X_bringTogether_51 : decode cd_X_bringTogether 51 = .ok (.iload 4, 2) := by decide +kernel
theorem dc_X_bringTogether_53 : decode cd_X_bringTogether 53 = .ok (.iload_n 3, 1) := by decide +kernel
theorem dc_X_bringTogether_54 : decode cd_X_bringTogether 54 = .ok (.invokevirtual 109, 3) := by decide +kernel
theorem dc_X_bringTogether_57 : decode cd_X_bringTogether 57 = .ok (.aload_n 0, 1) := by decide +kernel
theorem dc_X_bringTogether_58 : decode cd_X_bringTogether 58 = .ok (.getfield 20, 3) := by decide +kernel
theorem dc_X_bringTogether_61 : decode cd_X_bringTogether 61 = .ok (.iload_n 1, 1) := by decide +kernel
theorem dc_X_bringTogether_62 : decode cd_X_bringTogether 62 = .ok (.iload_n 3, 1) := by decide +kernel
theorem dc_X_bringTogether_63 : decode cd_X_bringTogether 63 = .ok (.bastore, 1) := by decide +kernel
theorem dc_X_bringTogether_64 : decode cd_X_bringTogether 64 = .ok (.aload_n 0, 1) := by decide +kernel
theorem dc_X_bringTogether_65 : decode cd_X_bringTogether 65 = .ok (.getfield 20, 3) := by decide +kernel
theorem dc_X_bringTogether_68 : decode cd_X_bringTogether 68 = .ok (.iload_n 2, 1) := by decide +kernel
theorem dc_X_bringTogether_69 : decode cd_X_bringTogether 69 = .ok (.iload_n 3, 1) := by decide +kernel
theorem dc_X_bringTogether_70 : decode cd_X_bringTogether 70 = .ok (.bastore, 1) := by decide +kernel
theorem dc_X_bringTogether_71 : decode cd_X_bringTogether 71 = .ok (.return_, 1) := by decide +kernel
theorem dc_X_sureOnes_0 : decode cd_X_sureOnes 0 = .ok (.aload_n 0, 1) := by decide +kernel
theorem dc_X_sureOnes_1 : decode cd_X_sureOnes 1 = .ok (.getfield 9, 3) := by decide +kernel
theorem dc_X_sureOnes_4 : decode cd_X_sureOnes 4 = .ok (.iload_n 1, 1) := by decide +kernel
theorem dc_X_sureOnes_5 : decode cd_X_sureOnes 5 = .ok (.laload, 1) := by decide +kernel
theorem dc_X_sureOnes_6 : decode cd_X_sureOnes 6 = .ok (.aload_n 0, 1) := by decide +kernel
theorem dc_X_sureOnes_7 : decode cd_X_sureOnes 7 = .ok (.getfield 13, 3) := by decide +kernel
theorem dc_X_sureOnes_10 : decode cd_X_sureOnes 10 = .ok (.iload_n 1, 1) := by decide +kernel
theorem dc_X_sureOnes_11 : decode cd_X_sureOnes 11 = .ok (.laload, 1) := by decide +kernel
theorem dc_X_sureOnes_12 : decode cd_X_sureOnes 12 = .ok (.ldc2_w 162, 3) := by decide +kernel
theorem dc_X_sureOnes_15 : decode cd_X_sureOnes 15 = .ok (.lxor, 1) := by decide +kernel
theorem dc_X_sureOnes_16 : decode cd_X_sureOnes 16 = .ok (.land, 1) := by decide +kernel
theorem dc_X_sureOnes_17 : decode cd_X_sureOnes 17 = .ok (.lreturn, 1) := by decide +kernel
theorem dc_X_sureZeros_0 : decode cd_X_sureZeros 0 = .ok (.aload_n 0, 1) := by decide +kernel
theorem dc_X_sureZeros_1 : decode cd_X_sureZeros 1 = .ok (.getfield 9, 3) := by decide +kernel
theorem dc_X_sureZeros_4 : decode cd_X_sureZeros 4 = .ok (.iload_n 1, 1) := by decide +kernel
theorem dc_X_sureZeros_5 : decode cd_X_sureZeros 5 = .ok (.laload, 1) := by decide +kernel
theorem dc_X_sureZeros_6 : decode cd_X_sureZeros 6 = .ok (.aload_n 0, 1) := by decide +kernel
theorem dc_X_sureZeros_7 : decode cd_X_sureZeros 7 = .ok (.getfield 13, 3) := by decide +kernel
theorem dc_X_sureZeros_10 : decode cd_X_sureZeros 10 = .ok (.iload_n 1, 1) := by decide +kernel
theorem dc_X_sureZeros_11 : decode cd_X_sureZeros 11 = .ok (.laload, 1) := by decide +kernel
theorem dc_X_sureZeros_12 : decode cd_X_sureZeros 12 = .ok (.lor, 1) := by decide +kernel
theorem dc_X_sureZeros_13 : decode cd_X_sureZeros 13 = .ok (.ldc2_w 162, 3) := by decide +kernel
theorem dc_X_sureZeros_16 : decode cd_X_sureZeros 16 = .ok (.lxor, 1) := by decide +kernel
theorem dc_X_sureZeros_17 : decode cd_X_sureZeros 17 = .ok (.aload_n 0, 1) := by decide +kernel
theorem dc_X_sureZeros_18 : decode cd_X_sureZeros 18 = .ok (.getfield 16, 3) := by decide +kernel
theorem dc_X_sureZeros_21 : decode cd_X_sureZeros 21 = .ok (.iload_n 1, 1) := by decide +kernel
theorem dc_X_sureZeros_22 : decode cd_X_sureZeros 22 = .ok (.iaload, 1) := by decide +kernel
theorem dc_X_sureZeros_23 : decode cd_X_sureZeros 23 = .ok (.invokestatic 157, 3) := by decide +kernel
theorem dc_X_sureZeros_26 : decode cd_X_sureZeros 26 = .ok (.land, 1) := by decide +kernel
theorem dc_X_sureZeros_27 : decode cd_X_sureZeros 27 = .ok (.lreturn, 1) := by decide +kernel
theorem dc_X_number_0 : decode cd_X_number 0 = .ok (.aload_n 0, 1) := by decide +kernel
theorem dc_X_number_1 : decode cd_X_number 1 = .ok (.getfield 20, 3) := by decide +kernel
theorem dc_X_number_4 : decode cd_X_number 4 = .ok (.iload_n 1, 1) := by decide +kernel
theorem dc_X_number_5 : decode cd_X_number 5 = .ok (.baload, 1) := by decide +kernel
theorem dc_X_number_6 : decode cd_X_number 6 = .ok (.ifCond .eq 21, 3) := by decide +kernel
theorem dc_X_number_9 : decode cd_X_number 9 = .ok (.aload_n 0, 1) := by decide +kernel
theorem dc_X_number_10 : decode cd_X_number 10 = .ok (.getfield 9, 3) := by decide +kernel
theorem dc_X_number_13 : decode cd_X_number 13 = .ok (.iload_n 1, 1) := by decide +kernel
theorem dc_X_number_14 : decode cd_X_number 14 = .ok (.laload, 1) := by decide +kernel
theorem dc_X_number_15 : decode cd_X_number 15 = .ok (.aload_n 0, 1) := by decide +kernel
theorem dc_X_number_16 : decode cd_X_number 16 = .ok (.getfield 16, 3) := by decide +kernel
theorem dc_X_number_19 : decode cd_X_number 19 = .ok (.iload_n 1, 1) := by decide +kernel
theorem dc_X_number_20 : decode cd_X_number 20 = .ok (.iaload, 1) := by decide +kernel
theorem dc_X_number_21 : decode cd_X_number 21 = .ok (.invokestatic 164, 3) := by decide +kernel
theorem dc_X_number_24 : decode cd_X_number 24 = .ok (.goto 9, 3) := by decide +kernel
theorem dc_X_number_27 : decode cd_X_number 27 = .ok (.aload_n 0, 1) := by decide +kernel
theorem dc_X_number_28 : decode cd_X_number 28 = .ok (.getfield 9, 3) := by decide +kernel
theorem dc_X_number_31 : decode cd_X_number 31 = .ok (.iload_n 1, 1) := by decide +kernel
theorem dc_X_number_32 : decode cd_X_number 32 = .ok (.laload, 1) := by decide +kernel
theorem dc_X_number_33 : decode cd_X_number 33 = .ok (.lreturn, 1) := by decide +kernel
theorem dc_X_reckon_0 : decode cd_X_reckon 0 = .ok (.aload_n 0, 1) := by decide +kernel
theorem dc_X_reckon_1 : decode cd_X_reckon 1 = .ok (.iload_n 2, 1) := by decide +kernel
theorem dc_X_reckon_2 : decode cd_X_reckon 2 = .ok (.invokevirtual 106, 3) := by decide +kernel
theorem dc_X_reckon_5 : decode cd_X_reckon 5 = .ok (.lstore 4, 2) := by decide +kernel
theorem dc_X_reckon_7 : decode cd_X_reckon 7 = .ok (.aload_n 0, 1) := by decide +kernel
theorem dc_X_reckon_8 : decode cd_X_reckon 8 = .ok (.iload_n 3, 1) := by decide +kernel
theorem dc_X_reckon_9 : decode cd_X_reckon 9 = .ok (.invokevirtual 106, 3) := by decide +kernel
theorem dc_X_reckon_12 : decode cd_X_reckon 12 = .ok (.lstore 6, 2) := by decide +kernel
theorem dc_X_reckon_14 : decode cd_X_reckon 14 = .ok (.iload_n 1, 1) := by decide +kernel
theorem dc_X_reckon_15 : decode cd_X_reckon 15 = .ok (.iconst 3, 1) := by decide +kernel
theorem dc_X_reckon_16 : decode cd_X_reckon 16 = .ok (.if_icmp .eq 8, 3) := by decide +kernel
theorem dc_X_reckon_19 : decode cd_X_reckon 19 = .ok (.iload_n 1, 1) := by decide +kernel
theorem dc_X_reckon_20 : decode cd_X_reckon 20 = .ok (.iconst 4, 1) := by decide +kernel
theorem dc_X_reckon_21 : decode cd_X_reckon 21 = .ok (.if_icmp .ne 7, 3) := by decide +kernel
theorem dc_X_reckon_24 : decode cd_X_reckon 24 = .ok (.iconst 1, 1) := by decide +kernel
theorem dc_X_reckon_25 : decode cd_X_reckon 25 = .ok (.goto 4, 3) := by decide +kernel
theorem dc_X_reckon_28 : decode cd_X_reckon 28 = .ok (.iconst 0, 1) := by decide +kernel
theorem dc_X_reckon_29 : decode cd_X_reckon 29 = .ok (.istore 8, 2) := by decide +kernel
theorem dc_X_reckon_31 : decode cd_X_reckon 31 = .ok (.aload_n 0, 1) := by decide +kernel
theorem dc_X_reckon_32 : decode cd_X_reckon 32 = .ok (.getfield 13, 3) := by decide +kernel
theorem dc_X_reckon_35 : decode cd_X_reckon 35 = .ok (.iload_n 2, 1) := by decide +kernel
theorem dc_X_reckon_36 : decode cd_X_reckon 36 = .ok (.laload, 1) := by decide +kernel
theorem dc_X_reckon_37 : decode cd_X_reckon 37 = .ok (.aload_n 0, 1) := by decide +kernel
theorem dc_X_reckon_38 : decode cd_X_reckon 38 = .ok (.getfield 13, 3) := by decide +kernel
theorem dc_X_reckon_41 : decode cd_X_reckon 41 = .ok (.iload_n 3, 1) := by decide +kernel
theorem dc_X_reckon_42 : decode cd_X_reckon 42 = .ok (.laload, 1) := by decide +kernel
theorem dc_X_reckon_43 : decode cd_X_reckon 43 = .ok (.lor, 1) := by decide +kernel
theorem dc_X_reckon_44 : decode cd_X_reckon 44 = .ok (.lconst 0, 1) := by decide +kernel
theorem dc_X_reckon_45 : decode cd_X_reckon 45 = .ok (.lcmp, 1) := by decide +kernel
theorem dc_X_reckon_46 : decode cd_X_reckon 46 = .ok (.ifCond .ne 15, 3) := by decide +kernel
theorem dc_X_reckon_49 : decode cd_X_reckon 49 = .ok (.iload 8, 2) := by decide +kernel
theorem dc_X_reckon_51 : decode cd_X_reckon 51 = .ok (.ifCond .eq 16, 3) := by decide +kernel
theorem dc_X_reckon_54 : decode cd_X_reckon 54 = .ok (.lload 6, 2) := by decide +kernel
theorem dc_X_reckon_56 : decode cd_X_reckon 56 = .ok (.lconst 0, 1) := by decide +kernel
theorem dc_X_reckon_57 : decode cd_X_reckon 57 = .ok (.lcmp, 1) := by decide +kernel
theorem dc_X_reckon_58 : decode cd_X_reckon 58 = .ok (.ifCond .ne 9, 3) := by decide +kernel
theorem dc_X_reckon_61 : decode cd_X_reckon 61 = .ok (.aload_n 0, 1) := by decide +kernel
theorem dc_X_reckon_62 : decode cd_X_reckon 62 = .ok (.iload_n 2, 1) := by decide +kernel
theorem dc_X_reckon_63 : decode cd_X_reckon 63 = .ok (.invokevirtual 67, 3) := by decide +kernel
theorem dc_X_reckon_66 : decode cd_X_reckon 66 = .ok (.return_, 1) := by decide +kernel
theorem dc_X_reckon_67 : decode cd_X_reckon 67 = .ok (.iload_n 1, 1) := by decide +kernel
theorem dc_X_reckon_68 : decode cd_X_reckon 68 = .ok (.tableswitch 70 0 2 #[28, 42, 56], 28) := by decide +kernel
theorem dc_X_reckon_96 : decode cd_X_reckon 96 = .ok (.aload_n 0, 1) := by decide +kernel
theorem dc_X_reckon_97 : decode cd_X_reckon 97 = .ok (.iload_n 2, 1) := by decide +kernel
theorem dc_X_reckon_98 : decode cd_X_reckon 98 = .ok (.lload 4, 2) := by decide +kernel
theorem dc_X_reckon_100 : decode cd_X_reckon 100 = .ok (.lload 6, 2) := by decide +kernel
theorem dc_X_reckon_102 : decode cd_X_reckon 102 = .ok (.ladd, 1) := by decide +kernel
theorem dc_X_reckon_103 : decode cd_X_reckon 103 = .ok (.lconst 0, 1) := by decide +kernel
theorem dc_X_reckon_104 : decode cd_X_reckon 104 = .ok (.invokevirtual 154, 3) := by decide +kernel
theorem dc_X_reckon_107 : decode cd_X_reckon 107 = .ok (.goto 81, 3) := by decide +kernel
theorem dc_X_reckon_110 : decode cd_X_reckon 110 = .ok (.aload_n 0, 1) := by decide +kernel
theorem dc_X_reckon_111 : decode cd_X_reckon 111 = .ok (.iload_n 2, 1) := by decide +kernel
theorem dc_X_reckon_112 : decode cd_X_reckon 112 = .ok (.lload 4, 2) := by decide +kernel
theorem dc_X_reckon_114 : decode cd_X_reckon 114 = .ok (.lload 6, 2) := by decide +kernel
theorem dc_X_reckon_116 : decode cd_X_reckon 116 = .ok (.lsub, 1) := by decide +kernel
theorem dc_X_reckon_117 : decode cd_X_reckon 117 = .ok (.lconst 0, 1) := by decide +kernel
theorem dc_X_reckon_118 : decode cd_X_reckon 118 = .ok (.invokevirtual 154, 3) := by decide +kernel
theorem dc_X_reckon_121 : decode cd_X_reckon 121 = .ok (.goto 67, 3) := by decide +kernel
theorem dc_X_reckon_124 : decode cd_X_reckon 124 = .ok (.aload_n 0, 1) := by decide +kernel
theorem dc_X_reckon_125 : decode cd_X_reckon 125 = .ok (.iload_n 2, 1) := by decide +kernel
theorem dc_X_reckon_126 : decode cd_X_reckon 126 = .ok (.lload 4, 2) := by decide +kernel
theorem dc_X_reckon_128 : decode cd_X_reckon 128 = .ok (.lload 6, 2) := by decide +kernel
theorem dc_X_reckon_130 : decode cd_X_reckon 130 = .ok (.lmul, 1) := by decide +kernel
theorem dc_X_reckon_131 : decode cd_X_reckon 131 = .ok (.lconst 0, 1) := by decide +kernel
theorem dc_X_reckon_132 : decode cd_X_reckon 132 = .ok (.invokevirtual 154, 3) := by decide +kernel
theorem dc_X_reckon_135 : decode cd_X_reckon 135 = .ok (.goto 53, 3) := by decide +kernel
theorem dc_X_reckon_138 : decode cd_X_reckon 138 = .ok (.aload_n 0, 1) := by decide +kernel
theorem dc_X_reckon_139 : decode cd_X_reckon 139 = .ok (.getfield 20, 3) := by decide +kernel
theorem dc_X_reckon_142 : decode cd_X_reckon 142 = .ok (.iload_n 2, 1) := by decide +kernel
theorem dc_X_reckon_143 : decode cd_X_reckon 143 = .ok (.baload, 1) := by decide +kernel
theorem dc_X_reckon_144 : decode cd_X_reckon 144 = .ok (.ifCond .eq 11, 3) := by decide +kernel
theorem dc_X_reckon_147 : decode cd_X_reckon 147 = .ok (.lload 4, 2) := by decide +kernel
theorem dc_X_reckon_149 : decode cd_X_reckon 149 = .ok (.lload 6, 2) := by decide +kernel
theorem dc_X_reckon_151 : decode cd_X_reckon 151 = .ok (.ldiv, 1) := by decide +kernel
theorem dc_X_reckon_152 : decode cd_X_reckon 152 = .ok (.goto 10, 3) := by decide +kernel
theorem dc_X_reckon_155 : decode cd_X_reckon 155 = .ok (.lload 4, 2) := by decide +kernel
theorem dc_X_reckon_157 : decode cd_X_reckon 157 = .ok (.lload 6, 2) := by decide +kernel
theorem dc_X_reckon_159 : decode cd_X_reckon 159 = .ok (.invokestatic 173, 3) := by decide +kernel
theorem dc_X_reckon_162 : decode cd_X_reckon 162 = .ok (.lstore 9, 2) := by decide +kernel
theorem dc_X_reckon_164 : decode cd_X_reckon 164 = .ok (.aload_n 0, 1) := by decide +kernel
theorem dc_X_reckon_165 : decode cd_X_reckon 165 = .ok (.iload_n 2, 1) := by decide +kernel
theorem dc_X_reckon_166 : decode cd_X_reckon 166 = .ok (.iload_n 1, 1) := by decide +kernel
theorem dc_X_reckon_167 : decode cd_X_reckon 167 = .ok (.iconst 3, 1) := by decide +kernel
theorem dc_X_reckon_168 : decode cd_X_reckon 168 = .ok (.if_icmp .ne 8, 3) := by decide +kernel
theorem dc_X_reckon_171 : decode cd_X_reckon 171 = .ok (.lload 9, 2) := by decide +kernel
theorem dc_X_reckon_173 : decode cd_X_reckon 173 = .ok (.goto 11, 3) := by decide +kernel
theorem dc_X_reckon_176 : decode cd_X_reckon 176 = .ok (.lload 4, 2) := by decide +kernel
theorem dc_X_reckon_178 : decode cd_X_reckon 178 = .ok (.lload 9, 2) := by decide +kernel
theorem dc_X_reckon_180 : decode cd_X_reckon 180 = .ok (.lload 6, 2) := by decide +kernel
theorem dc_X_reckon_182 : decode cd_X_reckon 182 = .ok (.lmul, 1) := by decide +kernel
theorem dc_X_reckon_183 : decode cd_X_reckon 183 = .ok (.lsub, 1) := by decide +kernel
theorem dc_X_reckon_184 : decode cd_X_reckon 184 = .ok (.lconst 0, 1) := by decide +kernel
theorem dc_X_reckon_185 : decode cd_X_reckon 185 = .ok (.invokevirtual 154, 3) := by decide +kernel
theorem dc_X_reckon_188 : decode cd_X_reckon 188 = .ok (.return_, 1) := by decide +kernel
theorem dc_X_combine_0 : decode cd_X_combine 0 = .ok (.aload_n 0, 1) := by decide +kernel
theorem dc_X_combine_1 : decode cd_X_combine 1 = .ok (.iload_n 2, 1) := by decide +kernel
theorem dc_X_combine_2 : decode cd_X_combine 2 = .ok (.invokevirtual 85, 3) := by decide +kernel
theorem dc_X_combine_5 : decode cd_X_combine 5 = .ok (.lstore 4, 2) := by decide +kernel
theorem dc_X_combine_7 : decode cd_X_combine 7 = .ok (.aload_n 0, 1) := by decide +kernel
theorem dc_X_combine_8 : decode cd_X_combine 8 = .ok (.iload_n 3, 1) := by decide +kernel
theorem dc_X_combine_9 : decode cd_X_combine 9 = .ok (.invokevirtual 85, 3) := by decide +kernel
theorem dc_X_combine_12 : decode cd_X_combine 12 = .ok (.lstore 6, 2) := by decide +kernel
theorem dc_X_combine_14 : decode cd_X_combine 14 = .ok (.aload_n 0, 1) := by decide +kernel
theorem dc_X_combine_15 : decode cd_X_combine 15 = .ok (.iload_n 2, 1) := by decide +kernel
theorem dc_X_combine_16 : decode cd_X_combine 16 = .ok (.invokevirtual 81, 3) := by decide +kernel
theorem dc_X_combine_19 : decode cd_X_combine 19 = .ok (.lstore 8, 2) := by decide +kernel
theorem dc_X_combine_21 : decode cd_X_combine 21 = .ok (.aload_n 0, 1) := by decide +kernel
theorem dc_X_combine_22 : decode cd_X_combine 22 = .ok (.iload_n 3, 1) := by decide +kernel
theorem dc_X_combine_23 : decode cd_X_combine 23 = .ok (.invokevirtual 81, 3) := by decide +kernel
theorem dc_X_combine_26 : decode cd_X_combine 26 = .ok (.lstore 10, 2) := by decide +kernel
theorem dc_X_combine_28 : decode cd_X_combine 28 = .ok (.lload 4, 2) := by decide +kernel
theorem dc_X_combine_30 : decode cd_X_combine 30 = .ok (.lload 10, 2) := by decide +kernel
theorem dc_X_combine_32 : decode cd_X_combine 32 = .ok (.land, 1) := by decide +kernel
theorem dc_X_combine_33 : decode cd_X_combine 33 = .ok (.lload 8, 2) := by decide +kernel
theorem dc_X_combine_35 : decode cd_X_combine 35 = .ok (.lload 6, 2) := by decide +kernel
theorem dc_X_combine_37 : decode cd_X_combine 37 = .ok (.land, 1) := by decide +kernel
theorem dc_X_combine_38 : decode cd_X_combine 38 = .ok (.lor, 1) := by decide +kernel
theorem dc_X_combine_39 : decode cd_X_combine 39 = .ok (.lstore 12, 2) := by decide +kernel
theorem dc_X_combine_41 : decode cd_X_combine 41 = .ok (.lload 4, 2) := by decide +kernel
theorem dc_X_combine_43 : decode cd_X_combine 43 = .ok (.lload 6, 2) := by decide +kernel
theorem dc_X_combine_45 : decode cd_X_combine 45 = .ok (.land, 1) := by decide +kernel
theorem dc_X_combine_46 : decode cd_X_combine 46 = .ok (.lload 8, 2) := by decide +kernel
theorem dc_X_combine_48 : decode cd_X_combine 48 = .ok (.lload 10, 2) := by decide +kernel
theorem dc_X_combine_50 : decode cd_X_combine 50 = .ok (.land, 1) := by decide +kernel
theorem dc_X_combine_51 : decode cd_X_combine 51 = .ok (.lor, 1) := by decide +kernel
theorem dc_X_combine_52 : decode cd_X_combine 52 = .ok (.lstore 14, 2) := by decide +kernel
theorem dc_X_combine_54 : decode cd_X_combine 54 = .ok (.iload_n 1, 1) := by decide +kernel
theorem dc_X_combine_55 : decode cd_X_combine 55 = .ok (.tableswitch 73 5 7 #[25, 43, 61], 25) := by decide +kernel
theorem dc_X_combine_80 : decode cd_X_combine 80 = .ok (.aload_n 0, 1) := by decide +kernel
theorem dc_X_combine_81 : decode cd_X_combine 81 = .ok (.iload_n 2, 1) := by decide +kernel
theorem dc_X_combine_82 : decode cd_X_combine 82 = .ok (.lload 4, 2) := by decide +kernel
theorem dc_X_combine_84 : decode cd_X_combine 84 = .ok (.lload 6, 2) := by decide +kernel
theorem dc_X_combine_86 : decode cd_X_combine 86 = .ok (.land, 1) := by decide +kernel
theorem dc_X_combine_87 : decode cd_X_combine 87 = .ok (.lload 8, 2) := by decide +kernel
theorem dc_X_combine_89 : decode cd_X_combine 89 = .ok (.lload 10, 2) := by decide +kernel
theorem dc_X_combine_91 : decode cd_X_combine 91 = .ok (.lor, 1) := by decide +kernel
theorem dc_X_combine_92 : decode cd_X_combine 92 = .ok (.invokevirtual 88, 3) := by decide +kernel
theorem dc_X_combine_95 : decode cd_X_combine 95 = .ok (.goto 42, 3) := by decide +kernel
theorem dc_X_combine_98 : decode cd_X_combine 98 = .ok (.aload_n 0, 1) := by decide +kernel
theorem dc_X_combine_99 : decode cd_X_combine 99 = .ok (.iload_n 2, 1) := by decide +kernel
theorem dc_X_combine_100 : decode cd_X_combine 100 = .ok (.lload 4, 2) := by decide +kernel
theorem dc_X_combine_102 : decode cd_X_combine 102 = .ok (.lload 6, 2) := by decide +kernel
theorem dc_X_combine_104 : decode cd_X_combine 104 = .ok (.lor, 1) := by decide +kernel
theorem dc_X_combine_105 : decode cd_X_combine 105 = .ok (.lload 8, 2) := by decide +kernel
theorem dc_X_combine_107 : decode cd_X_combine 107 = .ok (.lload 10, 2) := by decide +kernel
theorem dc_X_combine_109 : decode cd_X_combine 109 = .ok (.land, 1) := by decide +kernel
theorem dc_X_combine_110 : decode cd_X_combine 110 = .ok (.invokevirtual 88, 3) := by decide +kernel
theorem dc_X_combine_113 : decode cd_X_combine 113 = .ok (.goto 24, 3) := by decide +kernel
theorem dc_X_combine_116 : decode cd_X_combine 116 = .ok (.aload_n 0, 1) := by decide +kernel
theorem dc_X_combine_117 : decode cd_X_combine 117 = .ok (.iload_n 2, 1) := by decide +kernel
theorem dc_X_combine_118 : decode cd_X_combine 118 = .ok (.lload 12, 2) := by decide +kernel
theorem dc_X_combine_120 : decode cd_X_combine 120 = .ok (.lload 14, 2) := by decide +kernel
theorem dc_X_combine_122 : decode cd_X_combine 122 = .ok (.invokevirtual 88, 3) := by decide +kernel
theorem dc_X_combine_125 : decode cd_X_combine 125 = .ok (.goto 12, 3) := by decide +kernel
theorem dc_X_combine_128 : decode cd_X_combine 128 = .ok (.aload_n 0, 1) := by decide +kernel
theorem dc_X_combine_129 : decode cd_X_combine 129 = .ok (.iload_n 2, 1) := by decide +kernel
theorem dc_X_combine_130 : decode cd_X_combine 130 = .ok (.lload 14, 2) := by decide +kernel
theorem dc_X_combine_132 : decode cd_X_combine 132 = .ok (.lload 12, 2) := by decide +kernel
theorem dc_X_combine_134 : decode cd_X_combine 134 = .ok (.invokevirtual 88, 3) := by decide +kernel
theorem dc_X_combine_137 : decode cd_X_combine 137 = .ok (.return_, 1) := by decide +kernel
theorem dc_X_equal_0 : decode cd_X_equal 0 = .ok (.aload_n 0, 1) := by decide +kernel
theorem dc_X_equal_1 : decode cd_X_equal 1 = .ok (.iload_n 1, 1) := by decide +kernel
theorem dc_X_equal_2 : decode cd_X_equal 2 = .ok (.invokevirtual 85, 3) := by decide +kernel
theorem dc_X_equal_5 : decode cd_X_equal 5 = .ok (.aload_n 0, 1) := by decide +kernel
theorem dc_X_equal_6 : decode cd_X_equal 6 = .ok (.iload_n 2, 1) := by decide +kernel
theorem dc_X_equal_7 : decode cd_X_equal 7 = .ok (.invokevirtual 81, 3) := by decide +kernel
theorem dc_X_equal_10 : decode cd_X_equal 10 = .ok (.land, 1) := by decide +kernel
theorem dc_X_equal_11 : decode cd_X_equal 11 = .ok (.aload_n 0, 1) := by decide +kernel
theorem dc_X_equal_12 : decode cd_X_equal 12 = .ok (.iload_n 1, 1) := by decide +kernel
theorem dc_X_equal_13 : decode cd_X_equal 13 = .ok (.invokevirtual 81, 3) := by decide +kernel
theorem dc_X_equal_16 : decode cd_X_equal 16 = .ok (.aload_n 0, 1) := by decide +kernel
theorem dc_X_equal_17 : decode cd_X_equal 17 = .ok (.iload_n 2, 1) := by decide +kernel
theorem dc_X_equal_18 : decode cd_X_equal 18 = .ok (.invokevirtual 85, 3) := by decide +kernel
theorem dc_X_equal_21 : decode cd_X_equal 21 = .ok (.land, 1) := by decide +kernel
theorem dc_X_equal_22 : decode cd_X_equal 22 = .ok (.lor, 1) := by decide +kernel
theorem dc_X_equal_23 : decode cd_X_equal 23 = .ok (.lconst 0, 1) := by decide +kernel
theorem dc_X_equal_24 : decode cd_X_equal 24 = .ok (.lcmp, 1) := by decide +kernel
theorem dc_X_equal_25 : decode cd_X_equal 25 = .ok (.ifCond .eq 5, 3) := by decide +kernel
theorem dc_X_equal_28 : decode cd_X_equal 28 = .ok (.iconst 0, 1) := by decide +kernel
theorem dc_X_equal_29 : decode cd_X_equal 29 = .ok (.ireturn, 1) := by decide +kernel
theorem dc_X_equal_30 : decode cd_X_equal 30 = .ok (.aload_n 0, 1) := by decide +kernel
theorem dc_X_equal_31 : decode cd_X_equal 31 = .ok (.getfield 13, 3) := by decide +kernel
theorem dc_X_equal_34 : decode cd_X_equal 34 = .ok (.iload_n 1, 1) := by decide +kernel
theorem dc_X_equal_35 : decode cd_X_equal 35 = .ok (.laload, 1) := by decide +kernel
theorem dc_X_equal_36 : decode cd_X_equal 36 = .ok (.aload_n 0, 1) := by decide +kernel
theorem dc_X_equal_37 : decode cd_X_equal 37 = .ok (.getfield 13, 3) := by decide +kernel
theorem dc_X_equal_40 : decode cd_X_equal 40 = .ok (.iload_n 2, 1) := by decide +kernel
theorem dc_X_equal_41 : decode cd_X_equal 41 = .ok (.laload, 1) := by decide +kernel
theorem dc_X_equal_42 : decode cd_X_equal 42 = .ok (.lor, 1) := by decide +kernel
theorem dc_X_equal_43 : decode cd_X_equal 43 = .ok (.lconst 0, 1) := by decide +kernel
theorem dc_X_equal_44 : decode cd_X_equal 44 = .ok (.lcmp, 1) := by decide +kernel
theorem dc_X_equal_45 : decode cd_X_equal 45 = .ok (.ifCond .eq 7, 3) := by decide +kernel
theorem dc_X_equal_48 : decode cd_X_equal 48 = .ok (.iconst 2, 1) := by decide +kernel
theorem dc_X_equal_49 : decode cd_X_equal 49 = .ok (.goto 4, 3) := by decide +kernel
theorem dc_X_equal_52 : decode cd_X_equal 52 = .ok (.iconst 1, 1) := by decide +kernel
theorem dc_X_equal_53 : decode cd_X_equal 53 = .ok (.ireturn, 1) := by decide +kernel
theorem dc_X_identical_0 : decode cd_X_identical 0 = .ok (.aload_n 0, 1) := by decide +kernel
theorem dc_X_identical_1 : decode cd_X_identical 1 = .ok (.getfield 9, 3) := by decide +kernel
theorem dc_X_identical_4 : decode cd_X_identical 4 = .ok (.iload_n 1, 1) := by decide +kernel
theorem dc_X_identical_5 : decode cd_X_identical 5 = .ok (.laload, 1) := by decide +kernel
theorem dc_X_identical_6 : decode cd_X_identical 6 = .ok (.aload_n 0, 1) := by decide +kernel
theorem dc_X_identical_7 : decode cd_X_identical 7 = .ok (.getfield 9, 3) := by decide +kernel
theorem dc_X_identical_10 : decode cd_X_identical 10 = .ok (.iload_n 2, 1) := by decide +kernel
theorem dc_X_identical_11 : decode cd_X_identical 11 = .ok (.laload, 1) := by decide +kernel
theorem dc_X_identical_12 : decode cd_X_identical 12 = .ok (.lcmp, 1) := by decide +kernel
theorem dc_X_identical_13 : decode cd_X_identical 13 = .ok (.ifCond .ne 23, 3) := by decide +kernel
theorem dc_X_identical_16 : decode cd_X_identical 16 = .ok (.aload_n 0, 1) := by decide +kernel
theorem dc_X_identical_17 : decode cd_X_identical 17 = .ok (.getfield 13, 3) := by decide +kernel
theorem dc_X_identical_20 : decode cd_X_identical 20 = .ok (.iload_n 1, 1) := by decide +kernel
theorem dc_X_identical_21 : decode cd_X_identical 21 = .ok (.laload, 1) := by decide +kernel
theorem dc_X_identical_22 : decode cd_X_identical 22 = .ok (.aload_n 0, 1) := by decide +kernel
theorem dc_X_identical_23 : decode cd_X_identical 23 = .ok (.getfield 13, 3) := by decide +kernel
theorem dc_X_identical_26 : decode cd_X_identical 26 = .ok (.iload_n 2, 1) := by decide +kernel
theorem dc_X_identical_27 : decode cd_X_identical 27 = .ok (.laload, 1) := by decide +kernel
theorem dc_X_identical_28 : decode cd_X_identical 28 = .ok (.lcmp, 1) := by decide +kernel
theorem dc_X_identical_29 : decode cd_X_identical 29 = .ok (.ifCond .ne 7, 3) := by decide +kernel
theorem dc_X_identical_32 : decode cd_X_identical 32 = .ok (.iconst 1, 1) := by decide +kernel
theorem dc_X_identical_33 : decode cd_X_identical 33 = .ok (.goto 4, 3) := by decide +kernel
theorem dc_X_identical_36 : decode cd_X_identical 36 = .ok (.iconst 0, 1) := by decide +kernel
theorem dc_X_identical_37 : decode cd_X_identical 37 = .ok (.ireturn, 1) := by decide +kernel
theorem dc_X_less_0 : decode cd_X_less 0 = .ok (.aload_n 0, 1) := by decide +kernel
theorem dc_X_less_1 : decode cd_X_less 1 = .ok (.getfield 13, 3) := by decide +kernel
theorem dc_X_less_4 : decode cd_X_less 4 = .ok (.iload_n 1, 1) := by decide +kernel
theorem dc_X_less_5 : decode cd_X_less 5 = .ok (.laload, 1) := by decide +kernel
theorem dc_X_less_6 : decode cd_X_less 6 = .ok (.aload_n 0, 1) := by decide +kernel
theorem dc_X_less_7 : decode cd_X_less 7 = .ok (.getfield 13, 3) := by decide +kernel
theorem dc_X_less_10 : decode cd_X_less 10 = .ok (.iload_n 2, 1) := by decide +kernel
theorem dc_X_less_11 : decode cd_X_less 11 = .ok (.laload, 1) := by decide +kernel
theorem dc_X_less_12 : decode cd_X_less 12 = .ok (.lor, 1) := by decide +kernel
theorem dc_X_less_13 : decode cd_X_less 13 = .ok (.lconst 0, 1) := by decide +kernel
theorem dc_X_less_14 : decode cd_X_less 14 = .ok (.lcmp, 1) := by decide +kernel
theorem dc_X_less_15 : decode cd_X_less 15 = .ok (.ifCond .eq 5, 3) := by decide +kernel
theorem dc_X_less_18 : decode cd_X_less 18 = .ok (.iconst 2, 1) := by decide +kernel
theorem dc_X_less_19 : decode cd_X_less 19 = .ok (.ireturn, 1) := by decide +kernel
theorem dc_X_less_20 : decode cd_X_less 20 = .ok (.aload_n 0, 1) := by decide +kernel
theorem dc_X_less_21 : decode cd_X_less 21 = .ok (.getfield 20, 3) := by decide +kernel
theorem dc_X_less_24 : decode cd_X_less 24 = .ok (.iload_n 1, 1) := by decide +kernel
theorem dc_X_less_25 : decode cd_X_less 25 = .ok (.baload, 1) := by decide +kernel
theorem dc_X_less_26 : decode cd_X_less 26 = .ok (.ifCond .eq 25, 3) := by decide +kernel
theorem dc_X_less_29 : decode cd_X_less 29 = .ok (.aload_n 0, 1) := by decide +kernel
theorem dc_X_less_30 : decode cd_X_less 30 = .ok (.iload_n 1, 1) := by decide +kernel
theorem dc_X_less_31 : decode cd_X_less 31 = .ok (.invokevirtual 106, 3) := by decide +kernel
theorem dc_X_less_34 : decode cd_X_less 34 = .ok (.aload_n 0, 1) := by decide +kernel
theorem dc_X_less_35 : decode cd_X_less 35 = .ok (.iload_n 2, 1) := by decide +kernel
theorem dc_X_less_36 : decode cd_X_less 36 = .ok (.invokevirtual 106, 3) := by decide +kernel
theorem dc_X_less_39 : decode cd_X_less 39 = .ok (.lcmp, 1) := by decide +kernel
theorem dc_X_less_40 : decode cd_X_less 40 = .ok (.ifCond .ge 7, 3) := by decide +kernel
theorem dc_X_less_43 : decode cd_X_less 43 = .ok (.iconst 1, 1) := by decide +kernel
theorem dc_X_less_44 : decode cd_X_less 44 = .ok (.goto 22, 3) := by decide +kernel
theorem dc_X_less_47 : decode cd_X_less 47 = .ok (.iconst 0, 1) := by decide +kernel
theorem dc_X_less_48 : decode cd_X_less 48 = .ok (.goto 18, 3) := by decide +kernel
theorem dc_X_less_51 : decode cd_X_less 51 = .ok (.aload_n 0, 1) := by decide +kernel
theorem dc_X_less_52 : decode cd_X_less 52 = .ok (.getfield 9, 3) := by decide +kernel
theorem dc_X_less_55 : decode cd_X_less 55 = .ok (.iload_n 1, 1) := by decide +kernel
theorem dc_X_less_56 : decode cd_X_less 56 = .ok (.laload, 1) := by decide +kernel
theorem dc_X_less_57 : decode cd_X_less 57 = .ok (.aload_n 0, 1) := by decide +kernel
theorem dc_X_less_58 : decode cd_X_less 58 = .ok (.getfield 9, 3) := by decide +kernel
theorem dc_X_less_61 : decode cd_X_less 61 = .ok (.iload_n 2, 1) := by decide +kernel
theorem dc_X_less_62 : decode cd_X_less 62 = .ok (.laload, 1) := by decide +kernel
theorem dc_X_less_63 : decode cd_X_less 63 = .ok (.invokestatic 192, 3) := by decide +kernel
theorem dc_X_less_66 : decode cd_X_less 66 = .ok (.istore_n 3, 1) := by decide +kernel
theorem dc_X_less_67 : decode cd_X_less 67 = .ok (.iload_n 3, 1) := by decide +kernel
theorem dc_X_less_68 : decode cd_X_less 68 = .ok (.ifCond .eq 7, 3) := by decide +kernel
theorem dc_X_less_71 : decode cd_X_less 71 = .ok (.iconst 1, 1) := by decide +kernel
theorem dc_X_less_72 : decode cd_X_less 72 = .ok (.goto 4, 3) := by decide +kernel
theorem dc_X_less_75 : decode cd_X_less 75 = .ok (.iconst 0, 1) := by decide +kernel
theorem dc_X_less_76 : decode cd_X_less 76 = .ok (.ireturn, 1) := by decide +kernel
theorem dc_X_allOnes_0 : decode cd_X_allOnes 0 = .ok (.aload_n 0, 1) := by decide +kernel
theorem dc_X_allOnes_1 : decode cd_X_allOnes 1 = .ok (.iload_n 1, 1) := by decide +kernel
theorem dc_X_allOnes_2 : decode cd_X_allOnes 2 = .ok (.invokevirtual 81, 3) := by decide +kernel
theorem dc_X_allOnes_5 : decode cd_X_allOnes 5 = .ok (.lconst 0, 1) := by decide +kernel
theorem dc_X_allOnes_6 : decode cd_X_allOnes 6 = .ok (.lcmp, 1) := by decide +kernel
theorem dc_X_allOnes_7 : decode cd_X_allOnes 7 = .ok (.ifCond .eq 5, 3) := by decide +kernel
theorem dc_X_allOnes_10 : decode cd_X_allOnes 10 = .ok (.iconst 0, 1) := by decide +kernel
theorem dc_X_allOnes_11 : decode cd_X_allOnes 11 = .ok (.ireturn, 1) := by decide +kernel
theorem dc_X_allOnes_12 : decode cd_X_allOnes 12 = .ok (.aload_n 0, 1) := by decide +kernel
theorem dc_X_allOnes_13 : decode cd_X_allOnes 13 = .ok (.getfield 13, 3) := by decide +kernel
theorem dc_X_allOnes_16 : decode cd_X_allOnes 16 = .ok (.iload_n 1, 1) := by decide +kernel
theorem dc_X_allOnes_17 : decode cd_X_allOnes 17 = .ok (.laload, 1) := by decide +kernel
theorem dc_X_allOnes_18 : decode cd_X_allOnes 18 = .ok (.lconst 0, 1) := by decide +kernel
theorem dc_X_allOnes_19 : decode cd_X_allOnes 19 = .ok (.lcmp, 1) := by decide +kernel
theorem dc_X_allOnes_20 : decode cd_X_allOnes 20 = .ok (.ifCond .eq 7, 3) := by decide +kernel
theorem dc_X_allOnes_23 : decode cd_X_allOnes 23 = .ok (.iconst 2, 1) := by decide +kernel
theorem dc_X_allOnes_24 : decode cd_X_allOnes 24 = .ok (.goto 4, 3) := by decide +kernel
theorem dc_X_allOnes_27 : decode cd_X_allOnes 27 = .ok (.iconst 1, 1) := by decide +kernel
theorem dc_X_allOnes_28 : decode cd_X_allOnes 28 = .ok (.ireturn, 1) := by decide +kernel
theorem dc_X_anyOne_0 : decode cd_X_anyOne 0 = .ok (.aload_n 0, 1) := by decide +kernel
theorem dc_X_anyOne_1 : decode cd_X_anyOne 1 = .ok (.iload_n 1, 1) := by decide +kernel
theorem dc_X_anyOne_2 : decode cd_X_anyOne 2 = .ok (.invokevirtual 85, 3) := by decide +kernel
theorem dc_X_anyOne_5 : decode cd_X_anyOne 5 = .ok (.lconst 0, 1) := by decide +kernel
theorem dc_X_anyOne_6 : decode cd_X_anyOne 6 = .ok (.lcmp, 1) := by decide +kernel
theorem dc_X_anyOne_7 : decode cd_X_anyOne 7 = .ok (.ifCond .eq 5, 3) := by decide +kernel
theorem dc_X_anyOne_10 : decode cd_X_anyOne 10 = .ok (.iconst 1, 1) := by decide +kernel
theorem dc_X_anyOne_11 : decode cd_X_anyOne 11 = .ok (.ireturn, 1) := by decide +kernel
theorem dc_X_anyOne_12 : decode cd_X_anyOne 12 = .ok (.aload_n 0, 1) := by decide +kernel
theorem dc_X_anyOne_13 : decode cd_X_anyOne 13 = .ok (.getfield 13, 3) := by decide +kernel
theorem dc_X_anyOne_16 : decode cd_X_anyOne 16 = .ok (.iload_n 1, 1) := by decide +kernel
theorem dc_X_anyOne_17 : decode cd_X_anyOne 17 = .ok (.laload, 1) := by decide +kernel
theorem dc_X_anyOne_18 : decode cd_X_anyOne 18 = .ok (.lconst 0, 1) := by decide +kernel
theorem dc_X_anyOne_19 : decode cd_X_anyOne 19 = .ok (.lcmp, 1) := by decide +kernel
theorem dc_X_anyOne_20 : decode cd_X_anyOne 20 = .ok (.ifCond .eq 7, 3) := by decide +kernel
theorem dc_X_anyOne_23 : decode cd_X_anyOne 23 = .ok (.iconst 2, 1) := by decide +kernel
theorem dc_X_anyOne_24 : decode cd_X_anyOne 24 = .ok (.goto 4, 3) := by decide +kernel
theorem dc_X_anyOne_27 : decode cd_X_anyOne 27 = .ok (.iconst 0, 1) := by decide +kernel
theorem dc_X_anyOne_28 : decode cd_X_anyOne 28 = .ok (.ireturn, 1) := by decide +kernel
theorem dc_X_oddOnes_0 : decode cd_X_oddOnes 0 = .ok (.aload_n 0, 1) := by decide +kernel
theorem dc_X_oddOnes_1 : decode cd_X_oddOnes 1 = .ok (.getfield 13, 3) := by decide +kernel
theorem dc_X_oddOnes_4 : decode cd_X_oddOnes 4 = .ok (.iload_n 1, 1) := by decide +kernel
theorem dc_X_oddOnes_5 : decode cd_X_oddOnes 5 = .ok (.laload, 1) := by decide +kernel
theorem dc_X_oddOnes_6 : decode cd_X_oddOnes 6 = .ok (.lconst 0, 1) := by decide +kernel
theorem dc_X_oddOnes_7 : decode cd_X_oddOnes 7 = .ok (.lcmp, 1) := by decide +kernel
theorem dc_X_oddOnes_8 : decode cd_X_oddOnes 8 = .ok (.ifCond .eq 5, 3) := by decide +kernel
theorem dc_X_oddOnes_11 : decode cd_X_oddOnes 11 = .ok (.iconst 2, 1) := by decide +kernel
theorem dc_X_oddOnes_12 : decode cd_X_oddOnes 12 = .ok (.ireturn, 1) := by decide +kernel
theorem dc_X_oddOnes_13 : decode cd_X_oddOnes 13 = .ok (.aload_n 0, 1) := by decide +kernel
theorem dc_X_oddOnes_14 : decode cd_X_oddOnes 14 = .ok (.getfield 9, 3) := by decide +kernel
theorem dc_X_oddOnes_17 : decode cd_X_oddOnes 17 = .ok (.iload_n 1, 1) := by decide +kernel
theorem dc_X_oddOnes_18 : decode cd_X_oddOnes 18 = .ok (.laload, 1) := by decide +kernel
theorem dc_X_oddOnes_19 : decode cd_X_oddOnes 19 = .ok (.invokestatic 202, 3) := by decide +kernel
theorem dc_X_oddOnes_22 : decode cd_X_oddOnes 22 = .ok (.iconst 2, 1) := by decide +kernel
theorem dc_X_oddOnes_23 : decode cd_X_oddOnes 23 = .ok (.irem, 1) := by decide +kernel
theorem dc_X_oddOnes_24 : decode cd_X_oddOnes 24 = .ok (.iconst 1, 1) := by decide +kernel
theorem dc_X_oddOnes_25 : decode cd_X_oddOnes 25 = .ok (.if_icmp .ne 7, 3) := by decide +kernel
theorem dc_X_oddOnes_28 : decode cd_X_oddOnes 28 = .ok (.iconst 1, 1) := by decide +kernel
theorem dc_X_oddOnes_29 : decode cd_X_oddOnes 29 = .ok (.goto 4, 3) := by decide +kernel
theorem dc_X_oddOnes_32 : decode cd_X_oddOnes 32 = .ok (.iconst 0, 1) := by decide +kernel
theorem dc_X_oddOnes_33 : decode cd_X_oddOnes 33 = .ok (.ireturn, 1) := by decide +kernel
theorem dc_X_compared_0 : decode cd_X_compared 0 = .ok (.iload_n 1, 1) := by decide +kernel
theorem dc_X_compared_1 : decode cd_X_compared 1 = .ok (.tableswitch 133 9 17 #[51, 58, 68, 75, 85, 92, 102, 109, 119], 51) := by decide +kernel
theorem dc_X_compared_52 : decode cd_X_compared 52 = .ok (.aload_n 0, 1) := by decide +kernel
theorem dc_X_compared_53 : decode cd_X_compared 53 = .ok (.iload_n 2, 1) := by decide +kernel
theorem dc_X_compared_54 : decode cd_X_compared 54 = .ok (.iload_n 3, 1) := by decide +kernel
theorem dc_X_compared_55 : decode cd_X_compared 55 = .ok (.invokevirtual 177, 3) := by decide +kernel
theorem dc_X_compared_58 : decode cd_X_compared 58 = .ok (.ireturn, 1) := by decide +kernel
theorem dc_X_compared_59 : decode cd_X_compared 59 = .ok (.aload_n 0, 1) := by decide +kernel
theorem dc_X_compared_60 : decode cd_X_compared 60 = .ok (.iload_n 2, 1) := by decide +kernel
theorem dc_X_compared_61 : decode cd_X_compared 61 = .ok (.iload_n 3, 1) := by decide +kernel
theorem dc_X_compared_62 : decode cd_X_compared 62 = .ok (.invokevirtual 177, 3) := by decide +kernel
theorem dc_X_compared_65 : decode cd_X_compared 65 = .ok (.invokestatic 180, 3) := by decide +kernel
theorem dc_X_compared_68 : decode cd_X_compared 68 = .ok (.ireturn, 1) := by decide +kernel
theorem dc_X_compared_69 : decode cd_X_compared 69 = .ok (.aload_n 0, 1) := by decide +kernel
theorem dc_X_compared_70 : decode cd_X_compared 70 = .ok (.iload_n 2, 1) := by decide +kernel
theorem dc_X_compared_71 : decode cd_X_compared 71 = .ok (.iload_n 3, 1) := by decide +kernel
theorem dc_X_compared_72 : decode cd_X_compared 72 = .ok (.invokevirtual 183, 3) := by decide +kernel
theorem dc_X_compared_75 : decode cd_X_compared 75 = .ok (.ireturn, 1) := by decide +kernel
theorem dc_X_compared_76 : decode cd_X_compared 76 = .ok (.aload_n 0, 1) := by decide +kernel
theorem dc_X_compared_77 : decode cd_X_compared 77 = .ok (.iload_n 2, 1) := by decide +kernel
theorem dc_X_compared_78 : decode cd_X_compared 78 = .ok (.iload_n 3, 1) := by decide +kernel
theorem dc_X_compared_79 : decode cd_X_compared 79 = .ok (.invokevirtual 183, 3) := by decide +kernel
theorem dc_X_compared_82 : decode cd_X_compared 82 = .ok (.invokestatic 180, 3) := by decide +kernel
theorem dc_X_compared_85 : decode cd_X_compared 85 = .ok (.ireturn, 1) := by decide +kernel
theorem dc_X_compared_86 : decode cd_X_compared 86 = .ok (.aload_n 0, 1) := by decide +kernel
theorem dc_X_compared_87 : decode cd_X_compared 87 = .ok (.iload_n 2, 1) := by decide +kernel
theorem dc_X_compared_88 : decode cd_X_compared 88 = .ok (.iload_n 3, 1) := by decide +kernel
theorem dc_X_compared_89 : decode cd_X_compared 89 = .ok (.invokevirtual 186, 3) := by decide +kernel
theorem dc_X_compared_92 : decode cd_X_compared 92 = .ok (.ireturn, 1) := by decide +kernel
theorem dc_X_compared_93 : decode cd_X_compared 93 = .ok (.aload_n 0, 1) := by decide +kernel
theorem dc_X_compared_94 : decode cd_X_compared 94 = .ok (.iload_n 3, 1) := by decide +kernel
theorem dc_X_compared_95 : decode cd_X_compared 95 = .ok (.iload_n 2, 1) := by decide +kernel
theorem dc_X_compared_96 : decode cd_X_compared 96 = .ok (.invokevirtual 186, 3) := by decide +kernel
theorem dc_X_compared_99 : decode cd_X_compared 99 = .ok (.invokestatic 180, 3) := by decide +kernel
theorem dc_X_compared_102 : decode cd_X_compared 102 = .ok (.ireturn, 1) := by decide +kernel
theorem dc_X_compared_103 : decode cd_X_compared 103 = .ok (.aload_n 0, 1) := by decide +kernel
theorem dc_X_compared_104 : decode cd_X_compared 104 = .ok (.iload_n 3, 1) := by decide +kernel
theorem dc_X_compared_105 : decode cd_X_compared 105 = .ok (.iload_n 2, 1) := by decide +kernel
theorem dc_X_compared_106 : decode cd_X_compared 106 = .ok (.invokevirtual 186, 3) := by decide +kernel
theorem dc_X_compared_109 : decode cd_X_compared 109 = .ok (.ireturn, 1) := by decide +kernel
theorem dc_X_compared_110 : decode cd_X_compared 110 = .ok (.aload_n 0, 1) := by decide +kernel
theorem dc_X_compared_111 : decode cd_X_compared 111 = .ok (.iload_n 2, 1) := by decide +kernel
theorem dc_X_compared_112 : decode cd_X_compared 112 = .ok (.iload_n 3, 1) := by decide +kernel
theorem dc_X_compared_113 : decode cd_X_compared 113 = .ok (.invokevirtual 186, 3) := by decide +kernel
theorem dc_X_compared_116 : decode cd_X_compared 116 = .ok (.invokestatic 180, 3) := by decide +kernel
theorem dc_X_compared_119 : decode cd_X_compared 119 = .ok (.ireturn, 1) := by decide +kernel
theorem dc_X_compared_120 : decode cd_X_compared 120 = .ok (.aload_n 0, 1) := by decide +kernel
theorem dc_X_compared_121 : decode cd_X_compared 121 = .ok (.iload_n 2, 1) := by decide +kernel
theorem dc_X_compared_122 : decode cd_X_compared 122 = .ok (.invokevirtual 96, 3) := by decide +kernel
theorem dc_X_compared_125 : decode cd_X_compared 125 = .ok (.aload_n 0, 1) := by decide +kernel
theorem dc_X_compared_126 : decode cd_X_compared 126 = .ok (.iload_n 3, 1) := by decide +kernel
theorem dc_X_compared_127 : decode cd_X_compared 127 = .ok (.invokevirtual 96, 3) := by decide +kernel
theorem dc_X_compared_130 : decode cd_X_compared 130 = .ok (.invokestatic 189, 3) := by decide +kernel
theorem dc_X_compared_133 : decode cd_X_compared 133 = .ok (.ireturn, 1) := by decide +kernel
theorem dc_X_compared_134 : decode cd_X_compared 134 = .ok (.aload_n 0, 1) := by decide +kernel
theorem dc_X_compared_135 : decode cd_X_compared 135 = .ok (.iload_n 2, 1) := by decide +kernel
theorem dc_X_compared_136 : decode cd_X_compared 136 = .ok (.invokevirtual 96, 3) := by decide +kernel
theorem dc_X_compared_139 : decode cd_X_compared 139 = .ok (.invokestatic 180, 3) := by decide +kernel
theorem dc_X_compared_142 : decode cd_X_compared 142 = .ok (.aload_n 0, 1) := by decide +kernel
theorem dc_X_compared_143 : decode cd_X_compared 143 = .ok (.iload_n 3, 1) := by decide +kernel
theorem dc_X_compared_144 : decode cd_X_compared 144 = .ok (.invokevirtual 96, 3) := by decide +kernel
theorem dc_X_compared_147 : decode cd_X_compared 147 = .ok (.invokestatic 180, 3) := by decide +kernel
theorem dc_X_compared_150 : decode cd_X_compared 150 = .ok (.invokestatic 189, 3) := by decide +kernel
theorem dc_X_compared_153 : decode cd_X_compared 153 = .ok (.invokestatic 180, 3) := by decide +kernel
theorem dc_X_compared_156 : decode cd_X_compared 156 = .ok (.ireturn, 1) := by decide +kernel
theorem dc_X_reduced_0 : decode cd_X_reduced 0 = .ok (.iload_n 1, 1) := by decide +kernel
theorem dc_X_reduced_1 : decode cd_X_reduced 1 = .ok (.tableswitch 75 2 7 #[60, 39, 45, 54, 60, 69], 39) := by decide +kernel
theorem dc_X_reduced_40 : decode cd_X_reduced 40 = .ok (.aload_n 0, 1) := by decide +kernel
theorem dc_X_reduced_41 : decode cd_X_reduced 41 = .ok (.iload_n 2, 1) := by decide +kernel
theorem dc_X_reduced_42 : decode cd_X_reduced 42 = .ok (.invokevirtual 196, 3) := by decide +kernel
theorem dc_X_reduced_45 : decode cd_X_reduced 45 = .ok (.ireturn, 1) := by decide +kernel
theorem dc_X_reduced_46 : decode cd_X_reduced 46 = .ok (.aload_n 0, 1) := by decide +kernel
theorem dc_X_reduced_47 : decode cd_X_reduced 47 = .ok (.iload_n 2, 1) := by decide +kernel
theorem dc_X_reduced_48 : decode cd_X_reduced 48 = .ok (.invokevirtual 196, 3) := by decide +kernel
theorem dc_X_reduced_51 : decode cd_X_reduced 51 = .ok (.invokestatic 180, 3) := by decide +kernel
theorem dc_X_reduced_54 : decode cd_X_reduced 54 = .ok (.ireturn, 1) := by decide +kernel
theorem dc_X_reduced_55 : decode cd_X_reduced 55 = .ok (.aload_n 0, 1) := by decide +kernel
theorem dc_X_reduced_56 : decode cd_X_reduced 56 = .ok (.iload_n 2, 1) := by decide +kernel
theorem dc_X_reduced_57 : decode cd_X_reduced 57 = .ok (.invokevirtual 96, 3) := by decide +kernel
theorem dc_X_reduced_60 : decode cd_X_reduced 60 = .ok (.ireturn, 1) := by decide +kernel
theorem dc_X_reduced_61 : decode cd_X_reduced 61 = .ok (.aload_n 0, 1) := by decide +kernel
theorem dc_X_reduced_62 : decode cd_X_reduced 62 = .ok (.iload_n 2, 1) := by decide +kernel
theorem dc_X_reduced_63 : decode cd_X_reduced 63 = .ok (.invokevirtual 96, 3) := by decide +kernel
theorem dc_X_reduced_66 : decode cd_X_reduced 66 = .ok (.invokestatic 180, 3) := by decide +kernel
theorem dc_X_reduced_69 : decode cd_X_reduced 69 = .ok (.ireturn, 1) := by decide +kernel
theorem dc_X_reduced_70 : decode cd_X_reduced 70 = .ok (.aload_n 0, 1) := by decide +kernel
theorem dc_X_reduced_71 : decode cd_X_reduced 71 = .ok (.iload_n 2, 1) := by decide +kernel
theorem dc_X_reduced_72 : decode cd_X_reduced 72 = .ok (.invokevirtual 199, 3) := by decide +kernel
theorem dc_X_reduced_75 : decode cd_X_reduced 75 = .ok (.ireturn, 1) := by decide +kernel
theorem dc_X_reduced_76 : decode cd_X_reduced 76 = .ok (.aload_n 0, 1) := by decide +kernel
theorem dc_X_reduced_77 : decode cd_X_reduced 77 = .ok (.iload_n 2, 1) := by decide +kernel
theorem dc_X_reduced_78 : decode cd_X_reduced 78 = .ok (.invokevirtual 199, 3) := by decide +kernel
theorem dc_X_reduced_81 : decode cd_X_reduced 81 = .ok (.invokestatic 180, 3) := by decide +kernel
theorem dc_X_reduced_84 : decode cd_X_reduced 84 = .ok (.ireturn, 1) := by decide +kernel
theorem dc_X_negate_0 : decode cd_X_negate 0 = .ok (.aload_n 0, 1) := by decide +kernel
theorem dc_X_negate_1 : decode cd_X_negate 1 = .ok (.getfield 13, 3) := by decide +kernel
theorem dc_X_negate_4 : decode cd_X_negate 4 = .ok (.iload_n 1, 1) := by decide +kernel
theorem dc_X_negate_5 : decode cd_X_negate 5 = .ok (.laload, 1) := by decide +kernel
theorem dc_X_negate_6 : decode cd_X_negate 6 = .ok (.lconst 0, 1) := by decide +kernel
theorem dc_X_negate_7 : decode cd_X_negate 7 = .ok (.lcmp, 1) := by decide +kernel
theorem dc_X_negate_8 : decode cd_X_negate 8 = .ok (.ifCond .eq 11, 3) := by decide +kernel
theorem dc_X_negate_11 : decode cd_X_negate 11 = .ok (.aload_n 0, 1) := by decide +kernel
theorem dc_X_negate_12 : decode cd_X_negate 12 = .ok (.iload_n 1, 1) := by decide +kernel
theorem dc_X_negate_13 : decode cd_X_negate 13 = .ok (.invokevirtual 67, 3) := by decide +kernel
theorem dc_X_negate_16 : decode cd_X_negate 16 = .ok (.goto 16, 3) := by decide +kernel
theorem dc_X_negate_19 : decode cd_X_negate 19 = .ok (.aload_n 0, 1) := by decide +kernel
theorem dc_X_negate_20 : decode cd_X_negate 20 = .ok (.iload_n 1, 1) := by decide +kernel
theorem dc_X_negate_21 : decode cd_X_negate 21 = .ok (.aload_n 0, 1) := by decide +kernel
theorem dc_X_negate_22 : decode cd_X_negate 22 = .ok (.getfield 9, 3) := by decide +kernel
theorem dc_X_negate_25 : decode cd_X_negate 25 = .ok (.iload_n 1, 1) := by decide +kernel
theorem dc_X_negate_26 : decode cd_X_negate 26 = .ok (.laload, 1) := by decide +kernel
theorem dc_X_negate_27 : decode cd_X_negate 27 = .ok (.lneg, 1) := by decide +kernel
theorem dc_X_negate_28 : decode cd_X_negate 28 = .ok (.lconst 0, 1) := by decide +kernel
theorem dc_X_negate_29 : decode cd_X_negate 29 = .ok (.invokevirtual 154, 3) := by decide +kernel
theorem dc_X_negate_32 : decode cd_X_negate 32 = .ok (.return_, 1) := by decide +kernel
theorem dc_X_moveLeft_0 : decode cd_X_moveLeft 0 = .ok (.lload_n 2, 1) := by decide +kernel
theorem dc_X_moveLeft_1 : decode cd_X_moveLeft 1 = .ok (.ldc2_w 208, 3) := by decide +kernel
theorem dc_X_moveLeft_4 : decode cd_X_moveLeft 4 = .ok (.invokestatic 192, 3) := by decide +kernel
theorem dc_X_moveLeft_7 : decode cd_X_moveLeft 7 = .ok (.ifCond .ne 13, 3) := by decide +kernel
theorem dc_X_moveLeft_10 : decode cd_X_moveLeft 10 = .ok (.aload_n 0, 1) := by decide +kernel
theorem dc_X_moveLeft_11 : decode cd_X_moveLeft 11 = .ok (.iload_n 1, 1) := by decide +kernel
theorem dc_X_moveLeft_12 : decode cd_X_moveLeft 12 = .ok (.lconst 0, 1) := by decide +kernel
theorem dc_X_moveLeft_13 : decode cd_X_moveLeft 13 = .ok (.lconst 0, 1) := by decide +kernel
theorem dc_X_moveLeft_14 : decode cd_X_moveLeft 14 = .ok (.invokevirtual 154, 3) := by decide +kernel
theorem dc_X_moveLeft_17 : decode cd_X_moveLeft 17 = .ok (.goto 26, 3) := by decide +kernel
theorem dc_X_moveLeft_20 : decode cd_X_moveLeft 20 = .ok (.aload_n 0, 1) := by decide +kernel
theorem dc_X_moveLeft_21 : decode cd_X_moveLeft 21 = .ok (.iload_n 1, 1) := by decide +kernel
theorem dc_X_moveLeft_22 : decode cd_X_moveLeft 22 = .ok (.aload_n 0, 1) := by decide +kernel
theorem dc_X_moveLeft_23 : decode cd_X_moveLeft 23 = .ok (.getfield 9, 3) := by decide +kernel
theorem dc_X_moveLeft_26 : decode cd_X_moveLeft 26 = .ok (.iload_n 1, 1) := by decide +kernel
theorem dc_X_moveLeft_27 : decode cd_X_moveLeft 27 = .ok (.laload, 1) := by decide +kernel
theorem dc_X_moveLeft_28 : decode cd_X_moveLeft 28 = .ok (.lload_n 2, 1) := by decide +kernel
theorem dc_X_moveLeft_29 : decode cd_X_moveLeft 29 = .ok (.l2i, 1) := by decide +kernel
theorem dc_X_moveLeft_30 : decode cd_X_moveLeft 30 = .ok (.lshl, 1) := by decide +kernel
theorem dc_X_moveLeft_31 : decode cd_X_moveLeft 31 = .ok (.aload_n 0, 1) := by decide +kernel
theorem dc_X_moveLeft_32 : decode cd_X_moveLeft 32 = .ok (.getfield 13, 3) := by decide +kernel
theorem dc_X_moveLeft_35 : decode cd_X_moveLeft 35 = .ok (.iload_n 1, 1) := by decide +kernel
theorem dc_X_moveLeft_36 : decode cd_X_moveLeft 36 = .ok (.laload, 1) := by decide +kernel
theorem dc_X_moveLeft_37 : decode cd_X_moveLeft 37 = .ok (.lload_n 2, 1) := by decide +kernel
theorem dc_X_moveLeft_38 : decode cd_X_moveLeft 38 = .ok (.l2i, 1) := by decide +kernel
theorem dc_X_moveLeft_39 : decode cd_X_moveLeft 39 = .ok (.lshl, 1) := by decide +kernel
theorem dc_X_moveLeft_40 : decode cd_X_moveLeft 40 = .ok (.invokevirtual 154, 3) := by decide +kernel
theorem dc_X_moveLeft_43 : decode cd_X_moveLeft 43 = .ok (.return_, 1) := by decide +kernel
theorem dc_X_moveRight_0 : decode cd_X_moveRight 0 = .ok (.iload 4, 2) := by decide +kernel
theorem dc_X_moveRight_2 : decode cd_X_moveRight 2 = .ok (.ifCond .eq 66, 3) := by decide +kernel
theorem dc_X_moveRight_5 : decode cd_X_moveRight 5 = .ok (.lload_n 2, 1) := by decide +kernel
theorem dc_X_moveRight_6 : decode cd_X_moveRight 6 = .ok (.ldc2_w 208, 3) := by decide +kernel
theorem dc_X_moveRight_9 : decode cd_X_moveRight 9 = .ok (.invokestatic 192, 3) := by decide +kernel
theorem dc_X_moveRight_12 : decode cd_X_moveRight 12 = .ok (.ifCond .eq 8, 3) := by decide +kernel
theorem dc_X_moveRight_15 : decode cd_X_moveRight 15 = .ok (.lload_n 2, 1) := by decide +kernel
theorem dc_X_moveRight_16 : decode cd_X_moveRight 16 = .ok (.l2i, 1) := by decide +kernel
theorem dc_X_moveRight_17 : decode cd_X_moveRight 17 = .ok (.goto 5, 3) := by decide +kernel
theorem dc_X_moveRight_20 : decode cd_X_moveRight 20 = .ok (.bipush 63, 2) := by decide +kernel
theorem dc_X_moveRight_22 : decode cd_X_moveRight 22 = .ok (.istore 5, 2) := by decide +kernel
theorem dc_X_moveRight_24 : decode cd_X_moveRight 24 = .ok (.aload_n 0, 1) := by decide +kernel
theorem dc_X_moveRight_25 : decode cd_X_moveRight 25 = .ok (.getfield 16, 3) := by decide +kernel
theorem dc_X_moveRight_28 : decode cd_X_moveRight 28 = .ok (.iload_n 1, 1) := by decide +kernel
theorem dc_X_moveRight_29 : decode cd_X_moveRight 29 = .ok (.iaload, 1) := by decide +kernel
theorem dc_X_moveRight_30 : decode cd_X_moveRight 30 = .ok (.istore 6, 2) := by decide +kernel
theorem dc_X_moveRight_32 : decode cd_X_moveRight 32 = .ok (.aload_n 0, 1) := by decide +kernel
theorem dc_X_moveRight_33 : decode cd_X_moveRight 33 = .ok (.iload_n 1, 1) := by decide +kernel
theorem dc_X_moveRight_34 : decode cd_X_moveRight 34 = .ok (.aload_n 0, 1) := by decide +kernel
theorem dc_X_moveRight_35 : decode cd_X_moveRight 35 = .ok (.getfield 9, 3) := by decide +kernel
theorem dc_X_moveRight_38 : decode cd_X_moveRight 38 = .ok (.iload_n 1, 1) := by decide +kernel
theorem dc_X_moveRight_39 : decode cd_X_moveRight 39 = .ok (.laload, 1) := by decide +kernel
theorem dc_X_moveRight_40 : decode cd_X_moveRight 40 = .ok (.iload 6, 2) := by decide +kernel
theorem dc_X_moveRight_42 : decode cd_X_moveRight 42 = .ok (.invokestatic 164, 3) := by decide +kernel
theorem dc_X_moveRight_45 : decode cd_X_moveRight 45 = .ok (.iload 5, 2) := by decide +kernel
theorem dc_X_moveRight_47 : decode cd_X_moveRight 47 = .ok (.lshr, 1) := by decide +kernel
theorem dc_X_moveRight_48 : decode cd_X_moveRight 48 = .ok (.aload_n 0, 1) := by decide +kernel
theorem dc_X_moveRight_49 : decode cd_X_moveRight 49 = .ok (.getfield 13, 3) := by decide +kernel
theorem dc_X_moveRight_52 : decode cd_X_moveRight 52 = .ok (.iload_n 1, 1) := by decide +kernel
theorem dc_X_moveRight_53 : decode cd_X_moveRight 53 = .ok (.laload, 1) := by decide +kernel
theorem dc_X_moveRight_54 : decode cd_X_moveRight 54 = .ok (.iload 6, 2) := by decide +kernel
theorem dc_X_moveRight_56 : decode cd_X_moveRight 56 = .ok (.invokestatic 164, 3) := by decide +kernel
theorem dc_X_moveRight_59 : decode cd_X_moveRight 59 = .ok (.iload 5, 2) := by decide +kernel
theorem dc_X_moveRight_61 : decode cd_X_moveRight 61 = .ok (.lshr, 1) := by decide +kernel
theorem dc_X_moveRight_62 : decode cd_X_moveRight 62 = .ok (.invokevirtual 154, 3) := by decide +kernel
theorem dc_X_moveRight_65 : decode cd_X_moveRight 65 = .ok (.goto 46, 3) := by decide +kernel
theorem dc_X_moveRight_68 : decode cd_X_moveRight 68 = .ok (.lload_n 2, 1) := by decide +kernel
theorem dc_X_moveRight_69 : decode cd_X_moveRight 69 = .ok (.ldc2_w 208, 3) := by decide +kernel
theorem dc_X_moveRight_72 : decode cd_X_moveRight 72 = .ok (.invokestatic 192, 3) := by decide +kernel
theorem dc_X_moveRight_75 : decode cd_X_moveRight 75 = .ok (.ifCond .ne 13, 3) := by decide +kernel
theorem dc_X_moveRight_78 : decode cd_X_moveRight 78 = .ok (.aload_n 0, 1) := by decide +kernel
theorem dc_X_moveRight_79 : decode cd_X_moveRight 79 = .ok (.iload_n 1, 1) := by decide +kernel
theorem dc_X_moveRight_80 : decode cd_X_moveRight 80 = .ok (.lconst 0, 1) := by decide +kernel
theorem dc_X_moveRight_81 : decode cd_X_moveRight 81 = .ok (.lconst 0, 1) := by decide +kernel
theorem dc_X_moveRight_82 : decode cd_X_moveRight 82 = .ok (.invokevirtual 154, 3) := by decide +kernel
theorem dc_X_moveRight_85 : decode cd_X_moveRight 85 = .ok (.goto 26, 3) := by decide +kernel
theorem dc_X_moveRight_88 : decode cd_X_moveRight 88 = .ok (.aload_n 0, 1) := by decide +kernel
theorem dc_X_moveRight_89 : decode cd_X_moveRight 89 = .ok (.iload_n 1, 1) := by decide +kernel
theorem dc_X_moveRight_90 : decode cd_X_moveRight 90 = .ok (.aload_n 0, 1) := by decide +kernel
theorem dc_X_moveRight_91 : decode cd_X_moveRight 91 = .ok (.getfield 9, 3) := by decide +kernel
theorem dc_X_moveRight_94 : decode cd_X_moveRight 94 = .ok (.iload_n 1, 1) := by decide +kernel
theorem dc_X_moveRight_95 : decode cd_X_moveRight 95 = .ok (.laload, 1) := by decide +kernel
theorem dc_X_moveRight_96 : decode cd_X_moveRight 96 = .ok (.lload_n 2, 1) := by decide +kernel
theorem dc_X_moveRight_97 : decode cd_X_moveRight 97 = .ok (.l2i, 1) := by decide +kernel
theorem dc_X_moveRight_98 : decode cd_X_moveRight 98 = .ok (.lushr, 1) := by decide +kernel
theorem dc_X_moveRight_99 : decode cd_X_moveRight 99 = .ok (.aload_n 0, 1) := by decide +kernel
theorem dc_X_moveRight_100 : decode cd_X_moveRight 100 = .ok (.getfield 13, 3) := by decide +kernel
theorem dc_X_moveRight_103 : decode cd_X_moveRight 103 = .ok (.iload_n 1, 1) := by decide +kernel
theorem dc_X_moveRight_104 : decode cd_X_moveRight 104 = .ok (.laload, 1) := by decide +kernel
theorem dc_X_moveRight_105 : decode cd_X_moveRight 105 = .ok (.lload_n 2, 1) := by decide +kernel
theorem dc_X_moveRight_106 : decode cd_X_moveRight 106 = .ok (.l2i, 1) := by decide +kernel
theorem dc_X_moveRight_107 : decode cd_X_moveRight 107 = .ok (.lushr, 1) := by decide +kernel
theorem dc_X_moveRight_108 : decode cd_X_moveRight 108 = .ok (.invokevirtual 154, 3) := by decide +kernel
theorem dc_X_moveRight_111 : decode cd_X_moveRight 111 = .ok (.return_, 1) := by decide +kernel
theorem dc_X_writeGroups_0 : decode cd_X_writeGroups 0 = .ok (.aload_n 0, 1) := by decide +kernel
theorem dc_X_writeGroups_1 : decode cd_X_writeGroups 1 = .ok (.getfield 16, 3) := by decide +kernel
theorem dc_X_writeGroups_4 : decode cd_X_writeGroups 4 = .ok (.iload_n 1, 1) := by decide +kernel
theorem dc_X_writeGroups_5 : decode cd_X_writeGroups 5 = .ok (.iaload, 1) := by decide +kernel
theorem dc_X_writeGroups_6 : decode cd_X_writeGroups 6 = .ok (.istore 4, 2) := by decide +kernel
theorem dc_X_writeGroups_8 : decode cd_X_writeGroups 8 = .ok (.iload 4, 2) := by decide +kernel
theorem dc_X_writeGroups_10 : decode cd_X_writeGroups 10 = .ok (.iconst 1, 1) := by decide +kernel
theorem dc_X_writeGroups_11 : decode cd_X_writeGroups 11 = .ok (.isub, 1) := by decide +kernel
theorem dc_X_writeGroups_12 : decode cd_X_writeGroups 12 = .ok (.iload_n 2, 1) := by decide +kernel
theorem dc_X_writeGroups_13 : decode cd_X_writeGroups 13 = .ok (.ishr, 1) := by decide +kernel
theorem dc_X_writeGroups_14 : decode cd_X_writeGroups 14 = .ok (.istore 5, 2) := by decide +kernel
theorem dc_X_writeGroups_16 : decode cd_X_writeGroups 16 = .ok (.iload 5, 2) := by decide +kernel
theorem dc_X_writeGroups_18 : decode cd_X_writeGroups 18 = .ok (.ifCond .lt 109, 3) := by decide +kernel
theorem dc_X_writeGroups_21 : decode cd_X_writeGroups 21 = .ok (.iload 5, 2) := by decide +kernel
theorem dc_X_writeGroups_23 : decode cd_X_writeGroups 23 = .ok (.iload_n 2, 1) := by decide +kernel
theorem dc_X_writeGroups_24 : decode cd_X_writeGroups 24 = .ok (.ishl, 1) := by decide +kernel
theorem dc_X_writeGroups_25 : decode cd_X_writeGroups 25 = .ok (.istore 6, 2) := by decide +kernel
theorem dc_X_writeGroups_27 : decode cd_X_writeGroups 27 = .ok (.iconst 1, 1) := by decide +kernel
theorem dc_X_writeGroups_28 : decode cd_X_writeGroups 28 = .ok (.iload_n 2, 1) := by decide +kernel
theorem dc_X_writeGroups_29 : decode cd_X_writeGroups 29 = .ok (.ishl, 1) := by decide +kernel
theorem dc_X_writeGroups_30 : decode cd_X_writeGroups 30 = .ok (.iload 4, 2) := by decide +kernel
theorem dc_X_writeGroups_32 : decode cd_X_writeGroups 32 = .ok (.iload 6, 2) := by decide +kernel
theorem dc_X_writeGroups_34 : decode cd_X_writeGroups 34 = .ok (.isub, 1) := by decide +kernel
theorem dc_X_writeGroups_35 : decode cd_X_writeGroups 35 = .ok (.invokestatic 210, 3) := by decide +kernel
theorem dc_X_writeGroups_38 : decode cd_X_writeGroups 38 = .ok (.invokestatic 157, 3) := by decide +kernel
theorem dc_X_writeGroups_41 : decode cd_X_writeGroups 41 = .ok (.lstore 7, 2) := by decide +kernel
theorem dc_X_writeGroups_43 : decode cd_X_writeGroups 43 = .ok (.aload_n 0, 1) := by decide +kernel
theorem dc_X_writeGroups_44 : decode cd_X_writeGroups 44 = .ok (.getfield 9, 3) := by decide +kernel
theorem dc_X_writeGroups_47 : decode cd_X_writeGroups 47 = .ok (.iload_n 1, 1) := by decide +kernel
theorem dc_X_writeGroups_48 : decode cd_X_writeGroups 48 = .ok (.laload, 1) := by decide +kernel
theorem dc_X_writeGroups_49 : decode cd_X_writeGroups 49 = .ok (.iload 6, 2) := by decide +kernel
theorem dc_X_writeGroups_51 : decode cd_X_writeGroups 51 = .ok (.lushr, 1) := by decide +kernel
theorem dc_X_writeGroups_52 : decode cd_X_writeGroups 52 = .ok (.lload 7, 2) := by decide +kernel
theorem dc_X_writeGroups_54 : decode cd_X_writeGroups 54 = .ok (.land, 1) := by decide +kernel
theorem dc_X_writeGroups_55 : decode cd_X_writeGroups 55 = .ok (.aload_n 0, 1) := by decide +kernel
theorem dc_X_writeGroups_56 : decode cd_X_writeGroups 56 = .ok (.getfield 13, 3) := by decide +kernel
theorem dc_X_writeGroups_59 : decode cd_X_writeGroups 59 = .ok (.iload_n 1, 1) := by decide +kernel
theorem dc_X_writeGroups_60 : decode cd_X_writeGroups 60 = .ok (.laload, 1) := by decide +kernel
theorem dc_X_writeGroups_61 : decode cd_X_writeGroups 61 = .ok (.iload 6, 2) := by decide +kernel
theorem dc_X_writeGroups_63 : decode cd_X_writeGroups 63 = .ok (.lushr, 1) := by decide +kernel
theorem dc_X_writeGroups_64 : decode cd_X_writeGroups 64 = .ok (.lload 7, 2) := by decide +kernel
theorem dc_X_writeGroups_66 : decode cd_X_writeGroups 66 = .ok (.land, 1) := by decide +kernel
theorem dc_X_writeGroups_67 : decode cd_X_writeGroups 67 = .ok (.lload 7, 2) := by decide +kernel
theorem dc_X_writeGroups_69 : decode cd_X_writeGroups 69 = .ok (.invokestatic 213, 3) := by decide +kernel
theorem dc_X_writeGroups_72 : decode cd_X_writeGroups 72 = .ok (.istore 9, 2) := by decide +kernel
theorem dc_X_writeGroups_74 : decode cd_X_writeGroups 74 = .ok (.iload 9, 2) := by decide +kernel
theorem dc_X_writeGroups_76 : decode cd_X_writeGroups 76 = .ok (.bipush 48, 2) := by decide +kernel
theorem dc_X_writeGroups_78 : decode cd_X_writeGroups 78 = .ok (.if_icmp .ne 22, 3) := by decide +kernel
theorem dc_X_writeGroups_81 : decode cd_X_writeGroups 81 = .ok (.aload_n 0, 1) := by decide +kernel
theorem dc_X_writeGroups_82 : decode cd_X_writeGroups 82 = .ok (.getfield 27, 3) := by decide +kernel
theorem dc_X_writeGroups_85 : decode cd_X_writeGroups 85 = .ok (.getfield 126, 3) := by decide +kernel
theorem dc_X_writeGroups_88 : decode cd_X_writeGroups 88 = .ok (.ifCond .ne 12, 3) := by decide +kernel
theorem dc_X_writeGroups_91 : decode cd_X_writeGroups 91 = .ok (.iload 5, 2) := by decide +kernel
theorem dc_X_writeGroups_93 : decode cd_X_writeGroups 93 = .ok (.ifCond .le 7, 3) := by decide +kernel
theorem dc_X_writeGroups_96 : decode cd_X_writeGroups 96 = .ok (.iconst 1, 1) := by decide +kernel
theorem dc_X_writeGroups_97 : decode cd_X_writeGroups 97 = .ok (.goto 4, 3) := by decide +kernel
theorem dc_X_writeGroups_100 : decode cd_X_writeGroups 100 = .ok (.iconst 0, 1) := by decide +kernel
theorem dc_X_writeGroups_101 : decode cd_X_writeGroups 101 = .ok (.istore 10, 2) := by decide +kernel
theorem dc_X_writeGroups_103 : decode cd_X_writeGroups 103 = .ok (.iload_n 3, 1) := by decide +kernel
theorem dc_X_writeGroups_104 : decode cd_X_writeGroups 104 = .ok (.ifCond .eq 8, 3) := by decide +kernel
theorem dc_X_writeGroups_107 : decode cd_X_writeGroups 107 = .ok (.iload 10, 2) := by decide +kernel
theorem dc_X_writeGroups_109 : decode cd_X_writeGroups 109 = .ok (.ifCond .ne 12, 3) := by decide +kernel
theorem dc_X_writeGroups_112 : decode cd_X_writeGroups 112 = .ok (.aload_n 0, 1) := by decide +kernel
theorem dc_X_writeGroups_113 : decode cd_X_writeGroups 113 = .ok (.getfield 27, 3) := by decide +kernel
theorem dc_X_writeGroups_116 : decode cd_X_writeGroups 116 = .ok (.iload 9, 2) := by decide +kernel
theorem dc_X_writeGroups_118 : decode cd_X_writeGroups 118 = .ok (.invokevirtual 217, 3) := by decide +kernel
theorem dc_X_writeGroups_121 : decode cd_X_writeGroups 121 = .ok (.iinc 5 (-1), 3) := by decide +kernel
theorem dc_X_writeGroups_124 : decode cd_X_writeGroups 124 = .ok (.goto (-108), 3) := by decide +kernel
theorem dc_X_writeGroups_127 : decode cd_X_writeGroups 127 = .ok (.return_, 1) := by decide +kernel
theorem dc_X_writeNumber_0 : decode cd_X_writeNumber 0 = .ok (.aload_n 0, 1) := by decide +kernel
theorem dc_X_writeNumber_1 : decode cd_X_writeNumber 1 = .ok (.getfield 16, 3) := by decide +kernel
theorem dc_X_writeNumber_4 : decode cd_X_writeNumber 4 = .ok (.iload_n 1, 1) := by decide +kernel
theorem dc_X_writeNumber_5 : decode cd_X_writeNumber 5 = .ok (.iaload, 1) := by decide +kernel
theorem dc_X_writeNumber_6 : decode cd_X_writeNumber 6 = .ok (.invokestatic 157, 3) := by decide +kernel
theorem dc_X_writeNumber_9 : decode cd_X_writeNumber 9 = .ok (.lstore_n 3, 1) := by decide +kernel
theorem dc_X_writeNumber_10 : decode cd_X_writeNumber 10 = .ok (.aload_n 0, 1) := by decide +kernel
theorem dc_X_writeNumber_11 : decode cd_X_writeNumber 11 = .ok (.getfield 20, 3) := by decide +kernel
theorem dc_X_writeNumber_14 : decode cd_X_writeNumber 14 = .ok (.iload_n 1, 1) := by decide +kernel
theorem dc_X_writeNumber_15 : decode cd_X_writeNumber 15 = .ok (.baload, 1) := by decide +kernel
theorem dc_X_writeNumber_16 : decode cd_X_writeNumber 16 = .ok (.istore 5, 2) := by decide +kernel
theorem dc_X_writeNumber_18 : decode cd_X_writeNumber 18 = .ok (.iconst 0, 1) := by decide +kernel
theorem dc_X_writeNumber_19 : decode cd_X_writeNumber 19 = .ok (.istore 6, 2) := by decide +kernel
theorem dc_X_writeNumber_21 : decode cd_X_writeNumber 21 = .ok (.iload_n 2, 1) := by decide +kernel
theorem dc_X_writeNumber_22 : decode cd_X_writeNumber 22 = .ok (.ifCond .ne 25, 3) := by decide +kernel
theorem dc_X_writeNumber_25 : decode cd_X_writeNumber 25 = .ok (.iload 5, 2) := by decide +kernel
theorem dc_X_writeNumber_27 : decode cd_X_writeNumber 27 = .ok (.ifCond .eq 14, 3) := by decide +kernel
theorem dc_X_writeNumber_30 : decode cd_X_writeNumber 30 = .ok (.lload_n 3, 1) := by decide +kernel
theorem dc_X_writeNumber_31 : decode cd_X_writeNumber 31 = .ok (.iconst 1, 1) := by decide +kernel
theorem dc_X_writeNumber_32 : decode cd_X_writeNumber 32 = .ok (.lushr, 1) := by decide +kernel
theorem dc_X_writeNumber_33 : decode cd_X_writeNumber 33 = .ok (.invokestatic 230, 3) := by decide +kernel
theorem dc_X_writeNumber_36 : decode cd_X_writeNumber 36 = .ok (.iconst 1, 1) := by decide +kernel
theorem dc_X_writeNumber_37 : decode cd_X_writeNumber 37 = .ok (.iadd, 1) := by decide +kernel
theorem dc_X_writeNumber_38 : decode cd_X_writeNumber 38 = .ok (.goto 7, 3) := by decide +kernel
theorem dc_X_writeNumber_41 : decode cd_X_writeNumber 41 = .ok (.lload_n 3, 1) := by decide +kernel
theorem dc_X_writeNumber_42 : decode cd_X_writeNumber 42 = .ok (.invokestatic 230, 3) := by decide +kernel
theorem dc_X_writeNumber_45 : decode cd_X_writeNumber 45 = .ok (.istore 6, 2) := by decide +kernel
theorem dc_X_writeNumber_47 : decode cd_X_writeNumber 47 = .ok (.aload_n 0, 1) := by decide +kernel
theorem dc_X_writeNumber_48 : decode cd_X_writeNumber 48 = .ok (.getfield 13, 3) := by decide +kernel
theorem dc_X_writeNumber_51 : decode cd_X_writeNumber 51 = .ok (.iload_n 1, 1) := by decide +kernel
theorem dc_X_writeNumber_52 : decode cd_X_writeNumber 52 = .ok (.laload, 1) := by decide +kernel
theorem dc_X_writeNumber_53 : decode cd_X_writeNumber 53 = .ok (.lconst 0, 1) := by decide +kernel
theorem dc_X_writeNumber_54 : decode cd_X_writeNumber 54 = .ok (.lcmp, 1) := by decide +kernel
theorem dc_X_writeNumber_55 : decode cd_X_writeNumber 55 = .ok (.ifCond .eq 38, 3) := by decide +kernel
theorem dc_X_writeNumber_58 : decode cd_X_writeNumber 58 = .ok (.aload_n 0, 1) := by decide +kernel
theorem dc_X_writeNumber_59 : decode cd_X_writeNumber 59 = .ok (.getfield 27, 3) := by decide +kernel
theorem dc_X_writeNumber_62 : decode cd_X_writeNumber 62 = .ok (.iload 6, 2) := by decide +kernel
theorem dc_X_writeNumber_64 : decode cd_X_writeNumber 64 = .ok (.iconst 1, 1) := by decide +kernel
theorem dc_X_writeNumber_65 : decode cd_X_writeNumber 65 = .ok (.isub, 1) := by decide +kernel
theorem dc_X_writeNumber_66 : decode cd_X_writeNumber 66 = .ok (.invokevirtual 233, 3) := by decide +kernel
theorem dc_X_writeNumber_69 : decode cd_X_writeNumber 69 = .ok (.aload_n 0, 1) := by decide +kernel
theorem dc_X_writeNumber_70 : decode cd_X_writeNumber 70 = .ok (.getfield 27, 3) := by decide +kernel
theorem dc_X_writeNumber_73 : decode cd_X_writeNumber 73 = .ok (.aload_n 0, 1) := by decide +kernel
theorem dc_X_writeNumber_74 : decode cd_X_writeNumber 74 = .ok (.getfield 9, 3) := by decide +kernel
