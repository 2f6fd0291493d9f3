theorem dc_X_writeNumber_77 : decode cd_X_writeNumber 77 = .ok (.iload_n 1, 1) := by decide +kernel
theorem dc_X_writeNumber_78 : decode cd_X_writeNumber 78 = .ok (.laload, 1) := by decide +kernel
theorem dc_X_writeNumber_79 : decode cd_X_writeNumber 79 = .ok (.aload_n 0, 1) := by decide +kernel
theorem dc_X_writeNumber_80 : decode cd_X_writeNumber 80 = .ok (.getfield 13, 3) := by decide +kernel
theorem dc_X_writeNumber_83 : decode cd_X_writeNumber 83 = .ok (.iload_n 1, 1) := by decide +kernel
theorem dc_X_writeNumber_84 : decode cd_X_writeNumber 84 = .ok (.laload, 1) := by decide +kernel
theorem dc_X_writeNumber_85 : decode cd_X_writeNumber 85 = .ok (.lload_n 3, 1) := by decide +kernel
theorem dc_X_writeNumber_86 : decode cd_X_writeNumber 86 = .ok (.invokestatic 221, 3) := by decide +kernel
theorem dc_X_writeNumber_89 : decode cd_X_writeNumber 89 = .ok (.invokevirtual 217, 3) := by decide +kernel
theorem dc_X_writeNumber_92 : decode cd_X_writeNumber 92 = .ok (.return_, 1) := by decide +kernel
theorem dc_X_writeNumber_93 : decode cd_X_writeNumber 93 = .ok (.aload_n 0, 1) := by decide +kernel
theorem dc_X_writeNumber_94 : decode cd_X_writeNumber 94 = .ok (.iload_n 1, 1) := by decide +kernel
theorem dc_X_writeNumber_95 : decode cd_X_writeNumber 95 = .ok (.invokevirtual 106, 3) := by decide +kernel
theorem dc_X_writeNumber_98 : decode cd_X_writeNumber 98 = .ok (.lstore 7, 2) := by decide +kernel
theorem dc_X_writeNumber_100 : decode cd_X_writeNumber 100 = .ok (.iload 5, 2) := by decide +kernel
theorem dc_X_writeNumber_102 : decode cd_X_writeNumber 102 = .ok (.ifCond .eq 14, 3) := by decide +kernel
theorem dc_X_writeNumber_105 : decode cd_X_writeNumber 105 = .ok (.lload 7, 2) := by decide +kernel
theorem dc_X_writeNumber_107 : decode cd_X_writeNumber 107 = .ok (.lconst 0, 1) := by decide +kernel
theorem dc_X_writeNumber_108 : decode cd_X_writeNumber 108 = .ok (.lcmp, 1) := by decide +kernel
theorem dc_X_writeNumber_109 : decode cd_X_writeNumber 109 = .ok (.ifCond .ge 7, 3) := by decide +kernel
theorem dc_X_writeNumber_112 : decode cd_X_writeNumber 112 = .ok (.iconst 1, 1) := by decide +kernel
theorem dc_X_writeNumber_113 : decode cd_X_writeNumber 113 = .ok (.goto 4, 3) := by decide +kernel
theorem dc_X_writeNumber_116 : decode cd_X_writeNumber 116 = .ok (.iconst 0, 1) := by decide +kernel
theorem dc_X_writeNumber_117 : decode cd_X_writeNumber 117 = .ok (.istore 9, 2) := by decide +kernel
theorem dc_X_writeNumber_119 : decode cd_X_writeNumber 119 = .ok (.iload 9, 2) := by decide +kernel
theorem dc_X_writeNumber_121 : decode cd_X_writeNumber 121 = .ok (.ifCond .eq 9, 3) := by decide +kernel
theorem dc_X_writeNumber_124 : decode cd_X_writeNumber 124 = .ok (.lload 7, 2) := by decide +kernel
theorem dc_X_writeNumber_126 : decode cd_X_writeNumber 126 = .ok (.lneg, 1) := by decide +kernel
theorem dc_X_writeNumber_127 : decode cd_X_writeNumber 127 = .ok (.goto 5, 3) := by decide +kernel
theorem dc_X_writeNumber_130 : decode cd_X_writeNumber 130 = .ok (.lload 7, 2) := by decide +kernel
theorem dc_X_writeNumber_132 : decode cd_X_writeNumber 132 = .ok (.lstore 10, 2) := by decide +kernel
theorem dc_X_writeNumber_134 : decode cd_X_writeNumber 134 = .ok (.lload 10, 2) := by decide +kernel
theorem dc_X_writeNumber_136 : decode cd_X_writeNumber 136 = .ok (.invokestatic 230, 3) := by decide +kernel
theorem dc_X_writeNumber_139 : decode cd_X_writeNumber 139 = .ok (.istore 12, 2) := by decide +kernel
theorem dc_X_writeNumber_141 : decode cd_X_writeNumber 141 = .ok (.aload_n 0, 1) := by decide +kernel
theorem dc_X_writeNumber_142 : decode cd_X_writeNumber 142 = .ok (.getfield 27, 3) := by decide +kernel
theorem dc_X_writeNumber_145 : decode cd_X_writeNumber 145 = .ok (.iload 6, 2) := by decide +kernel
theorem dc_X_writeNumber_147 : decode cd_X_writeNumber 147 = .ok (.iload 12, 2) := by decide +kernel
theorem dc_X_writeNumber_149 : decode cd_X_writeNumber 149 = .ok (.isub, 1) := by decide +kernel
theorem dc_X_writeNumber_150 : decode cd_X_writeNumber 150 = .ok (.iload 9, 2) := by decide +kernel
theorem dc_X_writeNumber_152 : decode cd_X_writeNumber 152 = .ok (.ifCond .eq 7, 3) := by decide +kernel
theorem dc_X_writeNumber_155 : decode cd_X_writeNumber 155 = .ok (.iconst 1, 1) := by decide +kernel
theorem dc_X_writeNumber_156 : decode cd_X_writeNumber 156 = .ok (.goto 4, 3) := by decide +kernel
theorem dc_X_writeNumber_159 : decode cd_X_writeNumber 159 = .ok (.iconst 0, 1) := by decide +kernel
theorem dc_X_writeNumber_160 : decode cd_X_writeNumber 160 = .ok (.isub, 1) := by decide +kernel
theorem dc_X_writeNumber_161 : decode cd_X_writeNumber 161 = .ok (.invokevirtual 233, 3) := by decide +kernel
theorem dc_X_writeNumber_164 : decode cd_X_writeNumber 164 = .ok (.iload 9, 2) := by decide +kernel
theorem dc_X_writeNumber_166 : decode cd_X_writeNumber 166 = .ok (.ifCond .eq 12, 3) := by decide +kernel
theorem dc_X_writeNumber_169 : decode cd_X_writeNumber 169 = .ok (.aload_n 0, 1) := by decide +kernel
theorem dc_X_writeNumber_170 : decode cd_X_writeNumber 170 = .ok (.getfield 27, 3) := by decide +kernel
theorem dc_X_writeNumber_173 : decode cd_X_writeNumber 173 = .ok (.bipush 45, 2) := by decide +kernel
theorem dc_X_writeNumber_175 : decode cd_X_writeNumber 175 = .ok (.invokevirtual 217, 3) := by decide +kernel
theorem dc_X_writeNumber_178 : decode cd_X_writeNumber 178 = .ok (.aload_n 0, 1) := by decide +kernel
theorem dc_X_writeNumber_179 : decode cd_X_writeNumber 179 = .ok (.getfield 27, 3) := by decide +kernel
theorem dc_X_writeNumber_182 : decode cd_X_writeNumber 182 = .ok (.lload 10, 2) := by decide +kernel
theorem dc_X_writeNumber_184 : decode cd_X_writeNumber 184 = .ok (.iload 12, 2) := by decide +kernel
theorem dc_X_writeNumber_186 : decode cd_X_writeNumber 186 = .ok (.invokevirtual 236, 3) := by decide +kernel
theorem dc_X_writeNumber_189 : decode cd_X_writeNumber 189 = .ok (.return_, 1) := by decide +kernel
theorem dc_X_push_0 : decode cd_X_push 0 = .ok (.iload 5, 2) := by decide +kernel
theorem dc_X_push_2 : decode cd_X_push 2 = .ok (.iconst 1, 1) := by decide +kernel
theorem dc_X_push_3 : decode cd_X_push 3 = .ok (.bipush 64, 2) := by decide +kernel
theorem dc_X_push_5 : decode cd_X_push 5 = .ok (.invokestatic 35, 3) := by decide +kernel
theorem dc_X_push_8 : decode cd_X_push 8 = .ok (.aload_n 0, 1) := by decide +kernel
theorem dc_X_push_9 : decode cd_X_push 9 = .ok (.invokevirtual 39, 3) := by decide +kernel
theorem dc_X_push_12 : decode cd_X_push 12 = .ok (.aload_n 0, 1) := by decide +kernel
theorem dc_X_push_13 : decode cd_X_push 13 = .ok (.aload_n 0, 1) := by decide +kernel
theorem dc_X_push_14 : decode cd_X_push 14 = .ok (.getfield 31, 3) := by decide +kernel
theorem dc_X_push_17 : decode cd_X_push 17 = .ok (.lload_n 1, 1) := by decide +kernel
theorem dc_X_push_18 : decode cd_X_push 18 = .ok (.lload_n 3, 1) := by decide +kernel
theorem dc_X_push_19 : decode cd_X_push 19 = .ok (.iload 5, 2) := by decide +kernel
theorem dc_X_push_21 : decode cd_X_push 21 = .ok (.iload 6, 2) := by decide +kernel
theorem dc_X_push_23 : decode cd_X_push 23 = .ok (.invokevirtual 42, 3) := by decide +kernel
theorem dc_X_push_26 : decode cd_X_push 26 = .ok (.aload_n 0, 1) := by decide +kernel
theorem dc_X_push_27 : decode cd_X_push 27 = .ok (.dup, 1) := by decide +kernel
theorem dc_X_push_28 : decode cd_X_push 28 = .ok (.getfield 31, 3) := by decide +kernel
theorem dc_X_push_31 : decode cd_X_push 31 = .ok (.iconst 1, 1) := by decide +kernel
theorem dc_X_push_32 : decode cd_X_push 32 = .ok (.iadd, 1) := by decide +kernel
theorem dc_X_push_33 : decode cd_X_push 33 = .ok (.putfield 31, 3) := by decide +kernel
theorem dc_X_push_36 : decode cd_X_push 36 = .ok (.aload_n 0, 1) := by decide +kernel
theorem dc_X_push_37 : decode cd_X_push 37 = .ok (.getfield 31, 3) := by decide +kernel
theorem dc_X_push_40 : decode cd_X_push 40 = .ok (.ireturn, 1) := by decide +kernel
theorem dc_X_two_0 : decode cd_X_two 0 = .ok (.iload_n 1, 1) := by decide +kernel
theorem dc_X_two_1 : decode cd_X_two 1 = .ok (.iconst 0, 1) := by decide +kernel
theorem dc_X_two_2 : decode cd_X_two 2 = .ok (.bipush 18, 2) := by decide +kernel
theorem dc_X_two_4 : decode cd_X_two 4 = .ok (.invokestatic 35, 3) := by decide +kernel
theorem dc_X_two_7 : decode cd_X_two 7 = .ok (.aload_n 0, 1) := by decide +kernel
theorem dc_X_two_8 : decode cd_X_two 8 = .ok (.iconst 2, 1) := by decide +kernel
theorem dc_X_two_9 : decode cd_X_two 9 = .ok (.invokevirtual 46, 3) := by decide +kernel
theorem dc_X_two_12 : decode cd_X_two 12 = .ok (.aload_n 0, 1) := by decide +kernel
theorem dc_X_two_13 : decode cd_X_two 13 = .ok (.getfield 31, 3) := by decide +kernel
theorem dc_X_two_16 : decode cd_X_two 16 = .ok (.iconst 2, 1) := by decide +kernel
theorem dc_X_two_17 : decode cd_X_two 17 = .ok (.isub, 1) := by decide +kernel
theorem dc_X_two_18 : decode cd_X_two 18 = .ok (.istore_n 2, 1) := by decide +kernel
theorem dc_X_two_19 : decode cd_X_two 19 = .ok (.aload_n 0, 1) := by decide +kernel
theorem dc_X_two_20 : decode cd_X_two 20 = .ok (.getfield 31, 3) := by decide +kernel
theorem dc_X_two_23 : decode cd_X_two 23 = .ok (.iconst 1, 1) := by decide +kernel
theorem dc_X_two_24 : decode cd_X_two 24 = .ok (.isub, 1) := by decide +kernel
theorem dc_X_two_25 : decode cd_X_two 25 = .ok (.istore_n 3, 1) := by decide +kernel
theorem dc_X_two_26 : decode cd_X_two 26 = .ok (.aload_n 0, 1) := by decide +kernel
theorem dc_X_two_27 : decode cd_X_two 27 = .ok (.iload_n 2, 1) := by decide +kernel
theorem dc_X_two_28 : decode cd_X_two 28 = .ok (.iload_n 3, 1) := by decide +kernel
theorem dc_X_two_29 : decode cd_X_two 29 = .ok (.invokevirtual 50, 3) := by decide +kernel
theorem dc_X_two_32 : decode cd_X_two 32 = .ok (.iload_n 1, 1) := by decide +kernel
theorem dc_X_two_33 : decode cd_X_two 33 = .ok (.iconst 4, 1) := by decide +kernel
theorem dc_X_two_34 : decode cd_X_two 34 = .ok (.if_icmp .gt 13, 3) := by decide +kernel
theorem dc_X_two_37 : decode cd_X_two 37 = .ok (.aload_n 0, 1) := by decide +kernel
theorem dc_X_two_38 : decode cd_X_two 38 = .ok (.iload_n 1, 1) := by decide +kernel
theorem dc_X_two_39 : decode cd_X_two 39 = .ok (.iload_n 2, 1) := by decide +kernel
theorem dc_X_two_40 : decode cd_X_two 40 = .ok (.iload_n 3, 1) := by decide +kernel
theorem dc_X_two_41 : decode cd_X_two 41 = .ok (.invokevirtual 54, 3) := by decide +kernel
theorem dc_X_two_44 : decode cd_X_two 44 = .ok (.goto 31, 3) := by decide +kernel
theorem dc_X_two_47 : decode cd_X_two 47 = .ok (.iload_n 1, 1) := by decide +kernel
theorem dc_X_two_48 : decode cd_X_two 48 = .ok (.bipush 8, 2) := by decide +kernel
theorem dc_X_two_50 : decode cd_X_two 50 = .ok (.if_icmp .gt 13, 3) := by decide +kernel
theorem dc_X_two_53 : decode cd_X_two 53 = .ok (.aload_n 0, 1) := by decide +kernel
theorem dc_X_two_54 : decode cd_X_two 54 = .ok (.iload_n 1, 1) := by decide +kernel
theorem dc_X_two_55 : decode cd_X_two 55 = .ok (.iload_n 2, 1) := by decide +kernel
theorem dc_X_two_56 : decode cd_X_two 56 = .ok (.iload_n 3, 1) := by decide +kernel
theorem dc_X_two_57 : decode cd_X_two 57 = .ok (.invokevirtual 57, 3) := by decide +kernel
theorem dc_X_two_60 : decode cd_X_two 60 = .ok (.goto 15, 3) := by decide +kernel
theorem dc_X_two_63 : decode cd_X_two 63 = .ok (.aload_n 0, 1) := by decide +kernel
theorem dc_X_two_64 : decode cd_X_two 64 = .ok (.iload_n 2, 1) := by decide +kernel
theorem dc_X_two_65 : decode cd_X_two 65 = .ok (.aload_n 0, 1) := by decide +kernel
theorem dc_X_two_66 : decode cd_X_two 66 = .ok (.iload_n 1, 1) := by decide +kernel
theorem dc_X_two_67 : decode cd_X_two 67 = .ok (.iload_n 2, 1) := by decide +kernel
theorem dc_X_two_68 : decode cd_X_two 68 = .ok (.iload_n 3, 1) := by decide +kernel
theorem dc_X_two_69 : decode cd_X_two 69 = .ok (.invokevirtual 60, 3) := by decide +kernel
theorem dc_X_two_72 : decode cd_X_two 72 = .ok (.invokevirtual 64, 3) := by decide +kernel
theorem dc_X_two_75 : decode cd_X_two 75 = .ok (.aload_n 0, 1) := by decide +kernel
theorem dc_X_two_76 : decode cd_X_two 76 = .ok (.dup, 1) := by decide +kernel
theorem dc_X_two_77 : decode cd_X_two 77 = .ok (.getfield 31, 3) := by decide +kernel
theorem dc_X_two_80 : decode cd_X_two 80 = .ok (.iconst 1, 1) := by decide +kernel
theorem dc_X_two_81 : decode cd_X_two 81 = .ok (.isub, 1) := by decide +kernel
theorem dc_X_two_82 : decode cd_X_two 82 = .ok (.putfield 31, 3) := by decide +kernel
theorem dc_X_two_85 : decode cd_X_two 85 = .ok (.return_, 1) := by decide +kernel
theorem dc_X_shift_0 : decode cd_X_shift 0 = .ok (.iload_n 1, 1) := by decide +kernel
theorem dc_X_shift_1 : decode cd_X_shift 1 = .ok (.iconst 0, 1) := by decide +kernel
theorem dc_X_shift_2 : decode cd_X_shift 2 = .ok (.iconst 3, 1) := by decide +kernel
theorem dc_X_shift_3 : decode cd_X_shift 3 = .ok (.invokestatic 35, 3) := by decide +kernel
theorem dc_X_shift_6 : decode cd_X_shift 6 = .ok (.aload_n 0, 1) := by decide +kernel
theorem dc_X_shift_7 : decode cd_X_shift 7 = .ok (.iconst 2, 1) := by decide +kernel
theorem dc_X_shift_8 : decode cd_X_shift 8 = .ok (.invokevirtual 46, 3) := by decide +kernel
theorem dc_X_shift_11 : decode cd_X_shift 11 = .ok (.aload_n 0, 1) := by decide +kernel
theorem dc_X_shift_12 : decode cd_X_shift 12 = .ok (.getfield 31, 3) := by decide +kernel
theorem dc_X_shift_15 : decode cd_X_shift 15 = .ok (.iconst 2, 1) := by decide +kernel
theorem dc_X_shift_16 : decode cd_X_shift 16 = .ok (.isub, 1) := by decide +kernel
theorem dc_X_shift_17 : decode cd_X_shift 17 = .ok (.istore_n 2, 1) := by decide +kernel
theorem dc_X_shift_18 : decode cd_X_shift 18 = .ok (.aload_n 0, 1) := by decide +kernel
theorem dc_X_shift_19 : decode cd_X_shift 19 = .ok (.getfield 31, 3) := by decide +kernel
theorem dc_X_shift_22 : decode cd_X_shift 22 = .ok (.iconst 1, 1) := by decide +kernel
theorem dc_X_shift_23 : decode cd_X_shift 23 = .ok (.isub, 1) := by decide +kernel
theorem dc_X_shift_24 : decode cd_X_shift 24 = .ok (.istore_n 3, 1) := by decide +kernel
theorem dc_X_shift_25 : decode cd_X_shift 25 = .ok (.aload_n 0, 1) := by decide +kernel
theorem dc_X_shift_26 : decode cd_X_shift 26 = .ok (.getfield 13, 3) := by decide +kernel
theorem dc_X_shift_29 : decode cd_X_shift 29 = .ok (.iload_n 3, 1) := by decide +kernel
theorem dc_X_shift_30 : decode cd_X_shift 30 = .ok (.laload, 1) := by decide +kernel
theorem dc_X_shift_31 : decode cd_X_shift 31 = .ok (.lconst 0, 1) := by decide +kernel
theorem dc_X_shift_32 : decode cd_X_shift 32 = .ok (.lcmp, 1) := by decide +kernel
theorem dc_X_shift_33 : decode cd_X_shift 33 = .ok (.ifCond .eq 11, 3) := by decide +kernel
theorem dc_X_shift_36 : decode cd_X_shift 36 = .ok (.aload_n 0, 1) := by decide +kernel
theorem dc_X_shift_37 : decode cd_X_shift 37 = .ok (.iload_n 2, 1) := by decide +kernel
theorem dc_X_shift_38 : decode cd_X_shift 38 = .ok (.invokevirtual 67, 3) := by decide +kernel
theorem dc_X_shift_41 : decode cd_X_shift 41 = .ok (.goto 57, 3) := by decide +kernel
theorem dc_X_shift_44 : decode cd_X_shift 44 = .ok (.iload_n 1, 1) := by decide +kernel
theorem dc_X_shift_45 : decode cd_X_shift 45 = .ok (.iconst 1, 1) := by decide +kernel
theorem dc_X_shift_46 : decode cd_X_shift 46 = .ok (.if_icmp .eq 8, 3) := by decide +kernel
theorem dc_X_shift_49 : decode cd_X_shift 49 = .ok (.iload_n 1, 1) := by decide +kernel
theorem dc_X_shift_50 : decode cd_X_shift 50 = .ok (.iconst 3, 1) := by decide +kernel
theorem dc_X_shift_51 : decode cd_X_shift 51 = .ok (.if_icmp .ne 36, 3) := by decide +kernel
theorem dc_X_shift_54 : decode cd_X_shift 54 = .ok (.aload_n 0, 1) := by decide +kernel
theorem dc_X_shift_55 : decode cd_X_shift 55 = .ok (.iload_n 2, 1) := by decide +kernel
theorem dc_X_shift_56 : decode cd_X_shift 56 = .ok (.aload_n 0, 1) := by decide +kernel
theorem dc_X_shift_57 : decode cd_X_shift 57 = .ok (.getfield 9, 3) := by decide +kernel
theorem dc_X_shift_60 : decode cd_X_shift 60 = .ok (.iload_n 3, 1) := by decide +kernel
theorem dc_X_shift_61 : decode cd_X_shift 61 = .ok (.laload, 1) := by decide +kernel
theorem dc_X_shift_62 : decode cd_X_shift 62 = .ok (.iload_n 1, 1) := by decide +kernel
theorem dc_X_shift_63 : decode cd_X_shift 63 = .ok (.iconst 3, 1) := by decide +kernel
theorem dc_X_shift_64 : decode cd_X_shift 64 = .ok (.if_icmp .ne 16, 3) := by decide +kernel
theorem dc_X_shift_67 : decode cd_X_shift 67 = .ok (.aload_n 0, 1) := by decide +kernel
theorem dc_X_shift_68 : decode cd_X_shift 68 = .ok (.getfield 20, 3) := by decide +kernel
theorem dc_X_shift_71 : decode cd_X_shift 71 = .ok (.iload_n 2, 1) := by decide +kernel
theorem dc_X_shift_72 : decode cd_X_shift 72 = .ok (.baload, 1) := by decide +kernel
theorem dc_X_shift_73 : decode cd_X_shift 73 = .ok (.ifCond .eq 7, 3) := by decide +kernel
theorem dc_X_shift_76 : decode cd_X_shift 76 = .ok (.iconst 1, 1) := by decide +kernel
theorem dc_X_shift_77 : decode cd_X_shift 77 = .ok (.goto 4, 3) := by decide +kernel
theorem dc_X_shift_80 : decode cd_X_shift 80 = .ok (.iconst 0, 1) := by decide +kernel
theorem dc_X_shift_81 : decode cd_X_shift 81 = .ok (.invokevirtual 70, 3) := by decide +kernel
theorem dc_X_shift_84 : decode cd_X_shift 84 = .ok (.goto 14, 3) := by decide +kernel
theorem dc_X_shift_87 : decode cd_X_shift 87 = .ok (.aload_n 0, 1) := by decide +kernel
theorem dc_X_shift_88 : decode cd_X_shift 88 = .ok (.iload_n 2, 1) := by decide +kernel
theorem dc_X_shift_89 : decode cd_X_shift 89 = .ok (.aload_n 0, 1) := by decide +kernel
theorem dc_X_shift_90 : decode cd_X_shift 90 = .ok (.getfield 9, 3) := by decide +kernel
theorem dc_X_shift_93 : decode cd_X_shift 93 = .ok (.iload_n 3, 1) := by decide +kernel
theorem dc_X_shift_94 : decode cd_X_shift 94 = .ok (.laload, 1) := by decide +kernel
theorem dc_X_shift_95 : decode cd_X_shift 95 = .ok (.invokevirtual 74, 3) := by decide +kernel
theorem dc_X_shift_98 : decode cd_X_shift 98 = .ok (.aload_n 0, 1) := by decide +kernel
theorem dc_X_shift_99 : decode cd_X_shift 99 = .ok (.dup, 1) := by decide +kernel
theorem dc_X_shift_100 : decode cd_X_shift 100 = .ok (.getfield 31, 3) := by decide +kernel
theorem dc_X_shift_103 : decode cd_X_shift 103 = .ok (.iconst 1, 1) := by decide +kernel
theorem dc_X_shift_104 : decode cd_X_shift 104 = .ok (.isub, 1) := by decide +kernel
theorem dc_X_shift_105 : decode cd_X_shift 105 = .ok (.putfield 31, 3) := by decide +kernel
theorem dc_X_shift_108 : decode cd_X_shift 108 = .ok (.return_, 1) := by decide +kernel
theorem dc_X_one_0 : decode cd_X_one 0 = .ok (.iload_n 1, 1) := by decide +kernel
theorem dc_X_one_1 : decode cd_X_one 1 = .ok (.iconst 0, 1) := by decide +kernel
theorem dc_X_one_2 : decode cd_X_one 2 = .ok (.bipush 8, 2) := by decide +kernel
theorem dc_X_one_4 : decode cd_X_one 4 = .ok (.invokestatic 35, 3) := by decide +kernel
theorem dc_X_one_7 : decode cd_X_one 7 = .ok (.aload_n 0, 1) := by decide +kernel
theorem dc_X_one_8 : decode cd_X_one 8 = .ok (.iconst 1, 1) := by decide +kernel
theorem dc_X_one_9 : decode cd_X_one 9 = .ok (.invokevirtual 46, 3) := by decide +kernel
theorem dc_X_one_12 : decode cd_X_one 12 = .ok (.aload_n 0, 1) := by decide +kernel
theorem dc_X_one_13 : decode cd_X_one 13 = .ok (.getfield 31, 3) := by decide +kernel
theorem dc_X_one_16 : decode cd_X_one 16 = .ok (.iconst 1, 1) := by decide +kernel
theorem dc_X_one_17 : decode cd_X_one 17 = .ok (.isub, 1) := by decide +kernel
theorem dc_X_one_18 : decode cd_X_one 18 = .ok (.istore_n 2, 1) := by decide +kernel
theorem dc_X_one_19 : decode cd_X_one 19 = .ok (.iload_n 1, 1) := by decide +kernel
theorem dc_X_one_20 : decode cd_X_one 20 = .ok (.ifCond .ne 11, 3) := by decide +kernel
theorem dc_X_one_23 : decode cd_X_one 23 = .ok (.aload_n 0, 1) := by decide +kernel
theorem dc_X_one_24 : decode cd_X_one 24 = .ok (.iload_n 2, 1) := by decide +kernel
theorem dc_X_one_25 : decode cd_X_one 25 = .ok (.invokevirtual 78, 3) := by decide +kernel
theorem dc_X_one_28 : decode cd_X_one 28 = .ok (.goto 37, 3) := by decide +kernel
theorem dc_X_one_31 : decode cd_X_one 31 = .ok (.iload_n 1, 1) := by decide +kernel
theorem dc_X_one_32 : decode cd_X_one 32 = .ok (.iconst 1, 1) := by decide +kernel
theorem dc_X_one_33 : decode cd_X_one 33 = .ok (.if_icmp .ne 21, 3) := by decide +kernel
theorem dc_X_one_36 : decode cd_X_one 36 = .ok (.aload_n 0, 1) := by decide +kernel
theorem dc_X_one_37 : decode cd_X_one 37 = .ok (.iload_n 2, 1) := by decide +kernel
theorem dc_X_one_38 : decode cd_X_one 38 = .ok (.aload_n 0, 1) := by decide +kernel
theorem dc_X_one_39 : decode cd_X_one 39 = .ok (.iload_n 2, 1) := by decide +kernel
theorem dc_X_one_40 : decode cd_X_one 40 = .ok (.invokevirtual 81, 3) := by decide +kernel
theorem dc_X_one_43 : decode cd_X_one 43 = .ok (.aload_n 0, 1) := by decide +kernel
theorem dc_X_one_44 : decode cd_X_one 44 = .ok (.iload_n 2, 1) := by decide +kernel
theorem dc_X_one_45 : decode cd_X_one 45 = .ok (.invokevirtual 85, 3) := by decide +kernel
theorem dc_X_one_48 : decode cd_X_one 48 = .ok (.invokevirtual 88, 3) := by decide +kernel
theorem dc_X_one_51 : decode cd_X_one 51 = .ok (.goto 14, 3) := by decide +kernel
theorem dc_X_one_54 : decode cd_X_one 54 = .ok (.aload_n 0, 1) := by decide +kernel
theorem dc_X_one_55 : decode cd_X_one 55 = .ok (.iload_n 2, 1) := by decide +kernel
theorem dc_X_one_56 : decode cd_X_one 56 = .ok (.aload_n 0, 1) := by decide +kernel
theorem dc_X_one_57 : decode cd_X_one 57 = .ok (.iload_n 1, 1) := by decide +kernel
theorem dc_X_one_58 : decode cd_X_one 58 = .ok (.iload_n 2, 1) := by decide +kernel
theorem dc_X_one_59 : decode cd_X_one 59 = .ok (.invokevirtual 92, 3) := by decide +kernel
theorem dc_X_one_62 : decode cd_X_one 62 = .ok (.invokevirtual 64, 3) := by decide +kernel
theorem dc_X_one_65 : decode cd_X_one 65 = .ok (.return_, 1) := by decide +kernel
theorem dc_X_choose_0 : decode cd_X_choose 0 = .ok (.aload_n 0, 1) := by decide +kernel
theorem dc_X_choose_1 : decode cd_X_choose 1 = .ok (.iconst 3, 1) := by decide +kernel
theorem dc_X_choose_2 : decode cd_X_choose 2 = .ok (.invokevirtual 46, 3) := by decide +kernel
theorem dc_X_choose_5 : decode cd_X_choose 5 = .ok (.aload_n 0, 1) := by decide +kernel
theorem dc_X_choose_6 : decode cd_X_choose 6 = .ok (.getfield 31, 3) := by decide +kernel
theorem dc_X_choose_9 : decode cd_X_choose 9 = .ok (.iconst 3, 1) := by decide +kernel
theorem dc_X_choose_10 : decode cd_X_choose 10 = .ok (.isub, 1) := by decide +kernel
theorem dc_X_choose_11 : decode cd_X_choose 11 = .ok (.istore_n 1, 1) := by decide +kernel
theorem dc_X_choose_12 : decode cd_X_choose 12 = .ok (.aload_n 0, 1) := by decide +kernel
theorem dc_X_choose_13 : decode cd_X_choose 13 = .ok (.getfield 31, 3) := by decide +kernel
theorem dc_X_choose_16 : decode cd_X_choose 16 = .ok (.iconst 2, 1) := by decide +kernel
theorem dc_X_choose_17 : decode cd_X_choose 17 = .ok (.isub, 1) := by decide +kernel
theorem dc_X_choose_18 : decode cd_X_choose 18 = .ok (.istore_n 2, 1) := by decide +kernel
theorem dc_X_choose_19 : decode cd_X_choose 19 = .ok (.aload_n 0, 1) := by decide +kernel
theorem dc_X_choose_20 : decode cd_X_choose 20 = .ok (.getfield 31, 3) := by decide +kernel
theorem dc_X_choose_23 : decode cd_X_choose 23 = .ok (.iconst 1, 1) := by decide +kernel
theorem dc_X_choose_24 : decode cd_X_choose 24 = .ok (.isub, 1) := by decide +kernel
theorem dc_X_choose_25 : decode cd_X_choose 25 = .ok (.istore_n 3, 1) := by decide +kernel
theorem dc_X_choose_26 : decode cd_X_choose 26 = .ok (.aload_n 0, 1) := by decide +kernel
theorem dc_X_choose_27 : decode cd_X_choose 27 = .ok (.iload_n 2, 1) := by decide +kernel
theorem dc_X_choose_28 : decode cd_X_choose 28 = .ok (.iload_n 3, 1) := by decide +kernel
theorem dc_X_choose_29 : decode cd_X_choose 29 = .ok (.invokevirtual 50, 3) := by decide +kernel
theorem dc_X_choose_32 : decode cd_X_choose 32 = .ok (.aload_n 0, 1) := by decide +kernel
theorem dc_X_choose_33 : decode cd_X_choose 33 = .ok (.iload_n 1, 1) := by decide +kernel
theorem dc_X_choose_34 : decode cd_X_choose 34 = .ok (.invokevirtual 96, 3) := by decide +kernel
theorem dc_X_choose_37 : decode cd_X_choose 37 = .ok (.istore 4, 2) := by decide +kernel
theorem dc_X_choose_39 : decode cd_X_choose 39 = .ok (.iload 4, 2) := by decide +kernel
theorem dc_X_choose_41 : decode cd_X_choose 41 = .ok (.iconst 2, 1) := by decide +kernel
theorem dc_X_choose_42 : decode cd_X_choose 42 = .ok (.if_icmp .ne 30, 3) := by decide +kernel
theorem dc_X_choose_45 : decode cd_X_choose 45 = .ok (.aload_n 0, 1) := by decide +kernel
theorem dc_X_choose_46 : decode cd_X_choose 46 = .ok (.iload_n 2, 1) := by decide +kernel
theorem dc_X_choose_47 : decode cd_X_choose 47 = .ok (.aload_n 0, 1) := by decide +kernel
theorem dc_X_choose_48 : decode cd_X_choose 48 = .ok (.iload_n 2, 1) := by decide +kernel
theorem dc_X_choose_49 : decode cd_X_choose 49 = .ok (.invokevirtual 85, 3) := by decide +kernel
theorem dc_X_choose_52 : decode cd_X_choose 52 = .ok (.aload_n 0, 1) := by decide +kernel
theorem dc_X_choose_53 : decode cd_X_choose 53 = .ok (.iload_n 3, 1) := by decide +kernel
theorem dc_X_choose_54 : decode cd_X_choose 54 = .ok (.invokevirtual 85, 3) := by decide +kernel
theorem dc_X_choose_57 : decode cd_X_choose 57 = .ok (.land, 1) := by decide +kernel
theorem dc_X_choose_58 : decode cd_X_choose 58 = .ok (.aload_n 0, 1) := by decide +kernel
theorem dc_X_choose_59 : decode cd_X_choose 59 = .ok (.iload_n 2, 1) := by decide +kernel
theorem dc_X_choose_60 : decode cd_X_choose 60 = .ok (.invokevirtual 81, 3) := by decide +kernel
theorem dc_X_choose_63 : decode cd_X_choose 63 = .ok (.aload_n 0, 1) := by decide +kernel
theorem dc_X_choose_64 : decode cd_X_choose 64 = .ok (.iload_n 3, 1) := by decide +kernel
theorem dc_X_choose_65 : decode cd_X_choose 65 = .ok (.invokevirtual 81, 3) := by decide +kernel
theorem dc_X_choose_68 : decode cd_X_choose 68 = .ok (.land, 1) := by decide +kernel
theorem dc_X_choose_69 : decode cd_X_choose 69 = .ok (.invokevirtual 88, 3) := by decide +kernel
theorem dc_X_choose_72 : decode cd_X_choose 72 = .ok (.aload_n 0, 1) := by decide +kernel
theorem dc_X_choose_73 : decode cd_X_choose 73 = .ok (.iload 4, 2) := by decide +kernel
theorem dc_X_choose_75 : decode cd_X_choose 75 = .ok (.ifCond .ne 7, 3) := by decide +kernel
theorem dc_X_choose_78 : decode cd_X_choose 78 = .ok (.iload_n 3, 1) := by decide +kernel
theorem dc_X_choose_79 : decode cd_X_choose 79 = .ok (.goto 4, 3) := by decide +kernel
theorem dc_X_choose_82 : decode cd_X_choose 82 = .ok (.iload_n 2, 1) := by decide +kernel
theorem dc_X_choose_83 : decode cd_X_choose 83 = .ok (.iload_n 1, 1) := by decide +kernel
theorem dc_X_choose_84 : decode cd_X_choose 84 = .ok (.invokevirtual 100, 3) := by decide +kernel
theorem dc_X_choose_87 : decode cd_X_choose 87 = .ok (.aload_n 0, 1) := by decide +kernel
theorem dc_X_choose_88 : decode cd_X_choose 88 = .ok (.dup, 1) := by decide +kernel
theorem dc_X_choose_89 : decode cd_X_choose 89 = .ok (.getfield 31, 3) := by decide +kernel
theorem dc_X_choose_92 : decode cd_X_choose 92 = .ok (.iconst 2, 1) := by decide +kernel
theorem dc_X_choose_93 : decode cd_X_choose 93 = .ok (.isub, 1) := by decide +kernel
theorem dc_X_choose_94 : decode cd_X_choose 94 = .ok (.putfield 31, 3) := by decide +kernel
theorem dc_X_choose_97 : decode cd_X_choose 97 = .ok (.return_, 1) := by decide +kernel
theorem dc_X_join_0 : decode cd_X_join 0 = .ok (.aload_n 0, 1) := by decide +kernel
theorem dc_X_join_1 : decode cd_X_join 1 = .ok (.iconst 2, 1) := by decide +kernel
theorem dc_X_join_2 : decode cd_X_join 2 = .ok (.invokevirtual 46, 3) := by decide +kernel
theorem dc_X_join_5 : decode cd_X_join 5 = .ok (.aload_n 0, 1) := by decide +kernel
theorem dc_X_join_6 : decode cd_X_join 6 = .ok (.getfield 31, 3) := by decide +kernel
theorem dc_X_join_9 : decode cd_X_join 9 = .ok (.iconst 2, 1) := by decide +kernel
theorem dc_X_join_10 : decode cd_X_join 10 = .ok (.isub, 1) := by decide +kernel
theorem dc_X_join_11 : decode cd_X_join 11 = .ok (.istore_n 1, 1) := by decide +kernel
theorem dc_X_join_12 : decode cd_X_join 12 = .ok (.aload_n 0, 1) := by decide +kernel
theorem dc_X_join_13 : decode cd_X_join 13 = .ok (.getfield 31, 3) := by decide +kernel
theorem dc_X_join_16 : decode cd_X_join 16 = .ok (.iconst 1, 1) := by decide +kernel
theorem dc_X_join_17 : decode cd_X_join 17 = .ok (.isub, 1) := by decide +kernel
theorem dc_X_join_18 : decode cd_X_join 18 = .ok (.istore_n 2, 1) := by decide +kernel
theorem dc_X_join_19 : decode cd_X_join 19 = .ok (.aload_n 0, 1) := by decide +kernel
theorem dc_X_join_20 : decode cd_X_join 20 = .ok (.getfield 16, 3) := by decide +kernel
theorem dc_X_join_23 : decode cd_X_join 23 = .ok (.iload_n 2, 1) := by decide +kernel
theorem dc_X_join_24 : decode cd_X_join 24 = .ok (.iaload, 1) := by decide +kernel
theorem dc_X_join_25 : decode cd_X_join 25 = .ok (.istore_n 3, 1) := by decide +kernel
theorem dc_X_join_26 : decode cd_X_join 26 = .ok (.aload_n 0, 1) := by decide +kernel
theorem dc_X_join_27 : decode cd_X_join 27 = .ok (.getfield 16, 3) := by decide +kernel
theorem dc_X_join_30 : decode cd_X_join 30 = .ok (.iload_n 1, 1) := by decide +kernel
theorem dc_X_join_31 : decode cd_X_join 31 = .ok (.iaload, 1) := by decide +kernel
theorem dc_X_join_32 : decode cd_X_join 32 = .ok (.iload_n 3, 1) := by decide +kernel
theorem dc_X_join_33 : decode cd_X_join 33 = .ok (.iadd, 1) := by decide +kernel
theorem dc_X_join_34 : decode cd_X_join 34 = .ok (.istore 4, 2) := by decide +kernel
theorem dc_X_join_36 : decode cd_X_join 36 = .ok (.iload 4, 2) := by decide +kernel
theorem dc_X_join_38 : decode cd_X_join 38 = .ok (.iconst 1, 1) := by decide +kernel
theorem dc_X_join_39 : decode cd_X_join 39 = .ok (.bipush 64, 2) := by decide +kernel
theorem dc_X_join_41 : decode cd_X_join 41 = .ok (.invokestatic 35, 3) := by decide +kernel
theorem dc_X_join_44 : decode cd_X_join 44 = .ok (.aload_n 0, 1) := by decide +kernel
theorem dc_X_join_45 : decode cd_X_join 45 = .ok (.iload_n 1, 1) := by decide +kernel
theorem dc_X_join_46 : decode cd_X_join 46 = .ok (.aload_n 0, 1) := by decide +kernel
theorem dc_X_join_47 : decode cd_X_join 47 = .ok (.getfield 9, 3) := by decide +kernel
theorem dc_X_join_50 : decode cd_X_join 50 = .ok (.iload_n 1, 1) := by decide +kernel
theorem dc_X_join_51 : decode cd_X_join 51 = .ok (.laload, 1) := by decide +kernel
theorem dc_X_join_52 : decode cd_X_join 52 = .ok (.iload_n 3, 1) := by decide +kernel
theorem dc_X_join_53 : decode cd_X_join 53 = .ok (.lshl, 1) := by decide +kernel
theorem dc_X_join_54 : decode cd_X_join 54 = .ok (.aload_n 0, 1) := by decide +kernel
theorem dc_X_join_55 : decode cd_X_join 55 = .ok (.getfield 9, 3) := by decide +kernel
theorem dc_X_join_58 : decode cd_X_join 58 = .ok (.iload_n 2, 1) := by decide +kernel
theorem dc_X_join_59 : decode cd_X_join 59 = .ok (.laload, 1) := by decide +kernel
theorem dc_X_join_60 : decode cd_X_join 60 = .ok (.lor, 1) := by decide +kernel
theorem dc_X_join_61 : decode cd_X_join 61 = .ok (.aload_n 0, 1) := by decide +kernel
theorem dc_X_join_62 : decode cd_X_join 62 = .ok (.getfield 13, 3) := by decide +kernel
theorem dc_X_join_65 : decode cd_X_join 65 = .ok (.iload_n 1, 1) := by decide +kernel
theorem dc_X_join_66 : decode cd_X_join 66 = .ok (.laload, 1) := by decide +kernel
theorem dc_X_join_67 : decode cd_X_join 67 = .ok (.iload_n 3, 1) := by decide +kernel
theorem dc_X_join_68 : decode cd_X_join 68 = .ok (.lshl, 1) := by decide +kernel
theorem dc_X_join_69 : decode cd_X_join 69 = .ok (.aload_n 0, 1) := by decide +kernel
theorem dc_X_join_70 : decode cd_X_join 70 = .ok (.getfield 13, 3) := by decide +kernel
theorem dc_X_join_73 : decode cd_X_join 73 = .ok (.iload_n 2, 1) := by decide +kernel
theorem dc_X_join_74 : decode cd_X_join 74 = .ok (.laload, 1) := by decide +kernel
theorem dc_X_join_75 : decode cd_X_join 75 = .ok (.lor, 1) := by decide +kernel
theorem dc_X_join_76 : decode cd_X_join 76 = .ok (.iload 4, 2) := by decide +kernel
theorem dc_X_join_78 : decode cd_X_join 78 = .ok (.iconst 0, 1) := by decide +kernel
theorem dc_X_join_79 : decode cd_X_join 79 = .ok (.invokevirtual 42, 3) := by decide +kernel
theorem dc_X_join_82 : decode cd_X_join 82 = .ok (.aload_n 0, 1) := by decide +kernel
theorem dc_X_join_83 : decode cd_X_join 83 = .ok (.dup, 1) := by decide +kernel
theorem dc_X_join_84 : decode cd_X_join 84 = .ok (.getfield 31, 3) := by decide +kernel
theorem dc_X_join_87 : decode cd_X_join 87 = .ok (.iconst 1, 1) := by decide +kernel
theorem dc_X_join_88 : decode cd_X_join 88 = .ok (.isub, 1) := by decide +kernel
theorem dc_X_join_89 : decode cd_X_join 89 = .ok (.putfield 31, 3) := by decide +kernel
theorem dc_X_join_92 : decode cd_X_join 92 = .ok (.return_, 1) := by decide +kernel
theorem dc_X_copies_0 : decode cd_X_copies 0 = .ok (.iload_n 1, 1) := by decide +kernel
theorem dc_X_copies_1 : decode cd_X_copies 1 = .ok (.iconst 1, 1) := by decide +kernel
theorem dc_X_copies_2 : decode cd_X_copies 2 = .ok (.ldc 105, 2) := by decide +kernel
theorem dc_X_copies_4 : decode cd_X_copies 4 = .ok (.invokestatic 35, 3) := by decide +kernel
theorem dc_X_copies_7 : decode cd_X_copies 7 = .ok (.aload_n 0, 1) := by decide +kernel
theorem dc_X_copies_8 : decode cd_X_copies 8 = .ok (.iconst 1, 1) := by decide +kernel
theorem dc_X_copies_9 : decode cd_X_copies 9 = .ok (.invokevirtual 46, 3) := by decide +kernel
theorem dc_X_copies_12 : decode cd_X_copies 12 = .ok (.aload_n 0, 1) := by decide +kernel
theorem dc_X_copies_13 : decode cd_X_copies 13 = .ok (.getfield 31, 3) := by decide +kernel
theorem dc_X_copies_16 : decode cd_X_copies 16 = .ok (.iconst 1, 1) := by decide +kernel
theorem dc_X_copies_17 : decode cd_X_copies 17 = .ok (.isub, 1) := by decide +kernel
theorem dc_X_copies_18 : decode cd_X_copies 18 = .ok (.istore_n 2, 1) := by decide +kernel
theorem dc_X_copies_19 : decode cd_X_copies 19 = .ok (.aload_n 0, 1) := by decide +kernel
theorem dc_X_copies_20 : decode cd_X_copies 20 = .ok (.getfield 16, 3) := by decide +kernel
theorem dc_X_copies_23 : decode cd_X_copies 23 = .ok (.iload_n 2, 1) := by decide +kernel
theorem dc_X_copies_24 : decode cd_X_copies 24 = .ok (.iaload, 1) := by decide +kernel
theorem dc_X_copies_25 : decode cd_X_copies 25 = .ok (.istore_n 3, 1) := by decide +kernel
theorem dc_X_copies_26 : decode cd_X_copies 26 = .ok (.iload_n 1, 1) := by decide +kernel
theorem dc_X_copies_27 : decode cd_X_copies 27 = .ok (.iconst 1, 1) := by decide +kernel
theorem dc_X_copies_28 : decode cd_X_copies 28 = .ok (.bipush 64, 2) := by decide +kernel
theorem dc_X_copies_30 : decode cd_X_copies 30 = .ok (.invokestatic 35, 3) := by decide +kernel
theorem dc_X_copies_33 : decode cd_X_copies 33 = .ok (.iload_n 1, 1) := by decide +kernel
theorem dc_X_copies_34 : decode cd_X_copies 34 = .ok (.iload_n 3, 1) := by decide +kernel
theorem dc_X_copies_35 : decode cd_X_copies 35 = .ok (.imul, 1) := by decide +kernel
theorem dc_X_copies_36 : decode cd_X_copies 36 = .ok (.iconst 1, 1) := by decide +kernel
theorem dc_X_copies_37 : decode cd_X_copies 37 = .ok (.bipush 64, 2) := by decide +kernel
theorem dc_X_copies_39 : decode cd_X_copies 39 = .ok (.invokestatic 35, 3) := by decide +kernel
theorem dc_X_copies_42 : decode cd_X_copies 42 = .ok (.aload_n 0, 1) := by decide +kernel
theorem dc_X_copies_43 : decode cd_X_copies 43 = .ok (.getfield 9, 3) := by decide +kernel
theorem dc_X_copies_46 : decode cd_X_copies 46 = .ok (.iload_n 2, 1) := by decide +kernel
theorem dc_X_copies_47 : decode cd_X_copies 47 = .ok (.laload, 1) := by decide +kernel
theorem dc_X_copies_48 : decode cd_X_copies 48 = .ok (.lstore 4, 2) := by decide +kernel
theorem dc_X_copies_50 : decode cd_X_copies 50 = .ok (.aload_n 0, 1) := by decide +kernel
theorem dc_X_copies_51 : decode cd_X_copies 51 = .ok (.getfield 13, 3) := by decide +kernel
theorem dc_X_copies_54 : decode cd_X_copies 54 = .ok (.iload_n 2, 1) := by decide +kernel
theorem dc_X_copies_55 : decode cd_X_copies 55 = .ok (.laload, 1) := by decide +kernel
theorem dc_X_copies_56 : decode cd_X_copies 56 = .ok (.lstore 6, 2) := by decide +kernel
theorem dc_X_copies_58 : decode cd_X_copies 58 = .ok (.iconst 1, 1) := by decide +kernel
theorem dc_X_copies_59 : decode cd_X_copies 59 = .ok (.istore 8, 2) := by decide +kernel
theorem dc_X_copies_61 : decode cd_X_copies 61 = .ok (.iload 8, 2) := by decide +kernel
theorem dc_X_copies_63 : decode cd_X_copies 63 = .ok (.iload_n 1, 1) := by decide +kernel
theorem dc_X_copies_64 : decode cd_X_copies 64 = .ok (.if_icmp .ge 35, 3) := by decide +kernel
theorem dc_X_copies_67 : decode cd_X_copies 67 = .ok (.lload 4, 2) := by decide +kernel
theorem dc_X_copies_69 : decode cd_X_copies 69 = .ok (.iload_n 3, 1) := by decide +kernel
theorem dc_X_copies_70 : decode cd_X_copies 70 = .ok (.lshl, 1) := by decide +kernel
theorem dc_X_copies_71 : decode cd_X_copies 71 = .ok (.aload_n 0, 1) := by decide +kernel
theorem dc_X_copies_72 : decode cd_X_copies 72 = .ok (.getfield 9, 3) := by decide +kernel
theorem dc_X_copies_75 : decode cd_X_copies 75 = .ok (.iload_n 2, 1) := by decide +kernel
theorem dc_X_copies_76 : decode cd_X_copies 76 = .ok (.laload, 1) := by decide +kernel
theorem dc_X_copies_77 : decode cd_X_copies 77 = .ok (.lor, 1) := by decide +kernel
theorem dc_X_copies_78 : decode cd_X_copies 78 = .ok (.lstore 4, 2) := by decide +kernel
theorem dc_X_copies_80 : decode cd_X_copies 80 = .ok (.lload 6, 2) := by decide +kernel
theorem dc_X_copies_82 : decode cd_X_copies 82 = .ok (.iload_n 3, 1) := by decide +kernel
theorem dc_X_copies_83 : decode cd_X_copies 83 = .ok (.lshl, 1) := by decide +kernel
theorem dc_X_copies_84 : decode cd_X_copies 84 = .ok (.aload_n 0, 1) := by decide +kernel
theorem dc_X_copies_85 : decode cd_X_copies 85 = .ok (.getfield 13, 3) := by decide +kernel
theorem dc_X_copies_88 : decode cd_X_copies 88 = .ok (.iload_n 2, 1) := by decide +kernel
theorem dc_X_copies_89 : decode cd_X_copies 89 = .ok (.laload, 1) := by decide +kernel
theorem dc_X_copies_90 : decode cd_X_copies 90 = .ok (.lor, 1) := by decide +kernel
theorem dc_X_copies_91 : decode cd_X_copies 91 = .ok (.lstore 6, 2) := by decide +kernel
theorem dc_X_copies_93 : decode cd_X_copies 93 = .ok (.iinc 8 1, 3) := by decide +kernel
theorem dc_X_copies_96 : decode cd_X_copies 96 = .ok (.goto (-35), 3) := by decide +kernel
theorem dc_X_copies_99 : decode cd_X_copies 99 = .ok (.aload_n 0, 1) := by decide +kernel
theorem dc_X_copies_100 : decode cd_X_copies 100 = .ok (.iload_n 2, 1) := by decide +kernel
theorem dc_X_copies_101 : decode cd_X_copies 101 = .ok (.lload 4, 2) := by decide +kernel
theorem dc_X_copies_103 : decode cd_X_copies 103 = .ok (.lload 6, 2) := by decide +kernel
theorem dc_X_copies_105 : decode cd_X_copies 105 = .ok (.iload_n 1, 1) := by decide +kernel
theorem dc_X_copies_106 : decode cd_X_copies 106 = .ok (.iload_n 3, 1) := by decide +kernel
theorem dc_X_copies_107 : decode cd_X_copies 107 = .ok (.imul, 1) := by decide +kernel
theorem dc_X_copies_108 : decode cd_X_copies 108 = .ok (.iconst 0, 1) := by decide +kernel
theorem dc_X_copies_109 : decode cd_X_copies 109 = .ok (.invokevirtual 42, 3) := by decide +kernel
theorem dc_X_copies_112 : decode cd_X_copies 112 = .ok (.return_, 1) := by decide +kernel
theorem dc_X_part_0 : decode cd_X_part 0 = .ok (.iload_n 2, 1) := by decide +kernel
theorem dc_X_part_1 : decode cd_X_part 1 = .ok (.iconst 0, 1) := by decide +kernel
theorem dc_X_part_2 : decode cd_X_part 2 = .ok (.iload_n 1, 1) := by decide +kernel
theorem dc_X_part_3 : decode cd_X_part 3 = .ok (.invokestatic 35, 3) := by decide +kernel
theorem dc_X_part_6 : decode cd_X_part 6 = .ok (.aload_n 0, 1) := by decide +kernel
theorem dc_X_part_7 : decode cd_X_part 7 = .ok (.iconst 1, 1) := by decide +kernel
theorem dc_X_part_8 : decode cd_X_part 8 = .ok (.invokevirtual 46, 3) := by decide +kernel
theorem dc_X_part_11 : decode cd_X_part 11 = .ok (.aload_n 0, 1) := by decide +kernel
theorem dc_X_part_12 : decode cd_X_part 12 = .ok (.getfield 31, 3) := by decide +kernel
theorem dc_X_part_15 : decode cd_X_part 15 = .ok (.iconst 1, 1) := by decide +kernel
theorem dc_X_part_16 : decode cd_X_part 16 = .ok (.isub, 1) := by decide +kernel
theorem dc_X_part_17 : decode cd_X_part 17 = .ok (.istore_n 3, 1) := by decide +kernel
theorem dc_X_part_18 : decode cd_X_part 18 = .ok (.iload_n 1, 1) := by decide +kernel
theorem dc_X_part_19 : decode cd_X_part 19 = .ok (.iconst 0, 1) := by decide +kernel
theorem dc_X_part_20 : decode cd_X_part 20 = .ok (.aload_n 0, 1) := by decide +kernel
theorem dc_X_part_21 : decode cd_X_part 21 = .ok (.getfield 16, 3) := by decide +kernel
theorem dc_X_part_24 : decode cd_X_part 24 = .ok (.iload_n 3, 1) := by decide +kernel
theorem dc_X_part_25 : decode cd_X_part 25 = .ok (.iaload, 1) := by decide +kernel
theorem dc_X_part_26 : decode cd_X_part 26 = .ok (.iconst 1, 1) := by decide +kernel
theorem dc_X_part_27 : decode cd_X_part 27 = .ok (.isub, 1) := by decide +kernel
theorem dc_X_part_28 : decode cd_X_part 28 = .ok (.invokestatic 35, 3) := by decide +kernel
theorem dc_X_part_31 : decode cd_X_part 31 = .ok (.aload_n 0, 1) := by decide +kernel
theorem dc_X_part_32 : decode cd_X_part 32 = .ok (.iload_n 3, 1) := by decide +kernel
theorem dc_X_part_33 : decode cd_X_part 33 = .ok (.aload_n 0, 1) := by decide +kernel
theorem dc_X_part_34 : decode cd_X_part 34 = .ok (.getfield 9, 3) := by decide +kernel
theorem dc_X_part_37 : decode cd_X_part 37 = .ok (.iload_n 3, 1) := by decide +kernel
theorem dc_X_part_38 : decode cd_X_part 38 = .ok (.laload, 1) := by decide +kernel
theorem dc_X_part_39 : decode cd_X_part 39 = .ok (.iload_n 2, 1) := by decide +kernel
theorem dc_X_part_40 : decode cd_X_part 40 = .ok (.lushr, 1) := by decide +kernel
theorem dc_X_part_41 : decode cd_X_part 41 = .ok (.aload_n 0, 1) := by decide +kernel
theorem dc_X_part_42 : decode cd_X_part 42 = .ok (.getfield 13, 3) := by decide +kernel
theorem dc_X_part_45 : decode cd_X_part 45 = .ok (.iload_n 3, 1) := by decide +kernel
theorem dc_X_part_46 : decode cd_X_part 46 = .ok (.laload, 1) := by decide +kernel
theorem dc_X_part_47 : decode cd_X_part 47 = .ok (.iload_n 2, 1) := by decide +kernel
theorem dc_X_part_48 : decode cd_X_part 48 = .ok (.lushr, 1) := by decide +kernel
theorem dc_X_part_49 : decode cd_X_part 49 = .ok (.iload_n 1, 1) := by decide +kernel
theorem dc_X_part_50 : decode cd_X_part 50 = .ok (.iload_n 2, 1) := by decide +kernel
theorem dc_X_part_51 : decode cd_X_part 51 = .ok (.isub, 1) := by decide +kernel
theorem dc_X_part_52 : decode cd_X_part 52 = .ok (.iconst 1, 1) := by decide +kernel
theorem dc_X_part_53 : decode cd_X_part 53 = .ok (.iadd, 1) := by decide +kernel
theorem dc_X_part_54 : decode cd_X_part 54 = .ok (.iconst 0, 1) := by decide +kernel
theorem dc_X_part_55 : decode cd_X_part 55 = .ok (.invokevirtual 42, 3) := by decide +kernel
theorem dc_X_part_58 : decode cd_X_part 58 = .ok (.return_, 1) := by decide +kernel
theorem dc_X_bit_0 : decode cd_X_bit 0 = .ok (.aload_n 0, 1) := by decide +kernel
theorem dc_X_bit_1 : decode cd_X_bit 1 = .ok (.iconst 2, 1) := by decide +kernel
theorem dc_X_bit_2 : decode cd_X_bit 2 = .ok (.invokevirtual 46, 3) := by decide +kernel
theorem dc_X_bit_5 : decode cd_X_bit 5 = .ok (.aload_n 0, 1) := by decide +kernel
theorem dc_X_bit_6 : decode cd_X_bit 6 = .ok (.getfield 31, 3) := by decide +kernel
theorem dc_X_bit_9 : decode cd_X_bit 9 = .ok (.iconst 2, 1) := by decide +kernel
theorem dc_X_bit_10 : decode cd_X_bit 10 = .ok (.isub, 1) := by decide +kernel
theorem dc_X_bit_11 : decode cd_X_bit 11 = .ok (.istore_n 1, 1) := by decide +kernel
theorem dc_X_bit_12 : decode cd_X_bit 12 = .ok (.aload_n 0, 1) := by decide +kernel
theorem dc_X_bit_13 : decode cd_X_bit 13 = .ok (.getfield 31, 3) := by decide +kernel
theorem dc_X_bit_16 : decode cd_X_bit 16 = .ok (.iconst 1, 1) := by decide +kernel
theorem dc_X_bit_17 : decode cd_X_bit 17 = .ok (.isub, 1) := by decide +kernel
theorem dc_X_bit_18 : decode cd_X_bit 18 = .ok (.istore_n 2, 1) := by decide +kernel
theorem dc_X_bit_19 : decode cd_X_bit 19 = .ok (.aload_n 0, 1) := by decide +kernel
theorem dc_X_bit_20 : decode cd_X_bit 20 = .ok (.iload_n 2, 1) := by decide +kernel
theorem dc_X_bit_21 : decode cd_X_bit 21 = .ok (.invokevirtual 106, 3) := by decide +kernel
theorem dc_X_bit_24 : decode cd_X_bit 24 = .ok (.lstore_n 3, 1) := by decide +kernel
theorem dc_X_bit_25 : decode cd_X_bit 25 = .ok (.aload_n 0, 1) := by decide +kernel
theorem dc_X_bit_26 : decode cd_X_bit 26 = .ok (.getfield 13, 3) := by decide +kernel
theorem dc_X_bit_29 : decode cd_X_bit 29 = .ok (.iload_n 2, 1) := by decide +kernel
theorem dc_X_bit_30 : decode cd_X_bit 30 = .ok (.laload, 1) := by decide +kernel
theorem dc_X_bit_31 : decode cd_X_bit 31 = .ok (.lconst 0, 1) := by decide +kernel
theorem dc_X_bit_32 : decode cd_X_bit 32 = .ok (.lcmp, 1) := by decide +kernel
theorem dc_X_bit_33 : decode cd_X_bit 33 = .ok (.ifCond .ne 21, 3) := by decide +kernel
theorem dc_X_bit_36 : decode cd_X_bit 36 = .ok (.lload_n 3, 1) := by decide +kernel
theorem dc_X_bit_37 : decode cd_X_bit 37 = .ok (.lconst 0, 1) := by decide +kernel
theorem dc_X_bit_38 : decode cd_X_bit 38 = .ok (.lcmp, 1) := by decide +kernel
theorem dc_X_bit_39 : decode cd_X_bit 39 = .ok (.ifCond .lt 15, 3) := by decide +kernel
theorem dc_X_bit_42 : decode cd_X_bit 42 = .ok (.lload_n 3, 1) := by decide +kernel
theorem dc_X_bit_43 : decode cd_X_bit 43 = .ok (.aload_n 0, 1) := by decide +kernel
theorem dc_X_bit_44 : decode cd_X_bit 44 = .ok (.getfield 16, 3) := by decide +kernel
theorem dc_X_bit_47 : decode cd_X_bit 47 = .ok (.iload_n 1, 1) := by decide +kernel
theorem dc_X_bit_48 : decode cd_X_bit 48 = .ok (.iaload, 1) := by decide +kernel
theorem dc_X_bit_49 : decode cd_X_bit 49 = .ok (.i2l, 1) := by decide +kernel
theorem dc_X_bit_50 : decode cd_X_bit 50 = .ok (.lcmp, 1) := by decide +kernel
theorem dc_X_bit_51 : decode cd_X_bit 51 = .ok (.ifCond .lt 12, 3) := by decide +kernel
theorem dc_X_bit_54 : decode cd_X_bit 54 = .ok (.aload_n 0, 1) := by decide +kernel
theorem dc_X_bit_55 : decode cd_X_bit 55 = .ok (.iload_n 1, 1) := by decide +kernel
theorem dc_X_bit_56 : decode cd_X_bit 56 = .ok (.iconst 2, 1) := by decide +kernel
theorem dc_X_bit_57 : decode cd_X_bit 57 = .ok (.invokevirtual 64, 3) := by decide +kernel
theorem dc_X_bit_60 : decode cd_X_bit 60 = .ok (.goto 28, 3) := by decide +kernel
theorem dc_X_bit_63 : decode cd_X_bit 63 = .ok (.aload_n 0, 1) := by decide +kernel
theorem dc_X_bit_64 : decode cd_X_bit 64 = .ok (.iload_n 1, 1) := by decide +kernel
theorem dc_X_bit_65 : decode cd_X_bit 65 = .ok (.aload_n 0, 1) := by decide +kernel
theorem dc_X_bit_66 : decode cd_X_bit 66 = .ok (.getfield 9, 3) := by decide +kernel
theorem dc_X_bit_69 : decode cd_X_bit 69 = .ok (.iload_n 1, 1) := by decide +kernel
theorem dc_X_bit_70 : decode cd_X_bit 70 = .ok (.laload, 1) := by decide +kernel
theorem dc_X_bit_71 : decode cd_X_bit 71 = .ok (.lload_n 3, 1) := by decide +kernel
theorem dc_X_bit_72 : decode cd_X_bit 72 = .ok (.l2i, 1) := by decide +kernel
theorem dc_X_bit_73 : decode cd_X_bit 73 = .ok (.lushr, 1) := by decide +kernel
theorem dc_X_bit_74 : decode cd_X_bit 74 = .ok (.aload_n 0, 1) := by decide +kernel
theorem dc_X_bit_75 : decode cd_X_bit 75 = .ok (.getfield 13, 3) := by decide +kernel
theorem dc_X_bit_78 : decode cd_X_bit 78 = .ok (.iload_n 1, 1) := by decide +kernel
theorem dc_X_bit_79 : decode cd_X_bit 79 = .ok (.laload, 1) := by decide +kernel
theorem dc_X_bit_80 : decode cd_X_bit 80 = .ok (.lload_n 3, 1) := by decide +kernel
theorem dc_X_bit_81 : decode cd_X_bit 81 = .ok (.l2i, 1) := by decide +kernel
theorem dc_X_bit_82 : decode cd_X_bit 82 = .ok (.lushr, 1) := by decide +kernel
theorem dc_X_bit_83 : decode cd_X_bit 83 = .ok (.iconst 1, 1) := by decide +kernel
theorem dc_X_bit_84 : decode cd_X_bit 84 = .ok (.iconst 0, 1) := by decide +kernel
theorem dc_X_bit_85 : decode cd_X_bit 85 = .ok (.invokevirtual 42, 3) := by decide +kernel
theorem dc_X_bit_88 : decode cd_X_bit 88 = .ok (.aload_n 0, 1) := by decide +kernel
theorem dc_X_bit_89 : decode cd_X_bit 89 = .ok (.dup, 1) := by decide +kernel
theorem dc_X_bit_90 : decode cd_X_bit 90 = .ok (.getfield 31, 3) := by decide +kernel
theorem dc_X_bit_93 : decode cd_X_bit 93 = .ok (.iconst 1, 1) := by decide +kernel
theorem dc_X_bit_94 : decode cd_X_bit 94 = .ok (.isub, 1) := by decide +kernel
theorem dc_X_bit_95 : decode cd_X_bit 95 = .ok (.putfield 31, 3) := by decide +kernel
theorem dc_X_bit_98 : decode cd_X_bit 98 = .ok (.return_, 1) := by decide +kernel
theorem dc_X_as_0 : decode cd_X_as 0 = .ok (.iload_n 1, 1) := by decide +kernel
theorem dc_X_as_1 : decode cd_X_as 1 = .ok (.iconst 1, 1) := by decide +kernel
theorem dc_X_as_2 : decode cd_X_as 2 = .ok (.bipush 64, 2) := by decide +kernel
theorem dc_X_as_4 : decode cd_X_as 4 = .ok (.invokestatic 35, 3) := by decide +kernel
theorem dc_X_as_7 : decode cd_X_as 7 = .ok (.aload_n 0, 1) := by decide +kernel
theorem dc_X_as_8 : decode cd_X_as 8 = .ok (.iconst 1, 1) := by decide +kernel
theorem dc_X_as_9 : decode cd_X_as 9 = .ok (.invokevirtual 46, 3) := by decide +kernel
theorem dc_X_as_12 : decode cd_X_as 12 = .ok (.aload_n 0, 1) := by decide +kernel
theorem dc_X_as_13 : decode cd_X_as 13 = .ok (.getfield 31, 3) := by decide +kernel
theorem dc_X_as_16 : decode cd_X_as 16 = .ok (.iconst 1, 1) := by decide +kernel
theorem dc_X_as_17 : decode cd_X_as 17 = .ok (.isub, 1) := by decide +kernel
theorem dc_X_as_18 : decode cd_X_as 18 = .ok (.istore_n 3, 1) := by decide +kernel
theorem dc_X_as_19 : decode cd_X_as 19 = .ok (.aload_n 0, 1) := by decide +kernel
theorem dc_X_as_20 : decode cd_X_as 20 = .ok (.iload_n 3, 1) := by decide +kernel
theorem dc_X_as_21 : decode cd_X_as 21 = .ok (.iload_n 1, 1) := by decide +kernel
theorem dc_X_as_22 : decode cd_X_as 22 = .ok (.aload_n 0, 1) := by decide +kernel
theorem dc_X_as_23 : decode cd_X_as 23 = .ok (.getfield 20, 3) := by decide +kernel
theorem dc_X_as_26 : decode cd_X_as 26 = .ok (.iload_n 3, 1) := by decide +kernel
theorem dc_X_as_27 : decode cd_X_as 27 = .ok (.baload, 1) := by decide +kernel
theorem dc_X_as_28 : decode cd_X_as 28 = .ok (.invokevirtual 109, 3) := by decide +kernel
theorem dc_X_as_31 : decode cd_X_as 31 = .ok (.aload_n 0, 1) := by decide +kernel
theorem dc_X_as_32 : decode cd_X_as 32 = .ok (.getfield 20, 3) := by decide +kernel
theorem dc_X_as_35 : decode cd_X_as 35 = .ok (.iload_n 3, 1) := by decide +kernel
theorem dc_X_as_36 : decode cd_X_as 36 = .ok (.iload_n 2, 1) := by decide +kernel
theorem dc_X_as_37 : decode cd_X_as 37 = .ok (.bastore, 1) := by decide +kernel
theorem dc_X_as_38 : decode cd_X_as 38 = .ok (.return_, 1) := by decide +kernel
theorem dc_X_again_0 : decode cd_X_again 0 = .ok (.iload_n 1, 1) := by decide +kernel
theorem dc_X_again_1 : decode cd_X_again 1 = .ok (.iconst 0, 1) := by decide +kernel
theorem dc_X_again_2 : decode cd_X_again 2 = .ok (.ldc 105, 2) := by decide +kernel
theorem dc_X_again_4 : decode cd_X_again 4 = .ok (.invokestatic 35, 3) := by decide +kernel
theorem dc_X_again_7 : decode cd_X_again 7 = .ok (.aload_n 0, 1) := by decide +kernel
theorem dc_X_again_8 : decode cd_X_again 8 = .ok (.iload_n 1, 1) := by decide +kernel
theorem dc_X_again_9 : decode cd_X_again 9 = .ok (.invokevirtual 113, 3) := by decide +kernel
theorem dc_X_again_12 : decode cd_X_again 12 = .ok (.aload_n 0, 1) := by decide +kernel
theorem dc_X_again_13 : decode cd_X_again 13 = .ok (.invokevirtual 39, 3) := by decide +kernel
theorem dc_X_again_16 : decode cd_X_again 16 = .ok (.aload_n 0, 1) := by decide +kernel
theorem dc_X_again_17 : decode cd_X_again 17 = .ok (.aload_n 0, 1) := by decide +kernel
theorem dc_X_again_18 : decode cd_X_again 18 = .ok (.getfield 31, 3) := by decide +kernel
theorem dc_X_again_21 : decode cd_X_again 21 = .ok (.iconst 1, 1) := by decide +kernel
theorem dc_X_again_22 : decode cd_X_again 22 = .ok (.isub, 1) := by decide +kernel
theorem dc_X_again_23 : decode cd_X_again 23 = .ok (.iload_n 1, 1) := by decide +kernel
theorem dc_X_again_24 : decode cd_X_again 24 = .ok (.isub, 1) := by decide +kernel
theorem dc_X_again_25 : decode cd_X_again 25 = .ok (.aload_n 0, 1) := by decide +kernel
theorem dc_X_again_26 : decode cd_X_again 26 = .ok (.getfield 31, 3) := by decide +kernel
theorem dc_X_again_29 : decode cd_X_again 29 = .ok (.invokevirtual 100, 3) := by decide +kernel
theorem dc_X_again_32 : decode cd_X_again 32 = .ok (.aload_n 0, 1) := by decide +kernel
theorem dc_X_again_33 : decode cd_X_again 33 = .ok (.dup, 1) := by decide +kernel
theorem dc_X_again_34 : decode cd_X_again 34 = .ok (.getfield 31, 3) := by decide +kernel
theorem dc_X_again_37 : decode cd_X_again 37 = .ok (.iconst 1, 1) := by decide +kernel
theorem dc_X_again_38 : decode cd_X_again 38 = .ok (.iadd, 1) := by decide +kernel
theorem dc_X_again_39 : decode cd_X_again 39 = .ok (.putfield 31, 3) := by decide +kernel
theorem dc_X_again_42 : decode cd_X_again 42 = .ok (.return_, 1) := by decide +kernel
theorem dc_X_text_0 : decode cd_X_text 0 = .ok (.iload_n 1, 1) := by decide +kernel
theorem dc_X_text_1 : decode cd_X_text 1 = .ok (.iconst 0, 1) := by decide +kernel
theorem dc_X_text_2 : decode cd_X_text 2 = .ok (.iconst 2, 1) := by decide +kernel
theorem dc_X_text_3 : decode cd_X_text 3 = .ok (.invokestatic 35, 3) := by decide +kernel
theorem dc_X_text_6 : decode cd_X_text 6 = .ok (.aload_n 0, 1) := by decide +kernel
theorem dc_X_text_7 : decode cd_X_text 7 = .ok (.iconst 1, 1) := by decide +kernel
theorem dc_X_text_8 : decode cd_X_text 8 = .ok (.invokevirtual 46, 3) := by decide +kernel
theorem dc_X_text_11 : decode cd_X_text 11 = .ok (.aload_n 0, 1) := by decide +kernel
theorem dc_X_text_12 : decode cd_X_text 12 = .ok (.getfield 31, 3) := by decide +kernel
theorem dc_X_text_15 : decode cd_X_text 15 = .ok (.iconst 1, 1) := by decide +kernel
theorem dc_X_text_16 : decode cd_X_text 16 = .ok (.isub, 1) := by decide +kernel
theorem dc_X_text_17 : decode cd_X_text 17 = .ok (.istore_n 3, 1) := by decide +kernel
theorem dc_X_text_18 : decode cd_X_text 18 = .ok (.aload_n 0, 1) := by decide +kernel
theorem dc_X_text_19 : decode cd_X_text 19 = .ok (.getfield 27, 3) := by decide +kernel
theorem dc_X_text_22 : decode cd_X_text 22 = .ok (.invokevirtual 116, 3) := by decide +kernel
theorem dc_X_text_25 : decode cd_X_text 25 = .ok (.iload_n 1, 1) := by decide +kernel
theorem dc_X_text_26 : decode cd_X_text 26 = .ok (.iconst 2, 1) := by decide +kernel
theorem dc_X_text_27 : decode cd_X_text 27 = .ok (.if_icmp .ne 12, 3) := by decide +kernel
theorem dc_X_text_30 : decode cd_X_text 30 = .ok (.aload_n 0, 1) := by decide +kernel
theorem dc_X_text_31 : decode cd_X_text 31 = .ok (.iload_n 3, 1) := by decide +kernel
theorem dc_X_text_32 : decode cd_X_text 32 = .ok (.iload_n 2, 1) := by decide +kernel
theorem dc_X_text_33 : decode cd_X_text 33 = .ok (.invokevirtual 119, 3) := by decide +kernel
theorem dc_X_text_36 : decode cd_X_text 36 = .ok (.goto 18, 3) := by decide +kernel
theorem dc_X_text_39 : decode cd_X_text 39 = .ok (.aload_n 0, 1) := by decide +kernel
theorem dc_X_text_40 : decode cd_X_text 40 = .ok (.iload_n 3, 1) := by decide +kernel
theorem dc_X_text_41 : decode cd_X_text 41 = .ok (.iload_n 1, 1) := by decide +kernel
theorem dc_X_text_42 : decode cd_X_text 42 = .ok (.ifCond .ne 7, 3) := by decide +kernel
theorem dc_X_text_45 : decode cd_X_text 45 = .ok (.iconst 0, 1) := by decide +kernel
theorem dc_X_text_46 : decode cd_X_text 46 = .ok (.goto 4, 3) := by decide +kernel
theorem dc_X_text_49 : decode cd_X_text 49 = .ok (.iconst 2, 1) := by decide +kernel
theorem dc_X_text_50 : decode cd_X_text 50 = .ok (.iload_n 2, 1) := by decide +kernel
theorem dc_X_text_51 : decode cd_X_text 51 = .ok (.invokevirtual 123, 3) := by decide +kernel
theorem dc_X_text_54 : decode cd_X_text 54 = .ok (.aload_n 0, 1) := by decide +kernel
theorem dc_X_text_55 : decode cd_X_text 55 = .ok (.dup, 1) := by decide +kernel
theorem dc_X_text_56 : decode cd_X_text 56 = .ok (.getfield 31, 3) := by decide +kernel
theorem dc_X_text_59 : decode cd_X_text 59 = .ok (.iconst 1, 1) := by decide +kernel
theorem dc_X_text_60 : decode cd_X_text 60 = .ok (.isub, 1) := by decide +kernel
theorem dc_X_text_61 : decode cd_X_text 61 = .ok (.putfield 31, 3) := by decide +kernel
theorem dc_X_text_64 : decode cd_X_text 64 = .ok (.aload_n 0, 1) := by decide +kernel
theorem dc_X_text_65 : decode cd_X_text 65 = .ok (.getfield 27, 3) := by decide +kernel
theorem dc_X_text_68 : decode cd_X_text 68 = .ok (.getfield 126, 3) := by decide +kernel
theorem dc_X_text_71 : decode cd_X_text 71 = .ok (.ireturn, 1) := by decide +kernel
theorem dc_X_letter_0 : decode cd_X_letter 0 = .ok (.iload_n 1, 1) := by decide +kernel
theorem dc_X_letter_1 : decode cd_X_letter 1 = .ok (.ifCond .lt 14, 3) := by decide +kernel
theorem dc_X_letter_4 : decode cd_X_letter 4 = .ok (.iload_n 1, 1) := by decide +kernel
theorem dc_X_letter_5 : decode cd_X_letter 5 = .ok (.aload_n 0, 1) := by decide +kernel
theorem dc_X_letter_6 : decode cd_X_letter 6 = .ok (.getfield 27, 3) := by decide +kernel
theorem dc_X_letter_9 : decode cd_X_letter 9 = .ok (.getfield 126, 3) := by decide +kernel
theorem dc_X_letter_12 : decode cd_X_letter 12 = .ok (.if_icmp .lt 13, 3) := by decide +kernel
theorem dc_X_letter_15 : decode cd_X_letter 15 = .ok (.new 129, 3) := by decide +kernel
theorem dc_X_letter_18 : decode cd_X_letter 18 = .ok (.dup, 1) := by decide +kernel
theorem dc_X_letter_19 : decode cd_X_letter 19 = .ok (.ldc 131, 2) := by decide +kernel
theorem dc_X_letter_21 : decode cd_X_letter 21 = .ok (.invokespecial 133, 3) := by decide +kernel
theorem dc_X_letter_24 : decode cd_X_letter 24 = .ok (.athrow, 1) := by decide +kernel
theorem dc_X_letter_25 : decode cd_X_letter 25 = .ok (.aload_n 0, 1) := by decide +kernel
theorem dc_X_letter_26 : decode cd_X_letter 26 = .ok (.getfield 27, 3) := by decide +kernel
theorem dc_X_letter_29 : decode cd_X_letter 29 = .ok (.getfield 136, 3) := by decide +kernel
theorem dc_X_letter_32 : decode cd_X_letter 32 = .ok (.iload_n 1, 1) := by decide +kernel
theorem dc_X_letter_33 : decode cd_X_letter 33 = .ok (.baload, 1) := by decide +kernel
theorem dc_X_letter_34 : decode cd_X_letter 34 = .ok (.ireturn, 1) := by decide +kernel
theorem dc_X_told_0 : decode cd_X_told 0 = .ok (.iload_n 2, 1) := by decide +kernel
theorem dc_X_told_1 : decode cd_X_told 1 = .ok (.iconst 0, 1) := by decide +kernel
theorem dc_X_told_2 : decode cd_X_told 2 = .ok (.iconst 4, 1) := by decide +kernel
theorem dc_X_told_3 : decode cd_X_told 3 = .ok (.invokestatic 35, 3) := by decide +kernel
theorem dc_X_told_6 : decode cd_X_told 6 = .ok (.aload_n 0, 1) := by decide +kernel
theorem dc_X_told_7 : decode cd_X_told 7 = .ok (.iload_n 1, 1) := by decide +kernel
theorem dc_X_told_8 : decode cd_X_told 8 = .ok (.invokevirtual 113, 3) := by decide +kernel
theorem dc_X_told_11 : decode cd_X_told 11 = .ok (.aload_n 0, 1) := by decide +kernel
theorem dc_X_told_12 : decode cd_X_told 12 = .ok (.getfield 31, 3) := by decide +kernel
theorem dc_X_told_15 : decode cd_X_told 15 = .ok (.iconst 1, 1) := by decide +kernel
theorem dc_X_told_16 : decode cd_X_told 16 = .ok (.isub, 1) := by decide +kernel
theorem dc_X_told_17 : decode cd_X_told 17 = .ok (.iload_n 1, 1) := by decide +kernel
theorem dc_X_told_18 : decode cd_X_told 18 = .ok (.isub, 1) := by decide +kernel
theorem dc_X_told_19 : decode cd_X_told 19 = .ok (.istore_n 3, 1) := by decide +kernel
theorem dc_X_told_20 : decode cd_X_told 20 = .ok (.iload_n 2, 1) := by decide +kernel
theorem dc_X_told_21 : decode cd_X_told 21 = .ok (.tableswitch 68 0 3 #[31, 38, 45, 53], 31) := by decide +kernel
theorem dc_X_told_52 : decode cd_X_told 52 = .ok (.aload_n 0, 1) := by decide +kernel
theorem dc_X_told_53 : decode cd_X_told 53 = .ok (.getfield 9, 3) := by decide +kernel
theorem dc_X_told_56 : decode cd_X_told 56 = .ok (.iload_n 3, 1) := by decide +kernel
theorem dc_X_told_57 : decode cd_X_told 57 = .ok (.laload, 1) := by decide +kernel
theorem dc_X_told_58 : decode cd_X_told 58 = .ok (.lreturn, 1) := by decide +kernel
theorem dc_X_told_59 : decode cd_X_told 59 = .ok (.aload_n 0, 1) := by decide +kernel
theorem dc_X_told_60 : decode cd_X_told 60 = .ok (.getfield 13, 3) := by decide +kernel
theorem dc_X_told_63 : decode cd_X_told 63 = .ok (.iload_n 3, 1) := by decide +kernel
theorem dc_X_told_64 : decode cd_X_told 64 = .ok (.laload, 1) := by decide +kernel
theorem dc_X_told_65 : decode cd_X_told 65 = .ok (.lreturn, 1) := by decide +kernel
theorem dc_X_told_66 : decode cd_X_told 66 = .ok (.aload_n 0, 1) := by decide +kernel
theorem dc_X_told_67 : decode cd_X_told 67 = .ok (.getfield 16, 3) := by decide +kernel
theorem dc_X_told_70 : decode cd_X_told 70 = .ok (.iload_n 3, 1) := by decide +kernel
theorem dc_X_told_71 : decode cd_X_told 71 = .ok (.iaload, 1) := by decide +kernel
theorem dc_X_told_72 : decode cd_X_told 72 = .ok (.i2l, 1) := by decide +kernel
theorem dc_X_told_73 : decode cd_X_told 73 = .ok (.lreturn, 1) := by decide +kernel
theorem dc_X_told_74 : decode cd_X_told 74 = .ok (.aload_n 0, 1) := by decide +kernel
theorem dc_X_told_75 : decode cd_X_told 75 = .ok (.getfield 20, 3) := by decide +kernel
theorem dc_X_told_78 : decode cd_X_told 78 = .ok (.iload_n 3, 1) := by decide +kernel
theorem dc_X_told_79 : decode cd_X_told 79 = .ok (.baload, 1) := by decide +kernel
theorem dc_X_told_80 : decode cd_X_told 80 = .ok (.ifCond .eq 7, 3) := by decide +kernel
theorem dc_X_told_83 : decode cd_X_told 83 = .ok (.lconst 1, 1) := by decide +kernel
theorem dc_X_told_84 : decode cd_X_told 84 = .ok (.goto 4, 3) := by decide +kernel
theorem dc_X_told_87 : decode cd_X_told 87 = .ok (.lconst 0, 1) := by decide +kernel
theorem dc_X_told_88 : decode cd_X_told 88 = .ok (.lreturn, 1) := by decide +kernel
theorem dc_X_told_89 : decode cd_X_told 89 = .ok (.aload_n 0, 1) := by decide +kernel
theorem dc_X_told_90 : decode cd_X_told 90 = .ok (.iload_n 3, 1) := by decide +kernel
theorem dc_X_told_91 : decode cd_X_told 91 = .ok (.invokevirtual 96, 3) := by decide +kernel
theorem dc_X_told_94 : decode cd_X_told 94 = .ok (.i2l, 1) := by decide +kernel
theorem dc_X_told_95 : decode cd_X_told 95 = .ok (.lreturn, 1) := by decide +kernel
theorem dc_X_count_0 : decode cd_X_count 0 = .ok (.iload_n 1, 1) := by decide +kernel
theorem dc_X_count_1 : decode cd_X_count 1 = .ok (.ifCond .ne 8, 3) := by decide +kernel
theorem dc_X_count_4 : decode cd_X_count 4 = .ok (.aload_n 0, 1) := by decide +kernel
theorem dc_X_count_5 : decode cd_X_count 5 = .ok (.getfield 31, 3) := by decide +kernel
theorem dc_X_count_8 : decode cd_X_count 8 = .ok (.ireturn, 1) := by decide +kernel
theorem dc_X_count_9 : decode cd_X_count 9 = .ok (.iload_n 1, 1) := by decide +kernel
theorem dc_X_count_10 : decode cd_X_count 10 = .ok (.iconst 1, 1) := by decide +kernel
theorem dc_X_count_11 : decode cd_X_count 11 = .ok (.if_icmp .ne 13, 3) := by decide +kernel
theorem dc_X_count_14 : decode cd_X_count 14 = .ok (.aload_n 0, 1) := by decide +kernel
theorem dc_X_count_15 : decode cd_X_count 15 = .ok (.getfield 27, 3) := by decide +kernel
theorem dc_X_count_18 : decode cd_X_count 18 = .ok (.getfield 126, 3) := by decide +kernel
theorem dc_X_count_21 : decode cd_X_count 21 = .ok (.goto 4, 3) := by decide +kernel
theorem dc_X_count_24 : decode cd_X_count 24 = .ok (.iconst (-1), 1) := by decide +kernel
theorem dc_X_count_25 : decode cd_X_count 25 = .ok (.ireturn, 1) := by decide +kernel
theorem dc_M_dark_0 : decode cd_M_dark 0 = .ok (.iconst 0, 1) := by decide +kernel
theorem dc_M_dark_1 : decode cd_M_dark 1 = .ok (.istore_n 2, 1) := by decide +kernel
theorem dc_M_dark_2 : decode cd_M_dark 2 = .ok (.iload_n 2, 1) := by decide +kernel
theorem dc_M_dark_3 : decode cd_M_dark 3 = .ok (.iload_n 1, 1) := by decide +kernel
theorem dc_M_dark_4 : decode cd_M_dark 4 = .ok (.if_icmp .ge 18, 3) := by decide +kernel
theorem dc_M_dark_7 : decode cd_M_dark 7 = .ok (.aload_n 0, 1) := by decide +kernel
theorem dc_M_dark_8 : decode cd_M_dark 8 = .ok (.iload_n 2, 1) := by decide +kernel
theorem dc_M_dark_9 : decode cd_M_dark 9 = .ok (.baload, 1) := by decide +kernel
theorem dc_M_dark_10 : decode cd_M_dark 10 = .ok (.iconst 1, 1) := by decide +kernel
theorem dc_M_dark_11 : decode cd_M_dark 11 = .ok (.if_icmp .le 5, 3) := by decide +kernel
theorem dc_M_dark_14 : decode cd_M_dark 14 = .ok (.iconst 1, 1) := by decide +kernel
theorem dc_M_dark_15 : decode cd_M_dark 15 = .ok (.ireturn, 1) := by decide +kernel
theorem dc_M_dark_16 : decode cd_M_dark 16 = .ok (.iinc 2 1, 3) := by decide +kernel
theorem dc_M_dark_19 : decode cd_M_dark 19 = .ok (.goto (-17), 3) := by decide +kernel
theorem dc_M_dark_22 : decode cd_M_dark 22 = .ok (.iconst 0, 1) := by decide +kernel
theorem dc_M_dark_23 : decode cd_M_dark 23 = .ok (.ireturn, 1) := by decide +kernel
theorem dc_M_fill_0 : decode cd_M_fill 0 = .ok (.iconst 0, 1) := by decide +kernel
theorem dc_M_fill_1 : decode cd_M_fill 1 = .ok (.istore_n 3, 1) := by decide +kernel
theorem dc_M_fill_2 : decode cd_M_fill 2 = .ok (.iload_n 3, 1) := by decide +kernel
theorem dc_M_fill_3 : decode cd_M_fill 3 = .ok (.iload_n 1, 1) := by decide +kernel
theorem dc_M_fill_4 : decode cd_M_fill 4 = .ok (.if_icmp .ge 14, 3) := by decide +kernel
theorem dc_M_fill_7 : decode cd_M_fill 7 = .ok (.aload_n 0, 1) := by decide +kernel
theorem dc_M_fill_8 : decode cd_M_fill 8 = .ok (.iload_n 3, 1) := by decide +kernel
theorem dc_M_fill_9 : decode cd_M_fill 9 = .ok (.iload_n 2, 1) := by decide +kernel
theorem dc_M_fill_10 : decode cd_M_fill 10 = .ok (.i2b, 1) := by decide +kernel
theorem dc_M_fill_11 : decode cd_M_fill 11 = .ok (.bastore, 1) := by decide +kernel
theorem dc_M_fill_12 : decode cd_M_fill 12 = .ok (.iinc 3 1, 3) := by decide +kernel
theorem dc_M_fill_15 : decode cd_M_fill 15 = .ok (.goto (-13), 3) := by decide +kernel
theorem dc_M_fill_18 : decode cd_M_fill 18 = .ok (.return_, 1) := by decide +kernel
theorem dc_M_truth_0 : decode cd_M_truth 0 = .ok (.iconst 0, 1) := by decide +kernel
theorem dc_M_truth_1 : decode cd_M_truth 1 = .ok (.istore_n 2, 1) := by decide +kernel
theorem dc_M_truth_2 : decode cd_M_truth 2 = .ok (.iload_n 2, 1) := by decide +kernel
theorem dc_M_truth_3 : decode cd_M_truth 3 = .ok (.iload_n 1, 1) := by decide +kernel
theorem dc_M_truth_4 : decode cd_M_truth 4 = .ok (.if_icmp .ge 18, 3) := by decide +kernel
theorem dc_M_truth_7 : decode cd_M_truth 7 = .ok (.aload_n 0, 1) := by decide +kernel
theorem dc_M_truth_8 : decode cd_M_truth 8 = .ok (.iload_n 2, 1) := by decide +kernel
theorem dc_M_truth_9 : decode cd_M_truth 9 = .ok (.baload, 1) := by decide +kernel
theorem dc_M_truth_10 : decode cd_M_truth 10 = .ok (.iconst 1, 1) := by decide +kernel
theorem dc_M_truth_11 : decode cd_M_truth 11 = .ok (.if_icmp .ne 5, 3) := by decide +kernel
theorem dc_M_truth_14 : decode cd_M_truth 14 = .ok (.iconst 1, 1) := by decide +kernel
theorem dc_M_truth_15 : decode cd_M_truth 15 = .ok (.ireturn, 1) := by decide +kernel
theorem dc_M_truth_16 : decode cd_M_truth 16 = .ok (.iinc 2 1, 3) := by decide +kernel
theorem dc_M_truth_19 : decode cd_M_truth 19 = .ok (.goto (-17), 3) := by decide +kernel
theorem dc_M_truth_22 : decode cd_M_truth 22 = .ok (.aload_n 0, 1) := by decide +kernel
theorem dc_M_truth_23 : decode cd_M_truth 23 = .ok (.iload_n 1, 1) := by decide +kernel
theorem dc_M_truth_24 : decode cd_M_truth 24 = .ok (.invokestatic 46, 3) := by decide +kernel
theorem dc_M_truth_27 : decode cd_M_truth 27 = .ok (.ifCond .eq 7, 3) := by decide +kernel
theorem dc_M_truth_30 : decode cd_M_truth 30 = .ok (.iconst 3, 1) := by decide +kernel
theorem dc_M_truth_31 : decode cd_M_truth 31 = .ok (.goto 4, 3) := by decide +kernel
theorem dc_M_truth_34 : decode cd_M_truth 34 = .ok (.iconst 0, 1) := by decide +kernel
theorem dc_M_truth_35 : decode cd_M_truth 35 = .ok (.ireturn, 1) := by decide +kernel
theorem dc_M_negate_0 : decode cd_M_negate 0 = .ok (.iconst 1, 1) := by decide +kernel
theorem dc_M_negate_1 : decode cd_M_negate 1 = .ok (.istore_n 2, 1) := by decide +kernel
theorem dc_M_negate_2 : decode cd_M_negate 2 = .ok (.iconst 0, 1) := by decide +kernel
theorem dc_M_negate_3 : decode cd_M_negate 3 = .ok (.istore_n 3, 1) := by decide +kernel
theorem dc_M_negate_4 : decode cd_M_negate 4 = .ok (.iload_n 3, 1) := by decide +kernel
theorem dc_M_negate_5 : decode cd_M_negate 5 = .ok (.iload_n 1, 1) := by decide +kernel
theorem dc_M_negate_6 : decode cd_M_negate 6 = .ok (.if_icmp .ge 31, 3) := by decide +kernel
theorem dc_M_negate_9 : decode cd_M_negate 9 = .ok (.iconst 1, 1) := by decide +kernel
theorem dc_M_negate_10 : decode cd_M_negate 10 = .ok (.aload_n 0, 1) := by decide +kernel
theorem dc_M_negate_11 : decode cd_M_negate 11 = .ok (.iload_n 3, 1) := by decide +kernel
theorem dc_M_negate_12 : decode cd_M_negate 12 = .ok (.baload, 1) := by decide +kernel
theorem dc_M_negate_13 : decode cd_M_negate 13 = .ok (.isub, 1) := by decide +kernel
theorem dc_M_negate_14 : decode cd_M_negate 14 = .ok (.iload_n 2, 1) := by decide +kernel
theorem dc_M_negate_15 : decode cd_M_negate 15 = .ok (.iadd, 1) := by decide +kernel
theorem dc_M_negate_16 : decode cd_M_negate 16 = .ok (.istore 4, 2) := by decide +kernel
theorem dc_M_negate_18 : decode cd_M_negate 18 = .ok (.aload_n 0, 1) := by decide +kernel
theorem dc_M_negate_19 : decode cd_M_negate 19 = .ok (.iload_n 3, 1) := by decide +kernel
theorem dc_M_negate_20 : decode cd_M_negate 20 = .ok (.iload 4, 2) := by decide +kernel
theorem dc_M_negate_22 : decode cd_M_negate 22 = .ok (.iconst 1, 1) := by decide +kernel
theorem dc_M_negate_23 : decode cd_M_negate 23 = .ok (.iand, 1) := by decide +kernel
theorem dc_M_negate_24 : decode cd_M_negate 24 = .ok (.i2b, 1) := by decide +kernel
theorem dc_M_negate_25 : decode cd_M_negate 25 = .ok (.bastore, 1) := by decide +kernel
theorem dc_M_negate_26 : decode cd_M_negate 26 = .ok (.iload 4, 2) := by decide +kernel
theorem dc_M_negate_28 : decode cd_M_negate 28 = .ok (.iconst 1, 1) := by decide +kernel
theorem dc_M_negate_29 : decode cd_M_negate 29 = .ok (.ishr, 1) := by decide +kernel
theorem dc_M_negate_30 : decode cd_M_negate 30 = .ok (.istore_n 2, 1) := by decide +kernel
theorem dc_M_negate_31 : decode cd_M_negate 31 = .ok (.iinc 3 1, 3) := by decide +kernel
theorem dc_M_negate_34 : decode cd_M_negate 34 = .ok (.goto (-30), 3) := by decide +kernel
theorem dc_M_negate_37 : decode cd_M_negate 37 = .ok (.return_, 1) := by decide +kernel
theorem dc_M_isZero_0 : decode cd_M_isZero 0 = .ok (.iconst 0, 1) := by decide +kernel
theorem dc_M_isZero_1 : decode cd_M_isZero 1 = .ok (.istore_n 2, 1) := by decide +kernel
theorem dc_M_isZero_2 : decode cd_M_isZero 2 = .ok (.iload_n 2, 1) := by decide +kernel
theorem dc_M_isZero_3 : decode cd_M_isZero 3 = .ok (.iload_n 1, 1) := by decide +kernel
theorem dc_M_isZero_4 : decode cd_M_isZero 4 = .ok (.if_icmp .ge 17, 3) := by decide +kernel
theorem dc_M_isZero_7 : decode cd_M_isZero 7 = .ok (.aload_n 0, 1) := by decide +kernel
theorem dc_M_isZero_8 : decode cd_M_isZero 8 = .ok (.iload_n 2, 1) := by decide +kernel
theorem dc_M_isZero_9 : decode cd_M_isZero 9 = .ok (.baload, 1) := by decide +kernel
theorem dc_M_isZero_10 : decode cd_M_isZero 10 = .ok (.ifCond .eq 5, 3) := by decide +kernel
theorem dc_M_isZero_13 : decode cd_M_isZero 13 = .ok (.iconst 0, 1) := by decide +kernel
theorem dc_M_isZero_14 : decode cd_M_isZero 14 = .ok (.ireturn, 1) := by decide +kernel
theorem dc_M_isZero_15 : decode cd_M_isZero 15 = .ok (.iinc 2 1, 3) := by decide +kernel
theorem dc_M_isZero_18 : decode cd_M_isZero 18 = .ok (.goto (-16), 3) := by decide +kernel
theorem dc_M_isZero_21 : decode cd_M_isZero 21 = .ok (.iconst 1, 1) := by decide +kernel
theorem dc_M_isZero_22 : decode cd_M_isZero 22 = .ok (.ireturn, 1) := by decide +kernel
theorem dc_M_add_0 : decode cd_M_add 0 = .ok (.iload 4, 2) := by decide +kernel
theorem dc_M_add_2 : decode cd_M_add 2 = .ok (.istore 5, 2) := by decide +kernel
theorem dc_M_add_4 : decode cd_M_add 4 = .ok (.iconst 0, 1) := by decide +kernel
theorem dc_M_add_5 : decode cd_M_add 5 = .ok (.istore 6, 2) := by decide +kernel
theorem dc_M_add_7 : decode cd_M_add 7 = .ok (.iload 6, 2) := by decide +kernel
theorem dc_M_add_9 : decode cd_M_add 9 = .ok (.iload_n 3, 1) := by decide +kernel
theorem dc_M_add_10 : decode cd_M_add 10 = .ok (.if_icmp .ge 38, 3) := by decide +kernel
theorem dc_M_add_13 : decode cd_M_add 13 = .ok (.aload_n 0, 1) := by decide +kernel
theorem dc_M_add_14 : decode cd_M_add 14 = .ok (.iload 6, 2) := by decide +kernel
theorem dc_M_add_16 : decode cd_M_add 16 = .ok (.baload, 1) := by decide +kernel
theorem dc_M_add_17 : decode cd_M_add 17 = .ok (.aload_n 1, 1) := by decide +kernel
theorem dc_M_add_18 : decode cd_M_add 18 = .ok (.iload 6, 2) := by decide +kernel
theorem dc_M_add_20 : decode cd_M_add 20 = .ok (.baload, 1) := by decide +kernel
theorem dc_M_add_21 : decode cd_M_add 21 = .ok (.iadd, 1) := by decide +kernel
theorem dc_M_add_22 : decode cd_M_add 22 = .ok (.iload 5, 2) := by decide +kernel
theorem dc_M_add_24 : decode cd_M_add 24 = .ok (.iadd, 1) := by decide +kernel
theorem dc_M_add_25 : decode cd_M_add 25 = .ok (.istore 7, 2) := by decide +kernel
theorem dc_M_add_27 : decode cd_M_add 27 = .ok (.aload_n 2, 1) := by decide +kernel
theorem dc_M_add_28 : decode cd_M_add 28 = .ok (.iload 6, 2) := by decide +kernel
theorem dc_M_add_30 : decode cd_M_add 30 = .ok (.iload 7, 2) := by decide +kernel
theorem dc_M_add_32 : decode cd_M_add 32 = .ok (.iconst 1, 1) := by decide +kernel
theorem dc_M_add_33 : decode cd_M_add 33 = .ok (.iand, 1) := by decide +kernel
theorem dc_M_add_34 : decode cd_M_add 34 = .ok (.i2b, 1) := by decide +kernel
theorem dc_M_add_35 : decode cd_M_add 35 = .ok (.bastore, 1) := by decide +kernel
theorem dc_M_add_36 : decode cd_M_add 36 = .ok (.iload 7, 2) := by decide +kernel
theorem dc_M_add_38 : decode cd_M_add 38 = .ok (.iconst 1, 1) := by decide +kernel
theorem dc_M_add_39 : decode cd_M_add 39 = .ok (.ishr, 1) := by decide +kernel
theorem dc_M_add_40 : decode cd_M_add 40 = .ok (.istore 5, 2) := by decide +kernel
theorem dc_M_add_42 : decode cd_M_add 42 = .ok (.iinc 6 1, 3) := by decide +kernel
theorem dc_M_add_45 : decode cd_M_add 45 = .ok (.goto (-38), 3) := by decide +kernel
theorem dc_M_add_48 : decode cd_M_add 48 = .ok (.return_, 1) := by decide +kernel
theorem dc_M_opposite_0 : decode cd_M_opposite 0 = .ok (.iload_n 0, 1) := by decide +kernel
theorem dc_M_opposite_1 : decode cd_M_opposite 1 = .ok (.iconst 1, 1) := by decide +kernel
theorem dc_M_opposite_2 : decode cd_M_opposite 2 = .ok (.if_icmp .le 7, 3) := by decide +kernel
theorem dc_M_opposite_5 : decode cd_M_opposite 5 = .ok (.iconst 3, 1) := by decide +kernel
theorem dc_M_opposite_6 : decode cd_M_opposite 6 = .ok (.goto 6, 3) := by decide +kernel
theorem dc_M_opposite_9 : decode cd_M_opposite 9 = .ok (.iconst 1, 1) := by decide +kernel
theorem dc_M_opposite_10 : decode cd_M_opposite 10 = .ok (.iload_n 0, 1) := by decide +kernel
theorem dc_M_opposite_11 : decode cd_M_opposite 11 = .ok (.isub, 1) := by decide +kernel
theorem dc_M_opposite_12 : decode cd_M_opposite 12 = .ok (.ireturn, 1) := by decide +kernel
theorem dc_M_logic_0 : decode cd_M_logic 0 = .ok (.iload_n 1, 1) := by decide +kernel
theorem dc_M_logic_1 : decode cd_M_logic 1 = .ok (.iconst 1, 1) := by decide +kernel
theorem dc_M_logic_2 : decode cd_M_logic 2 = .ok (.if_icmp .gt 8, 3) := by decide +kernel
theorem dc_M_logic_5 : decode cd_M_logic 5 = .ok (.iload_n 2, 1) := by decide +kernel
theorem dc_M_logic_6 : decode cd_M_logic 6 = .ok (.iconst 1, 1) := by decide +kernel
theorem dc_M_logic_7 : decode cd_M_logic 7 = .ok (.if_icmp .le 7, 3) := by decide +kernel
theorem dc_M_logic_10 : decode cd_M_logic 10 = .ok (.iconst 1, 1) := by decide +kernel
theorem dc_M_logic_11 : decode cd_M_logic 11 = .ok (.goto 4, 3) := by decide +kernel
theorem dc_M_logic_14 : decode cd_M_logic 14 = .ok (.iconst 0, 1) := by decide +kernel
theorem dc_M_logic_15 : decode cd_M_logic 15 = .ok (.istore_n 3, 1) := by decide +kernel
theorem dc_M_logic_16 : decode cd_M_logic 16 = .ok (.iload_n 0, 1) := by decide +kernel
theorem dc_M_logic_17 : decode cd_M_logic 17 = .ok (.iconst 5, 1) := by decide +kernel
theorem dc_M_logic_18 : decode cd_M_logic 18 = .ok (.if_icmp .ne 25, 3) := by decide +kernel
theorem dc_M_logic_21 : decode cd_M_logic 21 = .ok (.iload_n 1, 1) := by decide +kernel
theorem dc_M_logic_22 : decode cd_M_logic 22 = .ok (.ifCond .eq 7, 3) := by decide +kernel
theorem dc_M_logic_25 : decode cd_M_logic 25 = .ok (.iload_n 2, 1) := by decide +kernel
theorem dc_M_logic_26 : decode cd_M_logic 26 = .ok (.ifCond .ne 7, 3) := by decide +kernel
theorem dc_M_logic_29 : decode cd_M_logic 29 = .ok (.iconst 0, 1) := by decide +kernel
theorem dc_M_logic_30 : decode cd_M_logic 30 = .ok (.goto 12, 3) := by decide +kernel
theorem dc_M_logic_33 : decode cd_M_logic 33 = .ok (.iload_n 3, 1) := by decide +kernel
theorem dc_M_logic_34 : decode cd_M_logic 34 = .ok (.ifCond .eq 7, 3) := by decide +kernel
theorem dc_M_logic_37 : decode cd_M_logic 37 = .ok (.iconst 3, 1) := by decide +kernel
theorem dc_M_logic_38 : decode cd_M_logic 38 = .ok (.goto 4, 3) := by decide +kernel
theorem dc_M_logic_41 : decode cd_M_logic 41 = .ok (.iconst 1, 1) := by decide +kernel
theorem dc_M_logic_42 : decode cd_M_logic 42 = .ok (.ireturn, 1) := by decide +kernel
theorem dc_M_logic_43 : decode cd_M_logic 43 = .ok (.iload_n 0, 1) := by decide +kernel
theorem dc_M_logic_44 : decode cd_M_logic 44 = .ok (.bipush 6, 2) := by decide +kernel
theorem dc_M_logic_46 : decode cd_M_logic 46 = .ok (.if_icmp .ne 27, 3) := by decide +kernel
theorem dc_M_logic_49 : decode cd_M_logic 49 = .ok (.iload_n 1, 1) := by decide +kernel
theorem dc_M_logic_50 : decode cd_M_logic 50 = .ok (.iconst 1, 1) := by decide +kernel
theorem dc_M_logic_51 : decode cd_M_logic 51 = .ok (.if_icmp .eq 8, 3) := by decide +kernel
theorem dc_M_logic_54 : decode cd_M_logic 54 = .ok (.iload_n 2, 1) := by decide +kernel
theorem dc_M_logic_55 : decode cd_M_logic 55 = .ok (.iconst 1, 1) := by decide +kernel
theorem dc_M_logic_56 : decode cd_M_logic 56 = .ok (.if_icmp .ne 7, 3) := by decide +kernel
theorem dc_M_logic_59 : decode cd_M_logic 59 = .ok (.iconst 1, 1) := by decide +kernel
theorem dc_M_logic_60 : decode cd_M_logic 60 = .ok (.goto 12, 3) := by decide +kernel
theorem dc_M_logic_63 : decode cd_M_logic 63 = .ok (.iload_n 3, 1) := by decide +kernel
theorem dc_M_logic_64 : decode cd_M_logic 64 = .ok (.ifCond .eq 7, 3) := by decide +kernel
theorem dc_M_logic_67 : decode cd_M_logic 67 = .ok (.iconst 3, 1) := by decide +kernel
theorem dc_M_logic_68 : decode cd_M_logic 68 = .ok (.goto 4, 3) := by decide +kernel
theorem dc_M_logic_71 : decode cd_M_logic 71 = .ok (.iconst 0, 1) := by decide +kernel
theorem dc_M_logic_72 : decode cd_M_logic 72 = .ok (.ireturn, 1) := by decide +kernel
theorem dc_M_logic_73 : decode cd_M_logic 73 = .ok (.iload_n 3, 1) := by decide +kernel
theorem dc_M_logic_74 : decode cd_M_logic 74 = .ok (.ifCond .eq 7, 3) := by decide +kernel
theorem dc_M_logic_77 : decode cd_M_logic 77 = .ok (.iconst 3, 1) := by decide +kernel
theorem dc_M_logic_78 : decode cd_M_logic 78 = .ok (.goto 20, 3) := by decide +kernel
theorem dc_M_logic_81 : decode cd_M_logic 81 = .ok (.iload_n 0, 1) := by decide +kernel
theorem dc_M_logic_82 : decode cd_M_logic 82 = .ok (.bipush 7, 2) := by decide +kernel
theorem dc_M_logic_84 : decode cd_M_logic 84 = .ok (.if_icmp .ne 9, 3) := by decide +kernel
theorem dc_M_logic_87 : decode cd_M_logic 87 = .ok (.iload_n 1, 1) := by decide +kernel
theorem dc_M_logic_88 : decode cd_M_logic 88 = .ok (.iload_n 2, 1) := by decide +kernel
theorem dc_M_logic_89 : decode cd_M_logic 89 = .ok (.ixor, 1) := by decide +kernel
theorem dc_M_logic_90 : decode cd_M_logic 90 = .ok (.goto 8, 3) := by decide +kernel
theorem dc_M_logic_93 : decode cd_M_logic 93 = .ok (.iconst 1, 1) := by decide +kernel
theorem dc_M_logic_94 : decode cd_M_logic 94 = .ok (.iload_n 1, 1) := by decide +kernel
theorem dc_M_logic_95 : decode cd_M_logic 95 = .ok (.iload_n 2, 1) := by decide +kernel
theorem dc_M_logic_96 : decode cd_M_logic 96 = .ok (.ixor, 1) := by decide +kernel
theorem dc_M_logic_97 : decode cd_M_logic 97 = .ok (.isub, 1) := by decide +kernel
theorem dc_M_logic_98 : decode cd_M_logic 98 = .ok (.ireturn, 1) := by decide +kernel
theorem dc_M_decimal_0 : decode cd_M_decimal 0 = .ok (.iconst 1, 1) := by decide +kernel
theorem dc_M_decimal_1 : decode cd_M_decimal 1 = .ok (.istore 4, 2) := by decide +kernel
theorem dc_M_decimal_3 : decode cd_M_decimal 3 = .ok (.iconst 0, 1) := by decide +kernel
theorem dc_M_decimal_4 : decode cd_M_decimal 4 = .ok (.istore 5, 2) := by decide +kernel
theorem dc_M_decimal_6 : decode cd_M_decimal 6 = .ok (.iload 5, 2) := by decide +kernel
theorem dc_M_decimal_8 : decode cd_M_decimal 8 = .ok (.bipush 24, 2) := by decide +kernel
theorem dc_M_decimal_10 : decode cd_M_decimal 10 = .ok (.if_icmp .ge 14, 3) := by decide +kernel
theorem dc_M_decimal_13 : decode cd_M_decimal 13 = .ok (.aload_n 3, 1) := by decide +kernel
theorem dc_M_decimal_14 : decode cd_M_decimal 14 = .ok (.iload 5, 2) := by decide +kernel
theorem dc_M_decimal_16 : decode cd_M_decimal 16 = .ok (.iconst 0, 1) := by decide +kernel
theorem dc_M_decimal_17 : decode cd_M_decimal 17 = .ok (.bastore, 1) := by decide +kernel
theorem dc_M_decimal_18 : decode cd_M_decimal 18 = .ok (.iinc 5 1, 3) := by decide +kernel
theorem dc_M_decimal_21 : decode cd_M_decimal 21 = .ok (.goto (-15), 3) := by decide +kernel
theorem dc_M_decimal_24 : decode cd_M_decimal 24 = .ok (.iload_n 2, 1) := by decide +kernel
theorem dc_M_decimal_25 : decode cd_M_decimal 25 = .ok (.iconst 1, 1) := by decide +kernel
theorem dc_M_decimal_26 : decode cd_M_decimal 26 = .ok (.isub, 1) := by decide +kernel
theorem dc_M_decimal_27 : decode cd_M_decimal 27 = .ok (.istore 5, 2) := by decide +kernel
theorem dc_M_decimal_29 : decode cd_M_decimal 29 = .ok (.iload 5, 2) := by decide +kernel
theorem dc_M_decimal_31 : decode cd_M_decimal 31 = .ok (.ifCond .lt 59, 3) := by decide +kernel
theorem dc_M_decimal_34 : decode cd_M_decimal 34 = .ok (.aload_n 1, 1) := by decide +kernel
theorem dc_M_decimal_35 : decode cd_M_decimal 35 = .ok (.iload 5, 2) := by decide +kernel
theorem dc_M_decimal_37 : decode cd_M_decimal 37 = .ok (.baload, 1) := by decide +kernel
theorem dc_M_decimal_38 : decode cd_M_decimal 38 = .ok (.istore 6, 2) := by decide +kernel
theorem dc_M_decimal_40 : decode cd_M_decimal 40 = .ok (.iconst 0, 1) := by decide +kernel
theorem dc_M_decimal_41 : decode cd_M_decimal 41 = .ok (.istore 7, 2) := by decide +kernel
theorem dc_M_decimal_43 : decode cd_M_decimal 43 = .ok (.iload 7, 2) := by decide +kernel
theorem dc_M_decimal_45 : decode cd_M_decimal 45 = .ok (.bipush 24, 2) := by decide +kernel
theorem dc_M_decimal_47 : decode cd_M_decimal 47 = .ok (.if_icmp .ge 37, 3) := by decide +kernel
theorem dc_M_decimal_50 : decode cd_M_decimal 50 = .ok (.iconst 2, 1) := by decide +kernel
theorem dc_M_decimal_51 : decode cd_M_decimal 51 = .ok (.aload_n 3, 1) := by decide +kernel
theorem dc_M_decimal_52 : decode cd_M_decimal 52 = .ok (.iload 7, 2) := by decide +kernel
theorem dc_M_decimal_54 : decode cd_M_decimal 54 = .ok (.baload, 1) := by decide +kernel
theorem dc_M_decimal_55 : decode cd_M_decimal 55 = .ok (.imul, 1) := by decide +kernel
theorem dc_M_decimal_56 : decode cd_M_decimal 56 = .ok (.iload 6, 2) := by decide +kernel
theorem dc_M_decimal_58 : decode cd_M_decimal 58 = .ok (.iadd, 1) := by decide +kernel
theorem dc_M_decimal_59 : decode cd_M_decimal 59 = .ok (.istore 8, 2) := by decide +kernel
theorem dc_M_decimal_61 : decode cd_M_decimal 61 = .ok (.aload_n 3, 1) := by decide +kernel
theorem dc_M_decimal_62 : decode cd_M_decimal 62 = .ok (.iload 7, 2) := by decide +kernel
theorem dc_M_decimal_64 : decode cd_M_decimal 64 = .ok (.iload 8, 2) := by decide +kernel
theorem dc_M_decimal_66 : decode cd_M_decimal 66 = .ok (.bipush 10, 2) := by decide +kernel
theorem dc_M_decimal_68 : decode cd_M_decimal 68 = .ok (.irem, 1) := by decide +kernel
theorem dc_M_decimal_69 : decode cd_M_decimal 69 = .ok (.i2b, 1) := by decide +kernel
theorem dc_M_decimal_70 : decode cd_M_decimal 70 = .ok (.bastore, 1) := by decide +kernel
theorem dc_M_decimal_71 : decode cd_M_decimal 71 = .ok (.iload 8, 2) := by decide +kernel
theorem dc_M_decimal_73 : decode cd_M_decimal 73 = .ok (.bipush 10, 2) := by decide +kernel
theorem dc_M_decimal_75 : decode cd_M_decimal 75 = .ok (.idiv, 1) := by decide +kernel
theorem dc_M_decimal_76 : decode cd_M_decimal 76 = .ok (.istore 6, 2) := by decide +kernel
theorem dc_M_decimal_78 : decode cd_M_decimal 78 = .ok (.iinc 7 1, 3) := by decide +kernel
theorem dc_M_decimal_81 : decode cd_M_decimal 81 = .ok (.goto (-38), 3) := by decide +kernel
theorem dc_M_decimal_84 : decode cd_M_decimal 84 = .ok (.iinc 5 (-1), 3) := by decide +kernel
theorem dc_M_decimal_87 : decode cd_M_decimal 87 = .ok (.goto (-58), 3) := by decide +kernel
theorem dc_M_decimal_90 : decode cd_M_decimal 90 = .ok (.iconst 0, 1) := by decide +kernel
theorem dc_M_decimal_91 : decode cd_M_decimal 91 = .ok (.istore 5, 2) := by decide +kernel
theorem dc_M_decimal_93 : decode cd_M_decimal 93 = .ok (.iload 5, 2) := by decide +kernel
theorem dc_M_decimal_95 : decode cd_M_decimal 95 = .ok (.bipush 24, 2) := by decide +kernel
theorem dc_M_decimal_97 : decode cd_M_decimal 97 = .ok (.if_icmp .ge 22, 3) := by decide +kernel
theorem dc_M_decimal_100 : decode cd_M_decimal 100 = .ok (.aload_n 3, 1) := by decide +kernel
theorem dc_M_decimal_101 : decode cd_M_decimal 101 = .ok (.iload 5, 2) := by decide +kernel
theorem dc_M_decimal_103 : decode cd_M_decimal 103 = .ok (.baload, 1) := by decide +kernel
theorem dc_M_decimal_104 : decode cd_M_decimal 104 = .ok (.ifCond .eq 9, 3) := by decide +kernel
theorem dc_M_decimal_107 : decode cd_M_decimal 107 = .ok (.iload 5, 2) := by decide +kernel
theorem dc_M_decimal_109 : decode cd_M_decimal 109 = .ok (.iconst 1, 1) := by decide +kernel
theorem dc_M_decimal_110 : decode cd_M_decimal 110 = .ok (.iadd, 1) := by decide +kernel
theorem dc_M_decimal_111 : decode cd_M_decimal 111 = .ok (.istore 4, 2) := by decide +kernel
theorem dc_M_decimal_113 : decode cd_M_decimal 113 = .ok (.iinc 5 1, 3) := by decide +kernel
theorem dc_M_decimal_116 : decode cd_M_decimal 116 = .ok (.goto (-23), 3) := by decide +kernel
theorem dc_M_decimal_119 : decode cd_M_decimal 119 = .ok (.iload 4, 2) := by decide +kernel
theorem dc_M_decimal_121 : decode cd_M_decimal 121 = .ok (.ireturn, 1) := by decide +kernel
theorem dc_M_thrown_0 : decode cd_M_thrown 0 = .ok (.aload_n 0, 1) := by decide +kernel
theorem dc_M_thrown_1 : decode cd_M_thrown 1 = .ok (.getfield 39, 3) := by decide +kernel
theorem dc_M_thrown_4 : decode cd_M_thrown 4 = .ok (.ireturn, 1) := by decide +kernel
theorem dc_M_refuse_0 : decode cd_M_refuse 0 = .ok (.aload_n 0, 1) := by decide +kernel
theorem dc_M_refuse_1 : decode cd_M_refuse 1 = .ok (.iload_n 1, 1) := by decide +kernel
theorem dc_M_refuse_2 : decode cd_M_refuse 2 = .ok (.ifCond .eq 7, 3) := by decide +kernel
theorem dc_M_refuse_5 : decode cd_M_refuse 5 = .ok (.iconst 1, 1) := by decide +kernel
theorem dc_M_refuse_6 : decode cd_M_refuse 6 = .ok (.goto 29, 3) := by decide +kernel
theorem dc_M_refuse_9 : decode cd_M_refuse 9 = .ok (.aload_n 0, 1) := by decide +kernel
theorem dc_M_refuse_10 : decode cd_M_refuse 10 = .ok (.getfield 43, 3) := by decide +kernel
theorem dc_M_refuse_13 : decode cd_M_refuse 13 = .ok (.iload_n 2, 1) := by decide +kernel
theorem dc_M_refuse_14 : decode cd_M_refuse 14 = .ok (.if_icmp .lt 16, 3) := by decide +kernel
theorem dc_M_refuse_17 : decode cd_M_refuse 17 = .ok (.aload_n 0, 1) := by decide +kernel
theorem dc_M_refuse_18 : decode cd_M_refuse 18 = .ok (.getfield 43, 3) := by decide +kernel
theorem dc_M_refuse_21 : decode cd_M_refuse 21 = .ok (.iload_n 2, 1) := by decide +kernel
theorem dc_M_refuse_22 : decode cd_M_refuse 22 = .ok (.isub, 1) := by decide +kernel
theorem dc_M_refuse_23 : decode cd_M_refuse 23 = .ok (.iload_n 3, 1) := by decide +kernel
theorem dc_M_refuse_24 : decode cd_M_refuse 24 = .ok (.iadd, 1) := by decide +kernel
theorem dc_M_refuse_25 : decode cd_M_refuse 25 = .ok (.bipush 64, 2) := by decide +kernel
theorem dc_M_refuse_27 : decode cd_M_refuse 27 = .ok (.if_icmp .le 7, 3) := by decide +kernel
theorem dc_M_refuse_30 : decode cd_M_refuse 30 = .ok (.iconst 2, 1) := by decide +kernel
theorem dc_M_refuse_31 : decode cd_M_refuse 31 = .ok (.goto 4, 3) := by decide +kernel
theorem dc_M_refuse_34 : decode cd_M_refuse 34 = .ok (.iconst 0, 1) := by decide +kernel
theorem dc_M_refuse_35 : decode cd_M_refuse 35 = .ok (.putfield 39, 3) := by decide +kernel
theorem dc_M_refuse_38 : decode cd_M_refuse 38 = .ok (.aload_n 0, 1) := by decide +kernel
theorem dc_M_refuse_39 : decode cd_M_refuse 39 = .ok (.getfield 39, 3) := by decide +kernel
theorem dc_M_refuse_42 : decode cd_M_refuse 42 = .ok (.ifCond .le 7, 3) := by decide +kernel
theorem dc_M_refuse_45 : decode cd_M_refuse 45 = .ok (.iconst 1, 1) := by decide +kernel
theorem dc_M_refuse_46 : decode cd_M_refuse 46 = .ok (.goto 4, 3) := by decide +kernel
theorem dc_M_refuse_49 : decode cd_M_refuse 49 = .ok (.iconst 0, 1) := by decide +kernel
theorem dc_M_refuse_50 : decode cd_M_refuse 50 = .ok (.ireturn, 1) := by decide +kernel
theorem dc_M_wider_0 : decode cd_M_wider 0 = .ok (.aload_n 0, 1) := by decide +kernel
theorem dc_M_wider_1 : decode cd_M_wider 1 = .ok (.getfield 13, 3) := by decide +kernel
theorem dc_M_wider_4 : decode cd_M_wider 4 = .ok (.aload_n 0, 1) := by decide +kernel
theorem dc_M_wider_5 : decode cd_M_wider 5 = .ok (.getfield 43, 3) := by decide +kernel
theorem dc_M_wider_8 : decode cd_M_wider 8 = .ok (.iconst 1, 1) := by decide +kernel
theorem dc_M_wider_9 : decode cd_M_wider 9 = .ok (.isub, 1) := by decide +kernel
theorem dc_M_wider_10 : decode cd_M_wider 10 = .ok (.iaload, 1) := by decide +kernel
theorem dc_M_wider_11 : decode cd_M_wider 11 = .ok (.aload_n 0, 1) := by decide +kernel
theorem dc_M_wider_12 : decode cd_M_wider 12 = .ok (.getfield 13, 3) := by decide +kernel
theorem dc_M_wider_15 : decode cd_M_wider 15 = .ok (.aload_n 0, 1) := by decide +kernel
theorem dc_M_wider_16 : decode cd_M_wider 16 = .ok (.getfield 43, 3) := by decide +kernel
theorem dc_M_wider_19 : decode cd_M_wider 19 = .ok (.iconst 2, 1) := by decide +kernel
theorem dc_M_wider_20 : decode cd_M_wider 20 = .ok (.isub, 1) := by decide +kernel
theorem dc_M_wider_21 : decode cd_M_wider 21 = .ok (.iaload, 1) := by decide +kernel
theorem dc_M_wider_22 : decode cd_M_wider 22 = .ok (.if_icmp .le 17, 3) := by decide +kernel
theorem dc_M_wider_25 : decode cd_M_wider 25 = .ok (.aload_n 0, 1) := by decide +kernel
theorem dc_M_wider_26 : decode cd_M_wider 26 = .ok (.getfield 13, 3) := by decide +kernel
theorem dc_M_wider_29 : decode cd_M_wider 29 = .ok (.aload_n 0, 1) := by decide +kernel
theorem dc_M_wider_30 : decode cd_M_wider 30 = .ok (.getfield 43, 3) := by decide +kernel
theorem dc_M_wider_33 : decode cd_M_wider 33 = .ok (.iconst 1, 1) := by decide +kernel
theorem dc_M_wider_34 : decode cd_M_wider 34 = .ok (.isub, 1) := by decide +kernel
theorem dc_M_wider_35 : decode cd_M_wider 35 = .ok (.iaload, 1) := by decide +kernel
theorem dc_M_wider_36 : decode cd_M_wider 36 = .ok (.goto 14, 3) := by decide +kernel
theorem dc_M_wider_39 : decode cd_M_wider 39 = .ok (.aload_n 0, 1) := by decide +kernel
theorem dc_M_wider_40 : decode cd_M_wider 40 = .ok (.getfield 13, 3) := by decide +kernel
theorem dc_M_wider_43 : decode cd_M_wider 43 = .ok (.aload_n 0, 1) := by decide +kernel
theorem dc_M_wider_44 : decode cd_M_wider 44 = .ok (.getfield 43, 3) := by decide +kernel
theorem dc_M_wider_47 : decode cd_M_wider 47 = .ok (.iconst 2, 1) := by decide +kernel
theorem dc_M_wider_48 : decode cd_M_wider 48 = .ok (.isub, 1) := by decide +kernel
theorem dc_M_wider_49 : decode cd_M_wider 49 = .ok (.iaload, 1) := by decide +kernel
theorem dc_M_wider_50 : decode cd_M_wider 50 = .ok (.ireturn, 1) := by decide +kernel
theorem dc_M_give_0 : decode cd_M_give 0 = .ok (.iconst 0, 1) := by decide +kernel
theorem dc_M_give_1 : decode cd_M_give 1 = .ok (.istore 4, 2) := by decide +kernel
theorem dc_M_give_3 : decode cd_M_give 3 = .ok (.iload 4, 2) := by decide +kernel
theorem dc_M_give_5 : decode cd_M_give 5 = .ok (.iload_n 2, 1) := by decide +kernel
theorem dc_M_give_6 : decode cd_M_give 6 = .ok (.if_icmp .ge 28, 3) := by decide +kernel
theorem dc_M_give_9 : decode cd_M_give 9 = .ok (.aload_n 0, 1) := by decide +kernel
theorem dc_M_give_10 : decode cd_M_give 10 = .ok (.getfield 7, 3) := by decide +kernel
theorem dc_M_give_13 : decode cd_M_give 13 = .ok (.bipush 64, 2) := by decide +kernel
theorem dc_M_give_15 : decode cd_M_give 15 = .ok (.aload_n 0, 1) := by decide +kernel
theorem dc_M_give_16 : decode cd_M_give 16 = .ok (.getfield 43, 3) := by decide +kernel
theorem dc_M_give_19 : decode cd_M_give 19 = .ok (.imul, 1) := by decide +kernel
theorem dc_M_give_20 : decode cd_M_give 20 = .ok (.iload 4, 2) := by decide +kernel
theorem dc_M_give_22 : decode cd_M_give 22 = .ok (.iadd, 1) := by decide +kernel
theorem dc_M_give_23 : decode cd_M_give 23 = .ok (.aload_n 1, 1) := by decide +kernel
theorem dc_M_give_24 : decode cd_M_give 24 = .ok (.iload 4, 2) := by decide +kernel
theorem dc_M_give_26 : decode cd_M_give 26 = .ok (.baload, 1) := by decide +kernel
theorem dc_M_give_27 : decode cd_M_give 27 = .ok (.bastore, 1) := by decide +kernel
theorem dc_M_give_28 : decode cd_M_give 28 = .ok (.iinc 4 1, 3) := by decide +kernel
theorem dc_M_give_31 : decode cd_M_give 31 = .ok (.goto (-28), 3) := by decide +kernel
theorem dc_M_give_34 : decode cd_M_give 34 = .ok (.aload_n 0, 1) := by decide +kernel
theorem dc_M_give_35 : decode cd_M_give 35 = .ok (.getfield 13, 3) := by decide +kernel
theorem dc_M_give_38 : decode cd_M_give 38 = .ok (.aload_n 0, 1) := by decide +kernel
theorem dc_M_give_39 : decode cd_M_give 39 = .ok (.getfield 43, 3) := by decide +kernel
theorem dc_M_give_42 : decode cd_M_give 42 = .ok (.iload_n 2, 1) := by decide +kernel
theorem dc_M_give_43 : decode cd_M_give 43 = .ok (.iastore, 1) := by decide +kernel
theorem dc_M_give_44 : decode cd_M_give 44 = .ok (.aload_n 0, 1) := by decide +kernel
theorem dc_M_give_45 : decode cd_M_give 45 = .ok (.getfield 17, 3) := by decide +kernel
theorem dc_M_give_48 : decode cd_M_give 48 = .ok (.aload_n 0, 1) := by decide +kernel
theorem dc_M_give_49 : decode cd_M_give 49 = .ok (.getfield 43, 3) := by decide +kernel
theorem dc_M_give_52 : decode cd_M_give 52 = .ok (.iload_n 3, 1) := by decide +kernel
theorem dc_M_give_53 : decode cd_M_give 53 = .ok (.bastore, 1) := by decide +kernel
theorem dc_M_give_54 : decode cd_M_give 54 = .ok (.aload_n 0, 1) := by decide +kernel
theorem dc_M_give_55 : decode cd_M_give 55 = .ok (.dup, 1) := by decide +kernel
theorem dc_M_give_56 : decode cd_M_give 56 = .ok (.getfield 43, 3) := by decide +kernel
theorem dc_M_give_59 : decode cd_M_give 59 = .ok (.iconst 1, 1) := by decide +kernel
theorem dc_M_give_60 : decode cd_M_give 60 = .ok (.iadd, 1) := by decide +kernel
theorem dc_M_give_61 : decode cd_M_give 61 = .ok (.putfield 43, 3) := by decide +kernel
theorem dc_M_give_64 : decode cd_M_give 64 = .ok (.return_, 1) := by decide +kernel
theorem dc_M_take_0 : decode cd_M_take 0 = .ok (.iconst 0, 1) := by decide +kernel
theorem dc_M_take_1 : decode cd_M_take 1 = .ok (.istore 5, 2) := by decide +kernel
theorem dc_M_take_3 : decode cd_M_take 3 = .ok (.iload 5, 2) := by decide +kernel
theorem dc_M_take_5 : decode cd_M_take 5 = .ok (.iload_n 3, 1) := by decide +kernel
theorem dc_M_take_6 : decode cd_M_take 6 = .ok (.if_icmp .ge 66, 3) := by decide +kernel
theorem dc_M_take_9 : decode cd_M_take 9 = .ok (.aload_n 2, 1) := by decide +kernel
theorem dc_M_take_10 : decode cd_M_take 10 = .ok (.iload 5, 2) := by decide +kernel
theorem dc_M_take_12 : decode cd_M_take 12 = .ok (.iload 5, 2) := by decide +kernel
theorem dc_M_take_14 : decode cd_M_take 14 = .ok (.aload_n 0, 1) := by decide +kernel
theorem dc_M_take_15 : decode cd_M_take 15 = .ok (.getfield 13, 3) := by decide +kernel
theorem dc_M_take_18 : decode cd_M_take 18 = .ok (.iload_n 1, 1) := by decide +kernel
theorem dc_M_take_19 : decode cd_M_take 19 = .ok (.iaload, 1) := by decide +kernel
theorem dc_M_take_20 : decode cd_M_take 20 = .ok (.if_icmp .ge 18, 3) := by decide +kernel
theorem dc_M_take_23 : decode cd_M_take 23 = .ok (.aload_n 0, 1) := by decide +kernel
theorem dc_M_take_24 : decode cd_M_take 24 = .ok (.getfield 7, 3) := by decide +kernel
theorem dc_M_take_27 : decode cd_M_take 27 = .ok (.bipush 64, 2) := by decide +kernel
theorem dc_M_take_29 : decode cd_M_take 29 = .ok (.iload_n 1, 1) := by decide +kernel
theorem dc_M_take_30 : decode cd_M_take 30 = .ok (.imul, 1) := by decide +kernel
theorem dc_M_take_31 : decode cd_M_take 31 = .ok (.iload 5, 2) := by decide +kernel
theorem dc_M_take_33 : decode cd_M_take 33 = .ok (.iadd, 1) := by decide +kernel
theorem dc_M_take_34 : decode cd_M_take 34 = .ok (.baload, 1) := by decide +kernel
theorem dc_M_take_35 : decode cd_M_take 35 = .ok (.goto 30, 3) := by decide +kernel
theorem dc_M_take_38 : decode cd_M_take 38 = .ok (.iload 4, 2) := by decide +kernel
theorem dc_M_take_40 : decode cd_M_take 40 = .ok (.ifCond .eq 24, 3) := by decide +kernel
theorem dc_M_take_43 : decode cd_M_take 43 = .ok (.aload_n 0, 1) := by decide +kernel
theorem dc_M_take_44 : decode cd_M_take 44 = .ok (.getfield 7, 3) := by decide +kernel
theorem dc_M_take_47 : decode cd_M_take 47 = .ok (.bipush 64, 2) := by decide +kernel
theorem dc_M_take_49 : decode cd_M_take 49 = .ok (.iload_n 1, 1) := by decide +kernel
theorem dc_M_take_50 : decode cd_M_take 50 = .ok (.imul, 1) := by decide +kernel
theorem dc_M_take_51 : decode cd_M_take 51 = .ok (.aload_n 0, 1) := by decide +kernel
theorem dc_M_take_52 : decode cd_M_take 52 = .ok (.getfield 13, 3) := by decide +kernel
theorem dc_M_take_55 : decode cd_M_take 55 = .ok (.iload_n 1, 1) := by decide +kernel
theorem dc_M_take_56 : decode cd_M_take 56 = .ok (.iaload, 1) := by decide +kernel
theorem dc_M_take_57 : decode cd_M_take 57 = .ok (.iadd, 1) := by decide +kernel
theorem dc_M_take_58 : decode cd_M_take 58 = .ok (.iconst 1, 1) := by decide +kernel
theorem dc_M_take_59 : decode cd_M_take 59 = .ok (.isub, 1) := by decide +kernel
theorem dc_M_take_60 : decode cd_M_take 60 = .ok (.baload, 1) := by decide +kernel
theorem dc_M_take_61 : decode cd_M_take 61 = .ok (.goto 4, 3) := by decide +kernel
theorem dc_M_take_64 : decode cd_M_take 64 = .ok (.iconst 0, 1) := by decide +kernel
theorem dc_M_take_65 : decode cd_M_take 65 = .ok (.bastore, 1) := by decide +kernel
theorem dc_M_take_66 : decode cd_M_take 66 = .ok (.iinc 5 1, 3) := by decide +kernel
theorem dc_M_take_69 : decode cd_M_take 69 = .ok (.goto (-66), 3) := by decide +kernel
theorem dc_M_take_72 : decode cd_M_take 72 = .ok (.return_, 1) := by decide +kernel
theorem dc_M_bring_0 : decode cd_M_bring 0 = .ok (.aload_n 0, 1) := by decide +kernel
theorem dc_M_bring_1 : decode cd_M_bring 1 = .ok (.aload_n 0, 1) := by decide +kernel
theorem dc_M_bring_2 : decode cd_M_bring 2 = .ok (.getfield 43, 3) := by decide +kernel
theorem dc_M_bring_5 : decode cd_M_bring 5 = .ok (.iconst 2, 1) := by decide +kernel
theorem dc_M_bring_6 : decode cd_M_bring 6 = .ok (.isub, 1) := by decide +kernel
theorem dc_M_bring_7 : decode cd_M_bring 7 = .ok (.aload_n 0, 1) := by decide +kernel
theorem dc_M_bring_8 : decode cd_M_bring 8 = .ok (.getfield 21, 3) := by decide +kernel
theorem dc_M_bring_11 : decode cd_M_bring 11 = .ok (.iload_n 2, 1) := by decide +kernel
theorem dc_M_bring_12 : decode cd_M_bring 12 = .ok (.iload_n 1, 1) := by decide +kernel
theorem dc_M_bring_13 : decode cd_M_bring 13 = .ok (.invokevirtual 50, 3) := by decide +kernel
theorem dc_M_bring_16 : decode cd_M_bring 16 = .ok (.aload_n 0, 1) := by decide +kernel
theorem dc_M_bring_17 : decode cd_M_bring 17 = .ok (.aload_n 0, 1) := by decide +kernel
theorem dc_M_bring_18 : decode cd_M_bring 18 = .ok (.getfield 43, 3) := by decide +kernel
theorem dc_M_bring_21 : decode cd_M_bring 21 = .ok (.iconst 1, 1) := by decide +kernel
theorem dc_M_bring_22 : decode cd_M_bring 22 = .ok (.isub, 1) := by decide +kernel
theorem dc_M_bring_23 : decode cd_M_bring 23 = .ok (.aload_n 0, 1) := by decide +kernel
theorem dc_M_bring_24 : decode cd_M_bring 24 = .ok (.getfield 24, 3) := by decide +kernel
theorem dc_M_bring_27 : decode cd_M_bring 27 = .ok (.iload_n 2, 1) := by decide +kernel
theorem dc_M_bring_28 : decode cd_M_bring 28 = .ok (.iload_n 1, 1) := by decide +kernel
theorem dc_M_bring_29 : decode cd_M_bring 29 = .ok (.invokevirtual 50, 3) := by decide +kernel
theorem dc_M_bring_32 : decode cd_M_bring 32 = .ok (.return_, 1) := by decide +kernel
theorem dc_M_multiply_0 : decode cd_M_multiply 0 = .ok (.aload_n 0, 1) := by decide +kernel
theorem dc_M_multiply_1 : decode cd_M_multiply 1 = .ok (.getfield 27, 3) := by decide +kernel
theorem dc_M_multiply_4 : decode cd_M_multiply 4 = .ok (.iload_n 1, 1) := by decide +kernel
theorem dc_M_multiply_5 : decode cd_M_multiply 5 = .ok (.iconst 0, 1) := by decide +kernel
theorem dc_M_multiply_6 : decode cd_M_multiply 6 = .ok (.invokestatic 64, 3) := by decide +kernel
theorem dc_M_multiply_9 : decode cd_M_multiply 9 = .ok (.iconst 0, 1) := by decide +kernel
theorem dc_M_multiply_10 : decode cd_M_multiply 10 = .ok (.istore_n 2, 1) := by decide +kernel
theorem dc_M_multiply_11 : decode cd_M_multiply 11 = .ok (.iload_n 2, 1) := by decide +kernel
theorem dc_M_multiply_12 : decode cd_M_multiply 12 = .ok (.iload_n 1, 1) := by decide +kernel
theorem dc_M_multiply_13 : decode cd_M_multiply 13 = .ok (.if_icmp .ge 76, 3) := by decide +kernel
theorem dc_M_multiply_16 : decode cd_M_multiply 16 = .ok (.aload_n 0, 1) := by decide +kernel
theorem dc_M_multiply_17 : decode cd_M_multiply 17 = .ok (.getfield 24, 3) := by decide +kernel
theorem dc_M_multiply_20 : decode cd_M_multiply 20 = .ok (.iload_n 2, 1) := by decide +kernel
theorem dc_M_multiply_21 : decode cd_M_multiply 21 = .ok (.baload, 1) := by decide +kernel
theorem dc_M_multiply_22 : decode cd_M_multiply 22 = .ok (.ifCond .ne 6, 3) := by decide +kernel
theorem dc_M_multiply_25 : decode cd_M_multiply 25 = .ok (.goto 58, 3) := by decide +kernel
theorem dc_M_multiply_28 : decode cd_M_multiply 28 = .ok (.iconst 0, 1) := by decide +kernel
theorem dc_M_multiply_29 : decode cd_M_multiply 29 = .ok (.istore_n 3, 1) := by decide +kernel
theorem dc_M_multiply_30 : decode cd_M_multiply 30 = .ok (.iload_n 2, 1) := by decide +kernel
theorem dc_M_multiply_31 : decode cd_M_multiply 31 = .ok (.istore 4, 2) := by decide +kernel
theorem dc_M_multiply_33 : decode cd_M_multiply 33 = .ok (.iload 4, 2) := by decide +kernel
theorem dc_M_multiply_35 : decode cd_M_multiply 35 = .ok (.iload_n 1, 1) := by decide +kernel
theorem dc_M_multiply_36 : decode cd_M_multiply 36 = .ok (.if_icmp .ge 47, 3) := by decide +kernel
theorem dc_M_multiply_39 : decode cd_M_multiply 39 = .ok (.aload_n 0, 1) := by decide +kernel
theorem dc_M_multiply_40 : decode cd_M_multiply 40 = .ok (.getfield 27, 3) := by decide +kernel
theorem dc_M_multiply_43 : decode cd_M_multiply 43 = .ok (.iload 4, 2) := by decide +kernel
theorem dc_M_multiply_45 : decode cd_M_multiply 45 = .ok (.baload, 1) := by decide +kernel
theorem dc_M_multiply_46 : decode cd_M_multiply 46 = .ok (.aload_n 0, 1) := by decide +kernel
theorem dc_M_multiply_47 : decode cd_M_multiply 47 = .ok (.getfield 21, 3) := by decide +kernel
theorem dc_M_multiply_50 : decode cd_M_multiply 50 = .ok (.iload 4, 2) := by decide +kernel
theorem dc_M_multiply_52 : decode cd_M_multiply 52 = .ok (.iload_n 2, 1) := by decide +kernel
theorem dc_M_multiply_53 : decode cd_M_multiply 53 = .ok (.isub, 1) := by decide +kernel
theorem dc_M_multiply_54 : decode cd_M_multiply 54 = .ok (.baload, 1) := by decide +kernel
theorem dc_M_multiply_55 : decode cd_M_multiply 55 = .ok (.iadd, 1) := by decide +kernel
theorem dc_M_multiply_56 : decode cd_M_multiply 56 = .ok (.iload_n 3, 1) := by decide +kernel
theorem dc_M_multiply_57 : decode cd_M_multiply 57 = .ok (.iadd, 1) := by decide +kernel
theorem dc_M_multiply_58 : decode cd_M_multiply 58 = .ok (.istore 5, 2) := by decide +kernel
theorem dc_M_multiply_60 : decode cd_M_multiply 60 = .ok (.aload_n 0, 1) := by decide +kernel
theorem dc_M_multiply_61 : decode cd_M_multiply 61 = .ok (.getfield 27, 3) := by decide +kernel
theorem dc_M_multiply_64 : decode cd_M_multiply 64 = .ok (.iload 4, 2) := by decide +kernel
theorem dc_M_multiply_66 : decode cd_M_multiply 66 = .ok (.iload 5, 2) := by decide +kernel
theorem dc_M_multiply_68 : decode cd_M_multiply 68 = .ok (.iconst 1, 1) := by decide +kernel
theorem dc_M_multiply_69 : decode cd_M_multiply 69 = .ok (.iand, 1) := by decide +kernel
theorem dc_M_multiply_70 : decode cd_M_multiply 70 = .ok (.i2b, 1) := by decide +kernel
theorem dc_M_multiply_71 : decode cd_M_multiply 71 = .ok (.bastore, 1) := by decide +kernel
theorem dc_M_multiply_72 : decode cd_M_multiply 72 = .ok (.iload 5, 2) := by decide +kernel
theorem dc_M_multiply_74 : decode cd_M_multiply 74 = .ok (.iconst 1, 1) := by decide +kernel
theorem dc_M_multiply_75 : decode cd_M_multiply 75 = .ok (.ishr, 1) := by decide +kernel
theorem dc_M_multiply_76 : decode cd_M_multiply 76 = .ok (.istore_n 3, 1) := by decide +kernel
theorem dc_M_multiply_77 : decode cd_M_multiply 77 = .ok (.iinc 4 1, 3) := by decide +kernel
theorem dc_M_multiply_80 : decode cd_M_multiply 80 = .ok (.goto (-47), 3) := by decide +kernel
theorem dc_M_multiply_83 : decode cd_M_multiply 83 = .ok (.iinc 2 1, 3) := by decide +kernel
theorem dc_M_multiply_86 : decode cd_M_multiply 86 = .ok (.goto (-75), 3) := by decide +kernel
theorem dc_M_multiply_89 : decode cd_M_multiply 89 = .ok (.return_, 1) := by decide +kernel
theorem dc_M_reaches_0 : decode cd_M_reaches 0 = .ok (.aload_n 0, 1) := by decide +kernel
