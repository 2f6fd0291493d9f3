theorem dc_M_reaches_1 : decode cd_M_reaches 1 = .ok (.getfield 30, 3) := by decide +kernel
theorem dc_M_reaches_4 : decode cd_M_reaches 4 = .ok (.iload_n 1, 1) := by decide +kernel
theorem dc_M_reaches_5 : decode cd_M_reaches 5 = .ok (.baload, 1) := by decide +kernel
theorem dc_M_reaches_6 : decode cd_M_reaches 6 = .ok (.iconst 1, 1) := by decide +kernel
theorem dc_M_reaches_7 : decode cd_M_reaches 7 = .ok (.if_icmp .ne 5, 3) := by decide +kernel
theorem dc_M_reaches_10 : decode cd_M_reaches 10 = .ok (.iconst 1, 1) := by decide +kernel
theorem dc_M_reaches_11 : decode cd_M_reaches 11 = .ok (.ireturn, 1) := by decide +kernel
theorem dc_M_reaches_12 : decode cd_M_reaches 12 = .ok (.iload_n 1, 1) := by decide +kernel
theorem dc_M_reaches_13 : decode cd_M_reaches 13 = .ok (.iconst 1, 1) := by decide +kernel
theorem dc_M_reaches_14 : decode cd_M_reaches 14 = .ok (.isub, 1) := by decide +kernel
theorem dc_M_reaches_15 : decode cd_M_reaches 15 = .ok (.istore_n 2, 1) := by decide +kernel
theorem dc_M_reaches_16 : decode cd_M_reaches 16 = .ok (.iload_n 2, 1) := by decide +kernel
theorem dc_M_reaches_17 : decode cd_M_reaches 17 = .ok (.ifCond .lt 45, 3) := by decide +kernel
theorem dc_M_reaches_20 : decode cd_M_reaches 20 = .ok (.aload_n 0, 1) := by decide +kernel
theorem dc_M_reaches_21 : decode cd_M_reaches 21 = .ok (.getfield 30, 3) := by decide +kernel
theorem dc_M_reaches_24 : decode cd_M_reaches 24 = .ok (.iload_n 2, 1) := by decide +kernel
theorem dc_M_reaches_25 : decode cd_M_reaches 25 = .ok (.baload, 1) := by decide +kernel
theorem dc_M_reaches_26 : decode cd_M_reaches 26 = .ok (.aload_n 0, 1) := by decide +kernel
theorem dc_M_reaches_27 : decode cd_M_reaches 27 = .ok (.getfield 24, 3) := by decide +kernel
theorem dc_M_reaches_30 : decode cd_M_reaches 30 = .ok (.iload_n 2, 1) := by decide +kernel
theorem dc_M_reaches_31 : decode cd_M_reaches 31 = .ok (.baload, 1) := by decide +kernel
theorem dc_M_reaches_32 : decode cd_M_reaches 32 = .ok (.if_icmp .eq 24, 3) := by decide +kernel
theorem dc_M_reaches_35 : decode cd_M_reaches 35 = .ok (.aload_n 0, 1) := by decide +kernel
theorem dc_M_reaches_36 : decode cd_M_reaches 36 = .ok (.getfield 30, 3) := by decide +kernel
theorem dc_M_reaches_39 : decode cd_M_reaches 39 = .ok (.iload_n 2, 1) := by decide +kernel
theorem dc_M_reaches_40 : decode cd_M_reaches 40 = .ok (.baload, 1) := by decide +kernel
theorem dc_M_reaches_41 : decode cd_M_reaches 41 = .ok (.aload_n 0, 1) := by decide +kernel
theorem dc_M_reaches_42 : decode cd_M_reaches 42 = .ok (.getfield 24, 3) := by decide +kernel
theorem dc_M_reaches_45 : decode cd_M_reaches 45 = .ok (.iload_n 2, 1) := by decide +kernel
theorem dc_M_reaches_46 : decode cd_M_reaches 46 = .ok (.baload, 1) := by decide +kernel
theorem dc_M_reaches_47 : decode cd_M_reaches 47 = .ok (.if_icmp .le 7, 3) := by decide +kernel
theorem dc_M_reaches_50 : decode cd_M_reaches 50 = .ok (.iconst 1, 1) := by decide +kernel
theorem dc_M_reaches_51 : decode cd_M_reaches 51 = .ok (.goto 4, 3) := by decide +kernel
theorem dc_M_reaches_54 : decode cd_M_reaches 54 = .ok (.iconst 0, 1) := by decide +kernel
theorem dc_M_reaches_55 : decode cd_M_reaches 55 = .ok (.ireturn, 1) := by decide +kernel
theorem dc_M_reaches_56 : decode cd_M_reaches 56 = .ok (.iinc 2 (-1), 3) := by decide +kernel
theorem dc_M_reaches_59 : decode cd_M_reaches 59 = .ok (.goto (-43), 3) := by decide +kernel
theorem dc_M_reaches_62 : decode cd_M_reaches 62 = .ok (.iconst 1, 1) := by decide +kernel
theorem dc_M_reaches_63 : decode cd_M_reaches 63 = .ok (.ireturn, 1) := by decide +kernel
theorem dc_M_divide_0 : decode cd_M_divide 0 = .ok (.aload_n 0, 1) := by decide +kernel
theorem dc_M_divide_1 : decode cd_M_divide 1 = .ok (.getfield 27, 3) := by decide +kernel
theorem dc_M_divide_4 : decode cd_M_divide 4 = .ok (.iload_n 1, 1) := by decide +kernel
theorem dc_M_divide_5 : decode cd_M_divide 5 = .ok (.iconst 0, 1) := by decide +kernel
theorem dc_M_divide_6 : decode cd_M_divide 6 = .ok (.invokestatic 64, 3) := by decide +kernel
theorem dc_M_divide_9 : decode cd_M_divide 9 = .ok (.iconst 0, 1) := by decide +kernel
theorem dc_M_divide_10 : decode cd_M_divide 10 = .ok (.istore_n 2, 1) := by decide +kernel
theorem dc_M_divide_11 : decode cd_M_divide 11 = .ok (.iload_n 2, 1) := by decide +kernel
theorem dc_M_divide_12 : decode cd_M_divide 12 = .ok (.iload_n 1, 1) := by decide +kernel
theorem dc_M_divide_13 : decode cd_M_divide 13 = .ok (.if_icmp .gt 16, 3) := by decide +kernel
theorem dc_M_divide_16 : decode cd_M_divide 16 = .ok (.aload_n 0, 1) := by decide +kernel
theorem dc_M_divide_17 : decode cd_M_divide 17 = .ok (.getfield 30, 3) := by decide +kernel
theorem dc_M_divide_20 : decode cd_M_divide 20 = .ok (.iload_n 2, 1) := by decide +kernel
theorem dc_M_divide_21 : decode cd_M_divide 21 = .ok (.iconst 0, 1) := by decide +kernel
theorem dc_M_divide_22 : decode cd_M_divide 22 = .ok (.bastore, 1) := by decide +kernel
theorem dc_M_divide_23 : decode cd_M_divide 23 = .ok (.iinc 2 1, 3) := by decide +kernel
theorem dc_M_divide_26 : decode cd_M_divide 26 = .ok (.goto (-15), 3) := by decide +kernel
theorem dc_M_divide_29 : decode cd_M_divide 29 = .ok (.iload_n 1, 1) := by decide +kernel
theorem dc_M_divide_30 : decode cd_M_divide 30 = .ok (.iconst 1, 1) := by decide +kernel
theorem dc_M_divide_31 : decode cd_M_divide 31 = .ok (.isub, 1) := by decide +kernel
theorem dc_M_divide_32 : decode cd_M_divide 32 = .ok (.istore_n 2, 1) := by decide +kernel
theorem dc_M_divide_33 : decode cd_M_divide 33 = .ok (.iload_n 2, 1) := by decide +kernel
theorem dc_M_divide_34 : decode cd_M_divide 34 = .ok (.ifCond .lt 134, 3) := by decide +kernel
theorem dc_M_divide_37 : decode cd_M_divide 37 = .ok (.iload_n 1, 1) := by decide +kernel
theorem dc_M_divide_38 : decode cd_M_divide 38 = .ok (.istore_n 3, 1) := by decide +kernel
theorem dc_M_divide_39 : decode cd_M_divide 39 = .ok (.iload_n 3, 1) := by decide +kernel
theorem dc_M_divide_40 : decode cd_M_divide 40 = .ok (.ifCond .le 23, 3) := by decide +kernel
theorem dc_M_divide_43 : decode cd_M_divide 43 = .ok (.aload_n 0, 1) := by decide +kernel
theorem dc_M_divide_44 : decode cd_M_divide 44 = .ok (.getfield 30, 3) := by decide +kernel
theorem dc_M_divide_47 : decode cd_M_divide 47 = .ok (.iload_n 3, 1) := by decide +kernel
theorem dc_M_divide_48 : decode cd_M_divide 48 = .ok (.aload_n 0, 1) := by decide +kernel
theorem dc_M_divide_49 : decode cd_M_divide 49 = .ok (.getfield 30, 3) := by decide +kernel
theorem dc_M_divide_52 : decode cd_M_divide 52 = .ok (.iload_n 3, 1) := by decide +kernel
theorem dc_M_divide_53 : decode cd_M_divide 53 = .ok (.iconst 1, 1) := by decide +kernel
theorem dc_M_divide_54 : decode cd_M_divide 54 = .ok (.isub, 1) := by decide +kernel
theorem dc_M_divide_55 : decode cd_M_divide 55 = .ok (.baload, 1) := by decide +kernel
theorem dc_M_divide_56 : decode cd_M_divide 56 = .ok (.bastore, 1) := by decide +kernel
theorem dc_M_divide_57 : decode cd_M_divide 57 = .ok (.iinc 3 (-1), 3) := by decide +kernel
theorem dc_M_divide_60 : decode cd_M_divide 60 = .ok (.goto (-21), 3) := by decide +kernel
theorem dc_M_divide_63 : decode cd_M_divide 63 = .ok (.aload_n 0, 1) := by decide +kernel
theorem dc_M_divide_64 : decode cd_M_divide 64 = .ok (.getfield 30, 3) := by decide +kernel
theorem dc_M_divide_67 : decode cd_M_divide 67 = .ok (.iconst 0, 1) := by decide +kernel
theorem dc_M_divide_68 : decode cd_M_divide 68 = .ok (.aload_n 0, 1) := by decide +kernel
theorem dc_M_divide_69 : decode cd_M_divide 69 = .ok (.getfield 21, 3) := by decide +kernel
theorem dc_M_divide_72 : decode cd_M_divide 72 = .ok (.iload_n 2, 1) := by decide +kernel
theorem dc_M_divide_73 : decode cd_M_divide 73 = .ok (.baload, 1) := by decide +kernel
theorem dc_M_divide_74 : decode cd_M_divide 74 = .ok (.bastore, 1) := by decide +kernel
theorem dc_M_divide_75 : decode cd_M_divide 75 = .ok (.aload_n 0, 1) := by decide +kernel
theorem dc_M_divide_76 : decode cd_M_divide 76 = .ok (.iload_n 1, 1) := by decide +kernel
theorem dc_M_divide_77 : decode cd_M_divide 77 = .ok (.invokevirtual 68, 3) := by decide +kernel
theorem dc_M_divide_80 : decode cd_M_divide 80 = .ok (.ifCond .ne 6, 3) := by decide +kernel
theorem dc_M_divide_83 : decode cd_M_divide 83 = .ok (.goto 79, 3) := by decide +kernel
theorem dc_M_divide_86 : decode cd_M_divide 86 = .ok (.iconst 0, 1) := by decide +kernel
theorem dc_M_divide_87 : decode cd_M_divide 87 = .ok (.istore_n 3, 1) := by decide +kernel
theorem dc_M_divide_88 : decode cd_M_divide 88 = .ok (.iconst 0, 1) := by decide +kernel
theorem dc_M_divide_89 : decode cd_M_divide 89 = .ok (.istore 4, 2) := by decide +kernel
theorem dc_M_divide_91 : decode cd_M_divide 91 = .ok (.iload 4, 2) := by decide +kernel
theorem dc_M_divide_93 : decode cd_M_divide 93 = .ok (.iload_n 1, 1) := by decide +kernel
theorem dc_M_divide_94 : decode cd_M_divide 94 = .ok (.if_icmp .gt 61, 3) := by decide +kernel
theorem dc_M_divide_97 : decode cd_M_divide 97 = .ok (.aload_n 0, 1) := by decide +kernel
theorem dc_M_divide_98 : decode cd_M_divide 98 = .ok (.getfield 30, 3) := by decide +kernel
theorem dc_M_divide_101 : decode cd_M_divide 101 = .ok (.iload 4, 2) := by decide +kernel
theorem dc_M_divide_103 : decode cd_M_divide 103 = .ok (.baload, 1) := by decide +kernel
theorem dc_M_divide_104 : decode cd_M_divide 104 = .ok (.iload 4, 2) := by decide +kernel
theorem dc_M_divide_106 : decode cd_M_divide 106 = .ok (.iload_n 1, 1) := by decide +kernel
theorem dc_M_divide_107 : decode cd_M_divide 107 = .ok (.if_icmp .ge 13, 3) := by decide +kernel
theorem dc_M_divide_110 : decode cd_M_divide 110 = .ok (.aload_n 0, 1) := by decide +kernel
theorem dc_M_divide_111 : decode cd_M_divide 111 = .ok (.getfield 24, 3) := by decide +kernel
theorem dc_M_divide_114 : decode cd_M_divide 114 = .ok (.iload 4, 2) := by decide +kernel
theorem dc_M_divide_116 : decode cd_M_divide 116 = .ok (.baload, 1) := by decide +kernel
theorem dc_M_divide_117 : decode cd_M_divide 117 = .ok (.goto 4, 3) := by decide +kernel
theorem dc_M_divide_120 : decode cd_M_divide 120 = .ok (.iconst 0, 1) := by decide +kernel
theorem dc_M_divide_121 : decode cd_M_divide 121 = .ok (.isub, 1) := by decide +kernel
theorem dc_M_divide_122 : decode cd_M_divide 122 = .ok (.iload_n 3, 1) := by decide +kernel
theorem dc_M_divide_123 : decode cd_M_divide 123 = .ok (.isub, 1) := by decide +kernel
theorem dc_M_divide_124 : decode cd_M_divide 124 = .ok (.istore 5, 2) := by decide +kernel
theorem dc_M_divide_126 : decode cd_M_divide 126 = .ok (.iload 5, 2) := by decide +kernel
theorem dc_M_divide_128 : decode cd_M_divide 128 = .ok (.ifCond .ge 7, 3) := by decide +kernel
theorem dc_M_divide_131 : decode cd_M_divide 131 = .ok (.iconst 1, 1) := by decide +kernel
theorem dc_M_divide_132 : decode cd_M_divide 132 = .ok (.goto 4, 3) := by decide +kernel
theorem dc_M_divide_135 : decode cd_M_divide 135 = .ok (.iconst 0, 1) := by decide +kernel
theorem dc_M_divide_136 : decode cd_M_divide 136 = .ok (.istore_n 3, 1) := by decide +kernel
theorem dc_M_divide_137 : decode cd_M_divide 137 = .ok (.aload_n 0, 1) := by decide +kernel
theorem dc_M_divide_138 : decode cd_M_divide 138 = .ok (.getfield 30, 3) := by decide +kernel
theorem dc_M_divide_141 : decode cd_M_divide 141 = .ok (.iload 4, 2) := by decide +kernel
theorem dc_M_divide_143 : decode cd_M_divide 143 = .ok (.iload 5, 2) := by decide +kernel
theorem dc_M_divide_145 : decode cd_M_divide 145 = .ok (.iconst 1, 1) := by decide +kernel
theorem dc_M_divide_146 : decode cd_M_divide 146 = .ok (.iand, 1) := by decide +kernel
theorem dc_M_divide_147 : decode cd_M_divide 147 = .ok (.i2b, 1) := by decide +kernel
theorem dc_M_divide_148 : decode cd_M_divide 148 = .ok (.bastore, 1) := by decide +kernel
theorem dc_M_divide_149 : decode cd_M_divide 149 = .ok (.iinc 4 1, 3) := by decide +kernel
theorem dc_M_divide_152 : decode cd_M_divide 152 = .ok (.goto (-61), 3) := by decide +kernel
theorem dc_M_divide_155 : decode cd_M_divide 155 = .ok (.aload_n 0, 1) := by decide +kernel
theorem dc_M_divide_156 : decode cd_M_divide 156 = .ok (.getfield 27, 3) := by decide +kernel
theorem dc_M_divide_159 : decode cd_M_divide 159 = .ok (.iload_n 2, 1) := by decide +kernel
theorem dc_M_divide_160 : decode cd_M_divide 160 = .ok (.iconst 1, 1) := by decide +kernel
theorem dc_M_divide_161 : decode cd_M_divide 161 = .ok (.bastore, 1) := by decide +kernel
theorem dc_M_divide_162 : decode cd_M_divide 162 = .ok (.iinc 2 (-1), 3) := by decide +kernel
theorem dc_M_divide_165 : decode cd_M_divide 165 = .ok (.goto (-132), 3) := by decide +kernel
theorem dc_M_divide_168 : decode cd_M_divide 168 = .ok (.return_, 1) := by decide +kernel
theorem dc_M_quotient_0 : decode cd_M_quotient 0 = .ok (.iload_n 2, 1) := by decide +kernel
theorem dc_M_quotient_1 : decode cd_M_quotient 1 = .ok (.ifCond .eq 19, 3) := by decide +kernel
theorem dc_M_quotient_4 : decode cd_M_quotient 4 = .ok (.aload_n 0, 1) := by decide +kernel
theorem dc_M_quotient_5 : decode cd_M_quotient 5 = .ok (.getfield 21, 3) := by decide +kernel
theorem dc_M_quotient_8 : decode cd_M_quotient 8 = .ok (.iload_n 3, 1) := by decide +kernel
theorem dc_M_quotient_9 : decode cd_M_quotient 9 = .ok (.iconst 1, 1) := by decide +kernel
theorem dc_M_quotient_10 : decode cd_M_quotient 10 = .ok (.isub, 1) := by decide +kernel
theorem dc_M_quotient_11 : decode cd_M_quotient 11 = .ok (.baload, 1) := by decide +kernel
theorem dc_M_quotient_12 : decode cd_M_quotient 12 = .ok (.iconst 1, 1) := by decide +kernel
theorem dc_M_quotient_13 : decode cd_M_quotient 13 = .ok (.if_icmp .ne 7, 3) := by decide +kernel
theorem dc_M_quotient_16 : decode cd_M_quotient 16 = .ok (.iconst 1, 1) := by decide +kernel
theorem dc_M_quotient_17 : decode cd_M_quotient 17 = .ok (.goto 4, 3) := by decide +kernel
theorem dc_M_quotient_20 : decode cd_M_quotient 20 = .ok (.iconst 0, 1) := by decide +kernel
theorem dc_M_quotient_21 : decode cd_M_quotient 21 = .ok (.istore 4, 2) := by decide +kernel
theorem dc_M_quotient_23 : decode cd_M_quotient 23 = .ok (.iload_n 2, 1) := by decide +kernel
theorem dc_M_quotient_24 : decode cd_M_quotient 24 = .ok (.ifCond .eq 19, 3) := by decide +kernel
theorem dc_M_quotient_27 : decode cd_M_quotient 27 = .ok (.aload_n 0, 1) := by decide +kernel
theorem dc_M_quotient_28 : decode cd_M_quotient 28 = .ok (.getfield 24, 3) := by decide +kernel
theorem dc_M_quotient_31 : decode cd_M_quotient 31 = .ok (.iload_n 3, 1) := by decide +kernel
theorem dc_M_quotient_32 : decode cd_M_quotient 32 = .ok (.iconst 1, 1) := by decide +kernel
theorem dc_M_quotient_33 : decode cd_M_quotient 33 = .ok (.isub, 1) := by decide +kernel
theorem dc_M_quotient_34 : decode cd_M_quotient 34 = .ok (.baload, 1) := by decide +kernel
theorem dc_M_quotient_35 : decode cd_M_quotient 35 = .ok (.iconst 1, 1) := by decide +kernel
theorem dc_M_quotient_36 : decode cd_M_quotient 36 = .ok (.if_icmp .ne 7, 3) := by decide +kernel
theorem dc_M_quotient_39 : decode cd_M_quotient 39 = .ok (.iconst 1, 1) := by decide +kernel
theorem dc_M_quotient_40 : decode cd_M_quotient 40 = .ok (.goto 4, 3) := by decide +kernel
theorem dc_M_quotient_43 : decode cd_M_quotient 43 = .ok (.iconst 0, 1) := by decide +kernel
theorem dc_M_quotient_44 : decode cd_M_quotient 44 = .ok (.istore 5, 2) := by decide +kernel
theorem dc_M_quotient_46 : decode cd_M_quotient 46 = .ok (.iload 4, 2) := by decide +kernel
theorem dc_M_quotient_48 : decode cd_M_quotient 48 = .ok (.ifCond .eq 11, 3) := by decide +kernel
theorem dc_M_quotient_51 : decode cd_M_quotient 51 = .ok (.aload_n 0, 1) := by decide +kernel
theorem dc_M_quotient_52 : decode cd_M_quotient 52 = .ok (.getfield 21, 3) := by decide +kernel
theorem dc_M_quotient_55 : decode cd_M_quotient 55 = .ok (.iload_n 3, 1) := by decide +kernel
theorem dc_M_quotient_56 : decode cd_M_quotient 56 = .ok (.invokestatic 72, 3) := by decide +kernel
theorem dc_M_quotient_59 : decode cd_M_quotient 59 = .ok (.iload 5, 2) := by decide +kernel
theorem dc_M_quotient_61 : decode cd_M_quotient 61 = .ok (.ifCond .eq 11, 3) := by decide +kernel
theorem dc_M_quotient_64 : decode cd_M_quotient 64 = .ok (.aload_n 0, 1) := by decide +kernel
theorem dc_M_quotient_65 : decode cd_M_quotient 65 = .ok (.getfield 24, 3) := by decide +kernel
theorem dc_M_quotient_68 : decode cd_M_quotient 68 = .ok (.iload_n 3, 1) := by decide +kernel
theorem dc_M_quotient_69 : decode cd_M_quotient 69 = .ok (.invokestatic 72, 3) := by decide +kernel
theorem dc_M_quotient_72 : decode cd_M_quotient 72 = .ok (.aload_n 0, 1) := by decide +kernel
theorem dc_M_quotient_73 : decode cd_M_quotient 73 = .ok (.iload_n 3, 1) := by decide +kernel
theorem dc_M_quotient_74 : decode cd_M_quotient 74 = .ok (.invokevirtual 76, 3) := by decide +kernel
theorem dc_M_quotient_77 : decode cd_M_quotient 77 = .ok (.iload_n 1, 1) := by decide +kernel
theorem dc_M_quotient_78 : decode cd_M_quotient 78 = .ok (.iconst 4, 1) := by decide +kernel
theorem dc_M_quotient_79 : decode cd_M_quotient 79 = .ok (.if_icmp .ne 32, 3) := by decide +kernel
theorem dc_M_quotient_82 : decode cd_M_quotient 82 = .ok (.iconst 0, 1) := by decide +kernel
theorem dc_M_quotient_83 : decode cd_M_quotient 83 = .ok (.istore 6, 2) := by decide +kernel
theorem dc_M_quotient_85 : decode cd_M_quotient 85 = .ok (.iload 6, 2) := by decide +kernel
theorem dc_M_quotient_87 : decode cd_M_quotient 87 = .ok (.iload_n 3, 1) := by decide +kernel
theorem dc_M_quotient_88 : decode cd_M_quotient 88 = .ok (.if_icmp .ge 23, 3) := by decide +kernel
theorem dc_M_quotient_91 : decode cd_M_quotient 91 = .ok (.aload_n 0, 1) := by decide +kernel
theorem dc_M_quotient_92 : decode cd_M_quotient 92 = .ok (.getfield 27, 3) := by decide +kernel
theorem dc_M_quotient_95 : decode cd_M_quotient 95 = .ok (.iload 6, 2) := by decide +kernel
theorem dc_M_quotient_97 : decode cd_M_quotient 97 = .ok (.aload_n 0, 1) := by decide +kernel
theorem dc_M_quotient_98 : decode cd_M_quotient 98 = .ok (.getfield 30, 3) := by decide +kernel
theorem dc_M_quotient_101 : decode cd_M_quotient 101 = .ok (.iload 6, 2) := by decide +kernel
theorem dc_M_quotient_103 : decode cd_M_quotient 103 = .ok (.baload, 1) := by decide +kernel
theorem dc_M_quotient_104 : decode cd_M_quotient 104 = .ok (.bastore, 1) := by decide +kernel
theorem dc_M_quotient_105 : decode cd_M_quotient 105 = .ok (.iinc 6 1, 3) := by decide +kernel
theorem dc_M_quotient_108 : decode cd_M_quotient 108 = .ok (.goto (-23), 3) := by decide +kernel
theorem dc_M_quotient_111 : decode cd_M_quotient 111 = .ok (.iload_n 1, 1) := by decide +kernel
theorem dc_M_quotient_112 : decode cd_M_quotient 112 = .ok (.iconst 3, 1) := by decide +kernel
theorem dc_M_quotient_113 : decode cd_M_quotient 113 = .ok (.if_icmp .ne 13, 3) := by decide +kernel
theorem dc_M_quotient_116 : decode cd_M_quotient 116 = .ok (.iload 4, 2) := by decide +kernel
theorem dc_M_quotient_118 : decode cd_M_quotient 118 = .ok (.iload 5, 2) := by decide +kernel
theorem dc_M_quotient_120 : decode cd_M_quotient 120 = .ok (.if_icmp .eq 19, 3) := by decide +kernel
theorem dc_M_quotient_123 : decode cd_M_quotient 123 = .ok (.goto 8, 3) := by decide +kernel
theorem dc_M_quotient_126 : decode cd_M_quotient 126 = .ok (.iload 4, 2) := by decide +kernel
theorem dc_M_quotient_128 : decode cd_M_quotient 128 = .ok (.ifCond .eq 11, 3) := by decide +kernel
theorem dc_M_quotient_131 : decode cd_M_quotient 131 = .ok (.aload_n 0, 1) := by decide +kernel
theorem dc_M_quotient_132 : decode cd_M_quotient 132 = .ok (.getfield 27, 3) := by decide +kernel
theorem dc_M_quotient_135 : decode cd_M_quotient 135 = .ok (.iload_n 3, 1) := by decide +kernel
theorem dc_M_quotient_136 : decode cd_M_quotient 136 = .ok (.invokestatic 72, 3) := by decide +kernel
theorem dc_M_quotient_139 : decode cd_M_quotient 139 = .ok (.return_, 1) := by decide +kernel
theorem dc_M_reckon_0 : decode cd_M_reckon 0 = .ok (.aload_n 0, 1) := by decide +kernel
theorem dc_M_reckon_1 : decode cd_M_reckon 1 = .ok (.getfield 21, 3) := by decide +kernel
theorem dc_M_reckon_4 : decode cd_M_reckon 4 = .ok (.iload_n 3, 1) := by decide +kernel
theorem dc_M_reckon_5 : decode cd_M_reckon 5 = .ok (.invokestatic 46, 3) := by decide +kernel
theorem dc_M_reckon_8 : decode cd_M_reckon 8 = .ok (.ifCond .ne 30, 3) := by decide +kernel
theorem dc_M_reckon_11 : decode cd_M_reckon 11 = .ok (.aload_n 0, 1) := by decide +kernel
theorem dc_M_reckon_12 : decode cd_M_reckon 12 = .ok (.getfield 24, 3) := by decide +kernel
theorem dc_M_reckon_15 : decode cd_M_reckon 15 = .ok (.iload_n 3, 1) := by decide +kernel
theorem dc_M_reckon_16 : decode cd_M_reckon 16 = .ok (.invokestatic 46, 3) := by decide +kernel
theorem dc_M_reckon_19 : decode cd_M_reckon 19 = .ok (.ifCond .ne 19, 3) := by decide +kernel
theorem dc_M_reckon_22 : decode cd_M_reckon 22 = .ok (.iload_n 1, 1) := by decide +kernel
theorem dc_M_reckon_23 : decode cd_M_reckon 23 = .ok (.iconst 2, 1) := by decide +kernel
theorem dc_M_reckon_24 : decode cd_M_reckon 24 = .ok (.if_icmp .le 26, 3) := by decide +kernel
theorem dc_M_reckon_27 : decode cd_M_reckon 27 = .ok (.aload_n 0, 1) := by decide +kernel
theorem dc_M_reckon_28 : decode cd_M_reckon 28 = .ok (.getfield 24, 3) := by decide +kernel
theorem dc_M_reckon_31 : decode cd_M_reckon 31 = .ok (.iload_n 3, 1) := by decide +kernel
theorem dc_M_reckon_32 : decode cd_M_reckon 32 = .ok (.invokestatic 80, 3) := by decide +kernel
theorem dc_M_reckon_35 : decode cd_M_reckon 35 = .ok (.ifCond .eq 15, 3) := by decide +kernel
theorem dc_M_reckon_38 : decode cd_M_reckon 38 = .ok (.aload_n 0, 1) := by decide +kernel
theorem dc_M_reckon_39 : decode cd_M_reckon 39 = .ok (.getfield 27, 3) := by decide +kernel
theorem dc_M_reckon_42 : decode cd_M_reckon 42 = .ok (.iload_n 3, 1) := by decide +kernel
theorem dc_M_reckon_43 : decode cd_M_reckon 43 = .ok (.iconst 3, 1) := by decide +kernel
theorem dc_M_reckon_44 : decode cd_M_reckon 44 = .ok (.invokestatic 64, 3) := by decide +kernel
theorem dc_M_reckon_47 : decode cd_M_reckon 47 = .ok (.goto 104, 3) := by decide +kernel
theorem dc_M_reckon_50 : decode cd_M_reckon 50 = .ok (.iload_n 1, 1) := by decide +kernel
theorem dc_M_reckon_51 : decode cd_M_reckon 51 = .ok (.ifCond .ne 23, 3) := by decide +kernel
theorem dc_M_reckon_54 : decode cd_M_reckon 54 = .ok (.aload_n 0, 1) := by decide +kernel
theorem dc_M_reckon_55 : decode cd_M_reckon 55 = .ok (.getfield 21, 3) := by decide +kernel
theorem dc_M_reckon_58 : decode cd_M_reckon 58 = .ok (.aload_n 0, 1) := by decide +kernel
theorem dc_M_reckon_59 : decode cd_M_reckon 59 = .ok (.getfield 24, 3) := by decide +kernel
theorem dc_M_reckon_62 : decode cd_M_reckon 62 = .ok (.aload_n 0, 1) := by decide +kernel
theorem dc_M_reckon_63 : decode cd_M_reckon 63 = .ok (.getfield 27, 3) := by decide +kernel
theorem dc_M_reckon_66 : decode cd_M_reckon 66 = .ok (.iload_n 3, 1) := by decide +kernel
theorem dc_M_reckon_67 : decode cd_M_reckon 67 = .ok (.iconst 0, 1) := by decide +kernel
theorem dc_M_reckon_68 : decode cd_M_reckon 68 = .ok (.invokestatic 83, 3) := by decide +kernel
theorem dc_M_reckon_71 : decode cd_M_reckon 71 = .ok (.goto 80, 3) := by decide +kernel
theorem dc_M_reckon_74 : decode cd_M_reckon 74 = .ok (.iload_n 1, 1) := by decide +kernel
theorem dc_M_reckon_75 : decode cd_M_reckon 75 = .ok (.iconst 1, 1) := by decide +kernel
theorem dc_M_reckon_76 : decode cd_M_reckon 76 = .ok (.if_icmp .ne 55, 3) := by decide +kernel
theorem dc_M_reckon_79 : decode cd_M_reckon 79 = .ok (.iconst 0, 1) := by decide +kernel
theorem dc_M_reckon_80 : decode cd_M_reckon 80 = .ok (.istore 4, 2) := by decide +kernel
theorem dc_M_reckon_82 : decode cd_M_reckon 82 = .ok (.iload 4, 2) := by decide +kernel
theorem dc_M_reckon_84 : decode cd_M_reckon 84 = .ok (.iload_n 3, 1) := by decide +kernel
theorem dc_M_reckon_85 : decode cd_M_reckon 85 = .ok (.if_icmp .ge 26, 3) := by decide +kernel
theorem dc_M_reckon_88 : decode cd_M_reckon 88 = .ok (.aload_n 0, 1) := by decide +kernel
theorem dc_M_reckon_89 : decode cd_M_reckon 89 = .ok (.getfield 24, 3) := by decide +kernel
theorem dc_M_reckon_92 : decode cd_M_reckon 92 = .ok (.iload 4, 2) := by decide +kernel
theorem dc_M_reckon_94 : decode cd_M_reckon 94 = .ok (.iconst 1, 1) := by decide +kernel
theorem dc_M_reckon_95 : decode cd_M_reckon 95 = .ok (.aload_n 0, 1) := by decide +kernel
theorem dc_M_reckon_96 : decode cd_M_reckon 96 = .ok (.getfield 24, 3) := by decide +kernel
theorem dc_M_reckon_99 : decode cd_M_reckon 99 = .ok (.iload 4, 2) := by decide +kernel
theorem dc_M_reckon_101 : decode cd_M_reckon 101 = .ok (.baload, 1) := by decide +kernel
theorem dc_M_reckon_102 : decode cd_M_reckon 102 = .ok (.isub, 1) := by decide +kernel
theorem dc_M_reckon_103 : decode cd_M_reckon 103 = .ok (.i2b, 1) := by decide +kernel
theorem dc_M_reckon_104 : decode cd_M_reckon 104 = .ok (.bastore, 1) := by decide +kernel
theorem dc_M_reckon_105 : decode cd_M_reckon 105 = .ok (.iinc 4 1, 3) := by decide +kernel
theorem dc_M_reckon_108 : decode cd_M_reckon 108 = .ok (.goto (-26), 3) := by decide +kernel
theorem dc_M_reckon_111 : decode cd_M_reckon 111 = .ok (.aload_n 0, 1) := by decide +kernel
theorem dc_M_reckon_112 : decode cd_M_reckon 112 = .ok (.getfield 21, 3) := by decide +kernel
theorem dc_M_reckon_115 : decode cd_M_reckon 115 = .ok (.aload_n 0, 1) := by decide +kernel
theorem dc_M_reckon_116 : decode cd_M_reckon 116 = .ok (.getfield 24, 3) := by decide +kernel
theorem dc_M_reckon_119 : decode cd_M_reckon 119 = .ok (.aload_n 0, 1) := by decide +kernel
theorem dc_M_reckon_120 : decode cd_M_reckon 120 = .ok (.getfield 27, 3) := by decide +kernel
theorem dc_M_reckon_123 : decode cd_M_reckon 123 = .ok (.iload_n 3, 1) := by decide +kernel
theorem dc_M_reckon_124 : decode cd_M_reckon 124 = .ok (.iconst 1, 1) := by decide +kernel
theorem dc_M_reckon_125 : decode cd_M_reckon 125 = .ok (.invokestatic 83, 3) := by decide +kernel
theorem dc_M_reckon_128 : decode cd_M_reckon 128 = .ok (.goto 23, 3) := by decide +kernel
theorem dc_M_reckon_131 : decode cd_M_reckon 131 = .ok (.iload_n 1, 1) := by decide +kernel
theorem dc_M_reckon_132 : decode cd_M_reckon 132 = .ok (.iconst 2, 1) := by decide +kernel
theorem dc_M_reckon_133 : decode cd_M_reckon 133 = .ok (.if_icmp .ne 11, 3) := by decide +kernel
theorem dc_M_reckon_136 : decode cd_M_reckon 136 = .ok (.aload_n 0, 1) := by decide +kernel
theorem dc_M_reckon_137 : decode cd_M_reckon 137 = .ok (.iload_n 3, 1) := by decide +kernel
theorem dc_M_reckon_138 : decode cd_M_reckon 138 = .ok (.invokevirtual 87, 3) := by decide +kernel
theorem dc_M_reckon_141 : decode cd_M_reckon 141 = .ok (.goto 10, 3) := by decide +kernel
theorem dc_M_reckon_144 : decode cd_M_reckon 144 = .ok (.aload_n 0, 1) := by decide +kernel
theorem dc_M_reckon_145 : decode cd_M_reckon 145 = .ok (.iload_n 1, 1) := by decide +kernel
theorem dc_M_reckon_146 : decode cd_M_reckon 146 = .ok (.iload_n 2, 1) := by decide +kernel
theorem dc_M_reckon_147 : decode cd_M_reckon 147 = .ok (.iload_n 3, 1) := by decide +kernel
theorem dc_M_reckon_148 : decode cd_M_reckon 148 = .ok (.invokevirtual 90, 3) := by decide +kernel
theorem dc_M_reckon_151 : decode cd_M_reckon 151 = .ok (.return_, 1) := by decide +kernel
theorem dc_M_equal_0 : decode cd_M_equal 0 = .ok (.iconst 0, 1) := by decide +kernel
theorem dc_M_equal_1 : decode cd_M_equal 1 = .ok (.istore_n 2, 1) := by decide +kernel
theorem dc_M_equal_2 : decode cd_M_equal 2 = .ok (.iload_n 2, 1) := by decide +kernel
theorem dc_M_equal_3 : decode cd_M_equal 3 = .ok (.iload_n 1, 1) := by decide +kernel
theorem dc_M_equal_4 : decode cd_M_equal 4 = .ok (.if_icmp .ge 46, 3) := by decide +kernel
theorem dc_M_equal_7 : decode cd_M_equal 7 = .ok (.aload_n 0, 1) := by decide +kernel
theorem dc_M_equal_8 : decode cd_M_equal 8 = .ok (.getfield 21, 3) := by decide +kernel
theorem dc_M_equal_11 : decode cd_M_equal 11 = .ok (.iload_n 2, 1) := by decide +kernel
theorem dc_M_equal_12 : decode cd_M_equal 12 = .ok (.baload, 1) := by decide +kernel
theorem dc_M_equal_13 : decode cd_M_equal 13 = .ok (.iconst 2, 1) := by decide +kernel
theorem dc_M_equal_14 : decode cd_M_equal 14 = .ok (.if_icmp .ge 30, 3) := by decide +kernel
theorem dc_M_equal_17 : decode cd_M_equal 17 = .ok (.aload_n 0, 1) := by decide +kernel
theorem dc_M_equal_18 : decode cd_M_equal 18 = .ok (.getfield 24, 3) := by decide +kernel
theorem dc_M_equal_21 : decode cd_M_equal 21 = .ok (.iload_n 2, 1) := by decide +kernel
theorem dc_M_equal_22 : decode cd_M_equal 22 = .ok (.baload, 1) := by decide +kernel
theorem dc_M_equal_23 : decode cd_M_equal 23 = .ok (.iconst 2, 1) := by decide +kernel
theorem dc_M_equal_24 : decode cd_M_equal 24 = .ok (.if_icmp .ge 20, 3) := by decide +kernel
theorem dc_M_equal_27 : decode cd_M_equal 27 = .ok (.aload_n 0, 1) := by decide +kernel
theorem dc_M_equal_28 : decode cd_M_equal 28 = .ok (.getfield 21, 3) := by decide +kernel
theorem dc_M_equal_31 : decode cd_M_equal 31 = .ok (.iload_n 2, 1) := by decide +kernel
theorem dc_M_equal_32 : decode cd_M_equal 32 = .ok (.baload, 1) := by decide +kernel
theorem dc_M_equal_33 : decode cd_M_equal 33 = .ok (.aload_n 0, 1) := by decide +kernel
theorem dc_M_equal_34 : decode cd_M_equal 34 = .ok (.getfield 24, 3) := by decide +kernel
theorem dc_M_equal_37 : decode cd_M_equal 37 = .ok (.iload_n 2, 1) := by decide +kernel
theorem dc_M_equal_38 : decode cd_M_equal 38 = .ok (.baload, 1) := by decide +kernel
theorem dc_M_equal_39 : decode cd_M_equal 39 = .ok (.if_icmp .eq 5, 3) := by decide +kernel
theorem dc_M_equal_42 : decode cd_M_equal 42 = .ok (.iconst 0, 1) := by decide +kernel
theorem dc_M_equal_43 : decode cd_M_equal 43 = .ok (.ireturn, 1) := by decide +kernel
theorem dc_M_equal_44 : decode cd_M_equal 44 = .ok (.iinc 2 1, 3) := by decide +kernel
theorem dc_M_equal_47 : decode cd_M_equal 47 = .ok (.goto (-45), 3) := by decide +kernel
theorem dc_M_equal_50 : decode cd_M_equal 50 = .ok (.aload_n 0, 1) := by decide +kernel
theorem dc_M_equal_51 : decode cd_M_equal 51 = .ok (.getfield 21, 3) := by decide +kernel
theorem dc_M_equal_54 : decode cd_M_equal 54 = .ok (.iload_n 1, 1) := by decide +kernel
theorem dc_M_equal_55 : decode cd_M_equal 55 = .ok (.invokestatic 46, 3) := by decide +kernel
theorem dc_M_equal_58 : decode cd_M_equal 58 = .ok (.ifCond .ne 14, 3) := by decide +kernel
theorem dc_M_equal_61 : decode cd_M_equal 61 = .ok (.aload_n 0, 1) := by decide +kernel
theorem dc_M_equal_62 : decode cd_M_equal 62 = .ok (.getfield 24, 3) := by decide +kernel
theorem dc_M_equal_65 : decode cd_M_equal 65 = .ok (.iload_n 1, 1) := by decide +kernel
theorem dc_M_equal_66 : decode cd_M_equal 66 = .ok (.invokestatic 46, 3) := by decide +kernel
theorem dc_M_equal_69 : decode cd_M_equal 69 = .ok (.ifCond .eq 7, 3) := by decide +kernel
theorem dc_M_equal_72 : decode cd_M_equal 72 = .ok (.iconst 3, 1) := by decide +kernel
theorem dc_M_equal_73 : decode cd_M_equal 73 = .ok (.goto 4, 3) := by decide +kernel
theorem dc_M_equal_76 : decode cd_M_equal 76 = .ok (.iconst 1, 1) := by decide +kernel
theorem dc_M_equal_77 : decode cd_M_equal 77 = .ok (.ireturn, 1) := by decide +kernel
theorem dc_M_same_0 : decode cd_M_same 0 = .ok (.iconst 0, 1) := by decide +kernel
theorem dc_M_same_1 : decode cd_M_same 1 = .ok (.istore_n 2, 1) := by decide +kernel
theorem dc_M_same_2 : decode cd_M_same 2 = .ok (.iload_n 2, 1) := by decide +kernel
theorem dc_M_same_3 : decode cd_M_same 3 = .ok (.iload_n 1, 1) := by decide +kernel
theorem dc_M_same_4 : decode cd_M_same 4 = .ok (.if_icmp .ge 26, 3) := by decide +kernel
theorem dc_M_same_7 : decode cd_M_same 7 = .ok (.aload_n 0, 1) := by decide +kernel
theorem dc_M_same_8 : decode cd_M_same 8 = .ok (.getfield 21, 3) := by decide +kernel
theorem dc_M_same_11 : decode cd_M_same 11 = .ok (.iload_n 2, 1) := by decide +kernel
theorem dc_M_same_12 : decode cd_M_same 12 = .ok (.baload, 1) := by decide +kernel
theorem dc_M_same_13 : decode cd_M_same 13 = .ok (.aload_n 0, 1) := by decide +kernel
theorem dc_M_same_14 : decode cd_M_same 14 = .ok (.getfield 24, 3) := by decide +kernel
theorem dc_M_same_17 : decode cd_M_same 17 = .ok (.iload_n 2, 1) := by decide +kernel
theorem dc_M_same_18 : decode cd_M_same 18 = .ok (.baload, 1) := by decide +kernel
theorem dc_M_same_19 : decode cd_M_same 19 = .ok (.if_icmp .eq 5, 3) := by decide +kernel
theorem dc_M_same_22 : decode cd_M_same 22 = .ok (.iconst 0, 1) := by decide +kernel
theorem dc_M_same_23 : decode cd_M_same 23 = .ok (.ireturn, 1) := by decide +kernel
theorem dc_M_same_24 : decode cd_M_same 24 = .ok (.iinc 2 1, 3) := by decide +kernel
theorem dc_M_same_27 : decode cd_M_same 27 = .ok (.goto (-25), 3) := by decide +kernel
theorem dc_M_same_30 : decode cd_M_same 30 = .ok (.iconst 1, 1) := by decide +kernel
theorem dc_M_same_31 : decode cd_M_same 31 = .ok (.ireturn, 1) := by decide +kernel
theorem dc_M_order_0 : decode cd_M_order 0 = .ok (.iload_n 2, 1) := by decide +kernel
theorem dc_M_order_1 : decode cd_M_order 1 = .ok (.iconst 1, 1) := by decide +kernel
theorem dc_M_order_2 : decode cd_M_order 2 = .ok (.isub, 1) := by decide +kernel
theorem dc_M_order_3 : decode cd_M_order 3 = .ok (.istore_n 3, 1) := by decide +kernel
theorem dc_M_order_4 : decode cd_M_order 4 = .ok (.iload_n 3, 1) := by decide +kernel
theorem dc_M_order_5 : decode cd_M_order 5 = .ok (.ifCond .lt 69, 3) := by decide +kernel
theorem dc_M_order_8 : decode cd_M_order 8 = .ok (.aload_n 0, 1) := by decide +kernel
theorem dc_M_order_9 : decode cd_M_order 9 = .ok (.getfield 21, 3) := by decide +kernel
theorem dc_M_order_12 : decode cd_M_order 12 = .ok (.iload_n 3, 1) := by decide +kernel
theorem dc_M_order_13 : decode cd_M_order 13 = .ok (.baload, 1) := by decide +kernel
theorem dc_M_order_14 : decode cd_M_order 14 = .ok (.aload_n 0, 1) := by decide +kernel
theorem dc_M_order_15 : decode cd_M_order 15 = .ok (.getfield 24, 3) := by decide +kernel
theorem dc_M_order_18 : decode cd_M_order 18 = .ok (.iload_n 3, 1) := by decide +kernel
theorem dc_M_order_19 : decode cd_M_order 19 = .ok (.baload, 1) := by decide +kernel
theorem dc_M_order_20 : decode cd_M_order 20 = .ok (.if_icmp .eq 48, 3) := by decide +kernel
theorem dc_M_order_23 : decode cd_M_order 23 = .ok (.aload_n 0, 1) := by decide +kernel
theorem dc_M_order_24 : decode cd_M_order 24 = .ok (.getfield 21, 3) := by decide +kernel
theorem dc_M_order_27 : decode cd_M_order 27 = .ok (.iload_n 3, 1) := by decide +kernel
theorem dc_M_order_28 : decode cd_M_order 28 = .ok (.baload, 1) := by decide +kernel
theorem dc_M_order_29 : decode cd_M_order 29 = .ok (.aload_n 0, 1) := by decide +kernel
theorem dc_M_order_30 : decode cd_M_order 30 = .ok (.getfield 24, 3) := by decide +kernel
theorem dc_M_order_33 : decode cd_M_order 33 = .ok (.iload_n 3, 1) := by decide +kernel
theorem dc_M_order_34 : decode cd_M_order 34 = .ok (.baload, 1) := by decide +kernel
theorem dc_M_order_35 : decode cd_M_order 35 = .ok (.if_icmp .le 7, 3) := by decide +kernel
theorem dc_M_order_38 : decode cd_M_order 38 = .ok (.iconst 1, 1) := by decide +kernel
theorem dc_M_order_39 : decode cd_M_order 39 = .ok (.goto 4, 3) := by decide +kernel
theorem dc_M_order_42 : decode cd_M_order 42 = .ok (.iconst 0, 1) := by decide +kernel
theorem dc_M_order_43 : decode cd_M_order 43 = .ok (.iload_n 1, 1) := by decide +kernel
theorem dc_M_order_44 : decode cd_M_order 44 = .ok (.ifCond .eq 14, 3) := by decide +kernel
theorem dc_M_order_47 : decode cd_M_order 47 = .ok (.iload_n 3, 1) := by decide +kernel
theorem dc_M_order_48 : decode cd_M_order 48 = .ok (.iload_n 2, 1) := by decide +kernel
theorem dc_M_order_49 : decode cd_M_order 49 = .ok (.iconst 1, 1) := by decide +kernel
theorem dc_M_order_50 : decode cd_M_order 50 = .ok (.isub, 1) := by decide +kernel
theorem dc_M_order_51 : decode cd_M_order 51 = .ok (.if_icmp .ne 7, 3) := by decide +kernel
theorem dc_M_order_54 : decode cd_M_order 54 = .ok (.iconst 1, 1) := by decide +kernel
theorem dc_M_order_55 : decode cd_M_order 55 = .ok (.goto 4, 3) := by decide +kernel
theorem dc_M_order_58 : decode cd_M_order 58 = .ok (.iconst 0, 1) := by decide +kernel
theorem dc_M_order_59 : decode cd_M_order 59 = .ok (.if_icmp .ne 7, 3) := by decide +kernel
theorem dc_M_order_62 : decode cd_M_order 62 = .ok (.iconst (-1), 1) := by decide +kernel
theorem dc_M_order_63 : decode cd_M_order 63 = .ok (.goto 4, 3) := by decide +kernel
theorem dc_M_order_66 : decode cd_M_order 66 = .ok (.iconst 1, 1) := by decide +kernel
theorem dc_M_order_67 : decode cd_M_order 67 = .ok (.ireturn, 1) := by decide +kernel
theorem dc_M_order_68 : decode cd_M_order 68 = .ok (.iinc 3 (-1), 3) := by decide +kernel
theorem dc_M_order_71 : decode cd_M_order 71 = .ok (.goto (-67), 3) := by decide +kernel
theorem dc_M_order_74 : decode cd_M_order 74 = .ok (.iconst 0, 1) := by decide +kernel
theorem dc_M_order_75 : decode cd_M_order 75 = .ok (.ireturn, 1) := by decide +kernel
theorem dc_M_asked_0 : decode cd_M_asked 0 = .ok (.iload_n 1, 1) := by decide +kernel
theorem dc_M_asked_1 : decode cd_M_asked 1 = .ok (.tableswitch 74 9 12 #[31, 37, 46, 60], 31) := by decide +kernel
theorem dc_M_asked_32 : decode cd_M_asked 32 = .ok (.aload_n 0, 1) := by decide +kernel
theorem dc_M_asked_33 : decode cd_M_asked 33 = .ok (.iload_n 3, 1) := by decide +kernel
theorem dc_M_asked_34 : decode cd_M_asked 34 = .ok (.invokevirtual 94, 3) := by decide +kernel
theorem dc_M_asked_37 : decode cd_M_asked 37 = .ok (.ireturn, 1) := by decide +kernel
theorem dc_M_asked_38 : decode cd_M_asked 38 = .ok (.aload_n 0, 1) := by decide +kernel
theorem dc_M_asked_39 : decode cd_M_asked 39 = .ok (.iload_n 3, 1) := by decide +kernel
theorem dc_M_asked_40 : decode cd_M_asked 40 = .ok (.invokevirtual 94, 3) := by decide +kernel
theorem dc_M_asked_43 : decode cd_M_asked 43 = .ok (.invokestatic 98, 3) := by decide +kernel
theorem dc_M_asked_46 : decode cd_M_asked 46 = .ok (.ireturn, 1) := by decide +kernel
theorem dc_M_asked_47 : decode cd_M_asked 47 = .ok (.aload_n 0, 1) := by decide +kernel
theorem dc_M_asked_48 : decode cd_M_asked 48 = .ok (.iload_n 3, 1) := by decide +kernel
theorem dc_M_asked_49 : decode cd_M_asked 49 = .ok (.invokevirtual 101, 3) := by decide +kernel
theorem dc_M_asked_52 : decode cd_M_asked 52 = .ok (.ifCond .eq 7, 3) := by decide +kernel
theorem dc_M_asked_55 : decode cd_M_asked 55 = .ok (.iconst 1, 1) := by decide +kernel
theorem dc_M_asked_56 : decode cd_M_asked 56 = .ok (.goto 4, 3) := by decide +kernel
theorem dc_M_asked_59 : decode cd_M_asked 59 = .ok (.iconst 0, 1) := by decide +kernel
theorem dc_M_asked_60 : decode cd_M_asked 60 = .ok (.ireturn, 1) := by decide +kernel
theorem dc_M_asked_61 : decode cd_M_asked 61 = .ok (.aload_n 0, 1) := by decide +kernel
theorem dc_M_asked_62 : decode cd_M_asked 62 = .ok (.iload_n 3, 1) := by decide +kernel
theorem dc_M_asked_63 : decode cd_M_asked 63 = .ok (.invokevirtual 101, 3) := by decide +kernel
theorem dc_M_asked_66 : decode cd_M_asked 66 = .ok (.ifCond .eq 7, 3) := by decide +kernel
theorem dc_M_asked_69 : decode cd_M_asked 69 = .ok (.iconst 0, 1) := by decide +kernel
theorem dc_M_asked_70 : decode cd_M_asked 70 = .ok (.goto 4, 3) := by decide +kernel
theorem dc_M_asked_73 : decode cd_M_asked 73 = .ok (.iconst 1, 1) := by decide +kernel
theorem dc_M_asked_74 : decode cd_M_asked 74 = .ok (.ireturn, 1) := by decide +kernel
theorem dc_M_asked_75 : decode cd_M_asked 75 = .ok (.iload_n 1, 1) := by decide +kernel
theorem dc_M_asked_76 : decode cd_M_asked 76 = .ok (.bipush 16, 2) := by decide +kernel
theorem dc_M_asked_78 : decode cd_M_asked 78 = .ok (.if_icmp .le 35, 3) := by decide +kernel
theorem dc_M_asked_81 : decode cd_M_asked 81 = .ok (.iload_n 1, 1) := by decide +kernel
theorem dc_M_asked_82 : decode cd_M_asked 82 = .ok (.bipush 17, 2) := by decide +kernel
theorem dc_M_asked_84 : decode cd_M_asked 84 = .ok (.if_icmp .ne 7, 3) := by decide +kernel
theorem dc_M_asked_87 : decode cd_M_asked 87 = .ok (.iconst 5, 1) := by decide +kernel
theorem dc_M_asked_88 : decode cd_M_asked 88 = .ok (.goto 5, 3) := by decide +kernel
theorem dc_M_asked_91 : decode cd_M_asked 91 = .ok (.bipush 6, 2) := by decide +kernel
theorem dc_M_asked_93 : decode cd_M_asked 93 = .ok (.aload_n 0, 1) := by decide +kernel
theorem dc_M_asked_94 : decode cd_M_asked 94 = .ok (.getfield 21, 3) := by decide +kernel
theorem dc_M_asked_97 : decode cd_M_asked 97 = .ok (.iload_n 3, 1) := by decide +kernel
theorem dc_M_asked_98 : decode cd_M_asked 98 = .ok (.invokestatic 104, 3) := by decide +kernel
theorem dc_M_asked_101 : decode cd_M_asked 101 = .ok (.aload_n 0, 1) := by decide +kernel
theorem dc_M_asked_102 : decode cd_M_asked 102 = .ok (.getfield 24, 3) := by decide +kernel
theorem dc_M_asked_105 : decode cd_M_asked 105 = .ok (.iload_n 3, 1) := by decide +kernel
theorem dc_M_asked_106 : decode cd_M_asked 106 = .ok (.invokestatic 104, 3) := by decide +kernel
theorem dc_M_asked_109 : decode cd_M_asked 109 = .ok (.invokestatic 108, 3) := by decide +kernel
theorem dc_M_asked_112 : decode cd_M_asked 112 = .ok (.ireturn, 1) := by decide +kernel
theorem dc_M_asked_113 : decode cd_M_asked 113 = .ok (.aload_n 0, 1) := by decide +kernel
theorem dc_M_asked_114 : decode cd_M_asked 114 = .ok (.getfield 21, 3) := by decide +kernel
theorem dc_M_asked_117 : decode cd_M_asked 117 = .ok (.iload_n 3, 1) := by decide +kernel
theorem dc_M_asked_118 : decode cd_M_asked 118 = .ok (.invokestatic 46, 3) := by decide +kernel
theorem dc_M_asked_121 : decode cd_M_asked 121 = .ok (.ifCond .ne 14, 3) := by decide +kernel
theorem dc_M_asked_124 : decode cd_M_asked 124 = .ok (.aload_n 0, 1) := by decide +kernel
theorem dc_M_asked_125 : decode cd_M_asked 125 = .ok (.getfield 24, 3) := by decide +kernel
theorem dc_M_asked_128 : decode cd_M_asked 128 = .ok (.iload_n 3, 1) := by decide +kernel
theorem dc_M_asked_129 : decode cd_M_asked 129 = .ok (.invokestatic 46, 3) := by decide +kernel
theorem dc_M_asked_132 : decode cd_M_asked 132 = .ok (.ifCond .eq 5, 3) := by decide +kernel
theorem dc_M_asked_135 : decode cd_M_asked 135 = .ok (.iconst 3, 1) := by decide +kernel
theorem dc_M_asked_136 : decode cd_M_asked 136 = .ok (.ireturn, 1) := by decide +kernel
theorem dc_M_asked_137 : decode cd_M_asked 137 = .ok (.aload_n 0, 1) := by decide +kernel
theorem dc_M_asked_138 : decode cd_M_asked 138 = .ok (.iload_n 2, 1) := by decide +kernel
theorem dc_M_asked_139 : decode cd_M_asked 139 = .ok (.iload_n 3, 1) := by decide +kernel
theorem dc_M_asked_140 : decode cd_M_asked 140 = .ok (.invokevirtual 112, 3) := by decide +kernel
theorem dc_M_asked_143 : decode cd_M_asked 143 = .ok (.istore 4, 2) := by decide +kernel
theorem dc_M_asked_145 : decode cd_M_asked 145 = .ok (.iload_n 1, 1) := by decide +kernel
theorem dc_M_asked_146 : decode cd_M_asked 146 = .ok (.bipush 13, 2) := by decide +kernel
theorem dc_M_asked_148 : decode cd_M_asked 148 = .ok (.if_icmp .ne 11, 3) := by decide +kernel
theorem dc_M_asked_151 : decode cd_M_asked 151 = .ok (.iload 4, 2) := by decide +kernel
theorem dc_M_asked_153 : decode cd_M_asked 153 = .ok (.ifCond .ge 43, 3) := by decide +kernel
theorem dc_M_asked_156 : decode cd_M_asked 156 = .ok (.goto 36, 3) := by decide +kernel
theorem dc_M_asked_159 : decode cd_M_asked 159 = .ok (.iload_n 1, 1) := by decide +kernel
theorem dc_M_asked_160 : decode cd_M_asked 160 = .ok (.bipush 14, 2) := by decide +kernel
theorem dc_M_asked_162 : decode cd_M_asked 162 = .ok (.if_icmp .ne 11, 3) := by decide +kernel
theorem dc_M_asked_165 : decode cd_M_asked 165 = .ok (.iload 4, 2) := by decide +kernel
theorem dc_M_asked_167 : decode cd_M_asked 167 = .ok (.ifCond .gt 29, 3) := by decide +kernel
theorem dc_M_asked_170 : decode cd_M_asked 170 = .ok (.goto 22, 3) := by decide +kernel
theorem dc_M_asked_173 : decode cd_M_asked 173 = .ok (.iload_n 1, 1) := by decide +kernel
theorem dc_M_asked_174 : decode cd_M_asked 174 = .ok (.bipush 15, 2) := by decide +kernel
theorem dc_M_asked_176 : decode cd_M_asked 176 = .ok (.if_icmp .ne 11, 3) := by decide +kernel
theorem dc_M_asked_179 : decode cd_M_asked 179 = .ok (.iload 4, 2) := by decide +kernel
theorem dc_M_asked_181 : decode cd_M_asked 181 = .ok (.ifCond .le 15, 3) := by decide +kernel
theorem dc_M_asked_184 : decode cd_M_asked 184 = .ok (.goto 8, 3) := by decide +kernel
theorem dc_M_asked_187 : decode cd_M_asked 187 = .ok (.iload 4, 2) := by decide +kernel
theorem dc_M_asked_189 : decode cd_M_asked 189 = .ok (.ifCond .lt 7, 3) := by decide +kernel
theorem dc_M_asked_192 : decode cd_M_asked 192 = .ok (.iconst 1, 1) := by decide +kernel
theorem dc_M_asked_193 : decode cd_M_asked 193 = .ok (.goto 4, 3) := by decide +kernel
theorem dc_M_asked_196 : decode cd_M_asked 196 = .ok (.iconst 0, 1) := by decide +kernel
theorem dc_M_asked_197 : decode cd_M_asked 197 = .ok (.ireturn, 1) := by decide +kernel
theorem dc_M_amount_0 : decode cd_M_amount 0 = .ok (.iconst 0, 1) := by decide +kernel
theorem dc_M_amount_1 : decode cd_M_amount 1 = .ok (.istore_n 3, 1) := by decide +kernel
theorem dc_M_amount_2 : decode cd_M_amount 2 = .ok (.aload_n 0, 1) := by decide +kernel
theorem dc_M_amount_3 : decode cd_M_amount 3 = .ok (.getfield 13, 3) := by decide +kernel
theorem dc_M_amount_6 : decode cd_M_amount 6 = .ok (.iload_n 1, 1) := by decide +kernel
theorem dc_M_amount_7 : decode cd_M_amount 7 = .ok (.iaload, 1) := by decide +kernel
theorem dc_M_amount_8 : decode cd_M_amount 8 = .ok (.iconst 1, 1) := by decide +kernel
theorem dc_M_amount_9 : decode cd_M_amount 9 = .ok (.isub, 1) := by decide +kernel
theorem dc_M_amount_10 : decode cd_M_amount 10 = .ok (.istore 4, 2) := by decide +kernel
theorem dc_M_amount_12 : decode cd_M_amount 12 = .ok (.iload 4, 2) := by decide +kernel
theorem dc_M_amount_14 : decode cd_M_amount 14 = .ok (.ifCond .lt 33, 3) := by decide +kernel
theorem dc_M_amount_17 : decode cd_M_amount 17 = .ok (.iconst 2, 1) := by decide +kernel
theorem dc_M_amount_18 : decode cd_M_amount 18 = .ok (.iload_n 3, 1) := by decide +kernel
theorem dc_M_amount_19 : decode cd_M_amount 19 = .ok (.imul, 1) := by decide +kernel
theorem dc_M_amount_20 : decode cd_M_amount 20 = .ok (.aload_n 0, 1) := by decide +kernel
theorem dc_M_amount_21 : decode cd_M_amount 21 = .ok (.getfield 7, 3) := by decide +kernel
theorem dc_M_amount_24 : decode cd_M_amount 24 = .ok (.bipush 64, 2) := by decide +kernel
theorem dc_M_amount_26 : decode cd_M_amount 26 = .ok (.iload_n 1, 1) := by decide +kernel
theorem dc_M_amount_27 : decode cd_M_amount 27 = .ok (.imul, 1) := by decide +kernel
theorem dc_M_amount_28 : decode cd_M_amount 28 = .ok (.iload 4, 2) := by decide +kernel
theorem dc_M_amount_30 : decode cd_M_amount 30 = .ok (.iadd, 1) := by decide +kernel
theorem dc_M_amount_31 : decode cd_M_amount 31 = .ok (.baload, 1) := by decide +kernel
theorem dc_M_amount_32 : decode cd_M_amount 32 = .ok (.iadd, 1) := by decide +kernel
theorem dc_M_amount_33 : decode cd_M_amount 33 = .ok (.istore_n 3, 1) := by decide +kernel
theorem dc_M_amount_34 : decode cd_M_amount 34 = .ok (.iload_n 3, 1) := by decide +kernel
theorem dc_M_amount_35 : decode cd_M_amount 35 = .ok (.iload_n 2, 1) := by decide +kernel
theorem dc_M_amount_36 : decode cd_M_amount 36 = .ok (.if_icmp .lt 5, 3) := by decide +kernel
theorem dc_M_amount_39 : decode cd_M_amount 39 = .ok (.iload_n 2, 1) := by decide +kernel
theorem dc_M_amount_40 : decode cd_M_amount 40 = .ok (.ireturn, 1) := by decide +kernel
theorem dc_M_amount_41 : decode cd_M_amount 41 = .ok (.iinc 4 (-1), 3) := by decide +kernel
theorem dc_M_amount_44 : decode cd_M_amount 44 = .ok (.goto (-32), 3) := by decide +kernel
theorem dc_M_amount_47 : decode cd_M_amount 47 = .ok (.iload_n 3, 1) := by decide +kernel
theorem dc_M_amount_48 : decode cd_M_amount 48 = .ok (.ireturn, 1) := by decide +kernel
theorem dc_M_put_0 : decode cd_M_put 0 = .ok (.aload_n 0, 1) := by decide +kernel
theorem dc_M_put_1 : decode cd_M_put 1 = .ok (.getfield 33, 3) := by decide +kernel
theorem dc_M_put_4 : decode cd_M_put 4 = .ok (.aload_n 0, 1) := by decide +kernel
theorem dc_M_put_5 : decode cd_M_put 5 = .ok (.getfield 137, 3) := by decide +kernel
theorem dc_M_put_8 : decode cd_M_put 8 = .ok (.iload_n 1, 1) := by decide +kernel
theorem dc_M_put_9 : decode cd_M_put 9 = .ok (.i2b, 1) := by decide +kernel
theorem dc_M_put_10 : decode cd_M_put 10 = .ok (.bastore, 1) := by decide +kernel
theorem dc_M_put_11 : decode cd_M_put 11 = .ok (.aload_n 0, 1) := by decide +kernel
theorem dc_M_put_12 : decode cd_M_put 12 = .ok (.dup, 1) := by decide +kernel
theorem dc_M_put_13 : decode cd_M_put 13 = .ok (.getfield 137, 3) := by decide +kernel
theorem dc_M_put_16 : decode cd_M_put 16 = .ok (.iconst 1, 1) := by decide +kernel
theorem dc_M_put_17 : decode cd_M_put 17 = .ok (.iadd, 1) := by decide +kernel
theorem dc_M_put_18 : decode cd_M_put 18 = .ok (.putfield 137, 3) := by decide +kernel
theorem dc_M_put_21 : decode cd_M_put 21 = .ok (.return_, 1) := by decide +kernel
theorem dc_M_sort_0 : decode cd_M_sort 0 = .ok (.iconst 0, 1) := by decide +kernel
theorem dc_M_sort_1 : decode cd_M_sort 1 = .ok (.istore_n 3, 1) := by decide +kernel
theorem dc_M_sort_2 : decode cd_M_sort 2 = .ok (.iconst 0, 1) := by decide +kernel
theorem dc_M_sort_3 : decode cd_M_sort 3 = .ok (.istore 4, 2) := by decide +kernel
theorem dc_M_sort_5 : decode cd_M_sort 5 = .ok (.iload_n 1, 1) := by decide +kernel
theorem dc_M_sort_6 : decode cd_M_sort 6 = .ok (.istore 5, 2) := by decide +kernel
theorem dc_M_sort_8 : decode cd_M_sort 8 = .ok (.iload 5, 2) := by decide +kernel
theorem dc_M_sort_10 : decode cd_M_sort 10 = .ok (.iload_n 2, 1) := by decide +kernel
theorem dc_M_sort_11 : decode cd_M_sort 11 = .ok (.if_icmp .ge 37, 3) := by decide +kernel
theorem dc_M_sort_14 : decode cd_M_sort 14 = .ok (.aload_n 0, 1) := by decide +kernel
theorem dc_M_sort_15 : decode cd_M_sort 15 = .ok (.getfield 21, 3) := by decide +kernel
theorem dc_M_sort_18 : decode cd_M_sort 18 = .ok (.iload 5, 2) := by decide +kernel
theorem dc_M_sort_20 : decode cd_M_sort 20 = .ok (.baload, 1) := by decide +kernel
theorem dc_M_sort_21 : decode cd_M_sort 21 = .ok (.iconst 3, 1) := by decide +kernel
theorem dc_M_sort_22 : decode cd_M_sort 22 = .ok (.if_icmp .ne 6, 3) := by decide +kernel
theorem dc_M_sort_25 : decode cd_M_sort 25 = .ok (.iinc 3 1, 3) := by decide +kernel
theorem dc_M_sort_28 : decode cd_M_sort 28 = .ok (.aload_n 0, 1) := by decide +kernel
theorem dc_M_sort_29 : decode cd_M_sort 29 = .ok (.getfield 21, 3) := by decide +kernel
theorem dc_M_sort_32 : decode cd_M_sort 32 = .ok (.iload 5, 2) := by decide +kernel
theorem dc_M_sort_34 : decode cd_M_sort 34 = .ok (.baload, 1) := by decide +kernel
theorem dc_M_sort_35 : decode cd_M_sort 35 = .ok (.iconst 2, 1) := by decide +kernel
theorem dc_M_sort_36 : decode cd_M_sort 36 = .ok (.if_icmp .ne 6, 3) := by decide +kernel
theorem dc_M_sort_39 : decode cd_M_sort 39 = .ok (.iinc 4 1, 3) := by decide +kernel
theorem dc_M_sort_42 : decode cd_M_sort 42 = .ok (.iinc 5 1, 3) := by decide +kernel
theorem dc_M_sort_45 : decode cd_M_sort 45 = .ok (.goto (-37), 3) := by decide +kernel
theorem dc_M_sort_48 : decode cd_M_sort 48 = .ok (.iload_n 3, 1) := by decide +kernel
theorem dc_M_sort_49 : decode cd_M_sort 49 = .ok (.iload_n 2, 1) := by decide +kernel
theorem dc_M_sort_50 : decode cd_M_sort 50 = .ok (.iload_n 1, 1) := by decide +kernel
theorem dc_M_sort_51 : decode cd_M_sort 51 = .ok (.isub, 1) := by decide +kernel
theorem dc_M_sort_52 : decode cd_M_sort 52 = .ok (.if_icmp .ne 8, 3) := by decide +kernel
theorem dc_M_sort_55 : decode cd_M_sort 55 = .ok (.bipush 120, 2) := by decide +kernel
theorem dc_M_sort_57 : decode cd_M_sort 57 = .ok (.goto 36, 3) := by decide +kernel
theorem dc_M_sort_60 : decode cd_M_sort 60 = .ok (.iload 4, 2) := by decide +kernel
theorem dc_M_sort_62 : decode cd_M_sort 62 = .ok (.iload_n 2, 1) := by decide +kernel
theorem dc_M_sort_63 : decode cd_M_sort 63 = .ok (.iload_n 1, 1) := by decide +kernel
theorem dc_M_sort_64 : decode cd_M_sort 64 = .ok (.isub, 1) := by decide +kernel
theorem dc_M_sort_65 : decode cd_M_sort 65 = .ok (.if_icmp .ne 8, 3) := by decide +kernel
theorem dc_M_sort_68 : decode cd_M_sort 68 = .ok (.bipush 122, 2) := by decide +kernel
theorem dc_M_sort_70 : decode cd_M_sort 70 = .ok (.goto 23, 3) := by decide +kernel
theorem dc_M_sort_73 : decode cd_M_sort 73 = .ok (.iload_n 3, 1) := by decide +kernel
theorem dc_M_sort_74 : decode cd_M_sort 74 = .ok (.ifCond .le 8, 3) := by decide +kernel
theorem dc_M_sort_77 : decode cd_M_sort 77 = .ok (.bipush 88, 2) := by decide +kernel
theorem dc_M_sort_79 : decode cd_M_sort 79 = .ok (.goto 14, 3) := by decide +kernel
theorem dc_M_sort_82 : decode cd_M_sort 82 = .ok (.iload 4, 2) := by decide +kernel
theorem dc_M_sort_84 : decode cd_M_sort 84 = .ok (.ifCond .le 8, 3) := by decide +kernel
theorem dc_M_sort_87 : decode cd_M_sort 87 = .ok (.bipush 90, 2) := by decide +kernel
theorem dc_M_sort_89 : decode cd_M_sort 89 = .ok (.goto 4, 3) := by decide +kernel
theorem dc_M_sort_92 : decode cd_M_sort 92 = .ok (.iconst 0, 1) := by decide +kernel
theorem dc_M_sort_93 : decode cd_M_sort 93 = .ok (.ireturn, 1) := by decide +kernel
theorem dc_M_groups_0 : decode cd_M_groups 0 = .ok (.iload_n 3, 1) := by decide +kernel
theorem dc_M_groups_1 : decode cd_M_groups 1 = .ok (.ifCond .ne 7, 3) := by decide +kernel
theorem dc_M_groups_4 : decode cd_M_groups 4 = .ok (.iconst 1, 1) := by decide +kernel
theorem dc_M_groups_5 : decode cd_M_groups 5 = .ok (.goto 4, 3) := by decide +kernel
theorem dc_M_groups_8 : decode cd_M_groups 8 = .ok (.iconst 0, 1) := by decide +kernel
theorem dc_M_groups_9 : decode cd_M_groups 9 = .ok (.istore 4, 2) := by decide +kernel
theorem dc_M_groups_11 : decode cd_M_groups 11 = .ok (.iload_n 2, 1) := by decide +kernel
theorem dc_M_groups_12 : decode cd_M_groups 12 = .ok (.iconst 1, 1) := by decide +kernel
theorem dc_M_groups_13 : decode cd_M_groups 13 = .ok (.isub, 1) := by decide +kernel
theorem dc_M_groups_14 : decode cd_M_groups 14 = .ok (.iload_n 1, 1) := by decide +kernel
theorem dc_M_groups_15 : decode cd_M_groups 15 = .ok (.idiv, 1) := by decide +kernel
theorem dc_M_groups_16 : decode cd_M_groups 16 = .ok (.iload_n 1, 1) := by decide +kernel
theorem dc_M_groups_17 : decode cd_M_groups 17 = .ok (.imul, 1) := by decide +kernel
theorem dc_M_groups_18 : decode cd_M_groups 18 = .ok (.istore 5, 2) := by decide +kernel
theorem dc_M_groups_20 : decode cd_M_groups 20 = .ok (.iload 5, 2) := by decide +kernel
theorem dc_M_groups_22 : decode cd_M_groups 22 = .ok (.ifCond .lt 132, 3) := by decide +kernel
theorem dc_M_groups_25 : decode cd_M_groups 25 = .ok (.iload 5, 2) := by decide +kernel
theorem dc_M_groups_27 : decode cd_M_groups 27 = .ok (.iload_n 1, 1) := by decide +kernel
theorem dc_M_groups_28 : decode cd_M_groups 28 = .ok (.iadd, 1) := by decide +kernel
theorem dc_M_groups_29 : decode cd_M_groups 29 = .ok (.iload_n 2, 1) := by decide +kernel
theorem dc_M_groups_30 : decode cd_M_groups 30 = .ok (.if_icmp .le 7, 3) := by decide +kernel
theorem dc_M_groups_33 : decode cd_M_groups 33 = .ok (.iload_n 2, 1) := by decide +kernel
theorem dc_M_groups_34 : decode cd_M_groups 34 = .ok (.goto 7, 3) := by decide +kernel
theorem dc_M_groups_37 : decode cd_M_groups 37 = .ok (.iload 5, 2) := by decide +kernel
theorem dc_M_groups_39 : decode cd_M_groups 39 = .ok (.iload_n 1, 1) := by decide +kernel
theorem dc_M_groups_40 : decode cd_M_groups 40 = .ok (.iadd, 1) := by decide +kernel
theorem dc_M_groups_41 : decode cd_M_groups 41 = .ok (.istore 6, 2) := by decide +kernel
theorem dc_M_groups_43 : decode cd_M_groups 43 = .ok (.iconst 0, 1) := by decide +kernel
theorem dc_M_groups_44 : decode cd_M_groups 44 = .ok (.istore 7, 2) := by decide +kernel
theorem dc_M_groups_46 : decode cd_M_groups 46 = .ok (.aload_n 0, 1) := by decide +kernel
theorem dc_M_groups_47 : decode cd_M_groups 47 = .ok (.iload 5, 2) := by decide +kernel
theorem dc_M_groups_49 : decode cd_M_groups 49 = .ok (.iload 6, 2) := by decide +kernel
theorem dc_M_groups_51 : decode cd_M_groups 51 = .ok (.invokevirtual 140, 3) := by decide +kernel
theorem dc_M_groups_54 : decode cd_M_groups 54 = .ok (.istore 8, 2) := by decide +kernel
theorem dc_M_groups_56 : decode cd_M_groups 56 = .ok (.iload 6, 2) := by decide +kernel
theorem dc_M_groups_58 : decode cd_M_groups 58 = .ok (.iconst 1, 1) := by decide +kernel
theorem dc_M_groups_59 : decode cd_M_groups 59 = .ok (.isub, 1) := by decide +kernel
theorem dc_M_groups_60 : decode cd_M_groups 60 = .ok (.istore 9, 2) := by decide +kernel
theorem dc_M_groups_62 : decode cd_M_groups 62 = .ok (.iload 9, 2) := by decide +kernel
theorem dc_M_groups_64 : decode cd_M_groups 64 = .ok (.iload 5, 2) := by decide +kernel
theorem dc_M_groups_66 : decode cd_M_groups 66 = .ok (.if_icmp .lt 23, 3) := by decide +kernel
theorem dc_M_groups_69 : decode cd_M_groups 69 = .ok (.iconst 2, 1) := by decide +kernel
theorem dc_M_groups_70 : decode cd_M_groups 70 = .ok (.iload 7, 2) := by decide +kernel
theorem dc_M_groups_72 : decode cd_M_groups 72 = .ok (.imul, 1) := by decide +kernel
theorem dc_M_groups_73 : decode cd_M_groups 73 = .ok (.aload_n 0, 1) := by decide +kernel
theorem dc_M_groups_74 : decode cd_M_groups 74 = .ok (.getfield 21, 3) := by decide +kernel
theorem dc_M_groups_77 : decode cd_M_groups 77 = .ok (.iload 9, 2) := by decide +kernel
theorem dc_M_groups_79 : decode cd_M_groups 79 = .ok (.baload, 1) := by decide +kernel
theorem dc_M_groups_80 : decode cd_M_groups 80 = .ok (.iadd, 1) := by decide +kernel
theorem dc_M_groups_81 : decode cd_M_groups 81 = .ok (.istore 7, 2) := by decide +kernel
theorem dc_M_groups_83 : decode cd_M_groups 83 = .ok (.iinc 9 (-1), 3) := by decide +kernel
theorem dc_M_groups_86 : decode cd_M_groups 86 = .ok (.goto (-24), 3) := by decide +kernel
theorem dc_M_groups_89 : decode cd_M_groups 89 = .ok (.iload 8, 2) := by decide +kernel
theorem dc_M_groups_91 : decode cd_M_groups 91 = .ok (.ifCond .ne 28, 3) := by decide +kernel
theorem dc_M_groups_94 : decode cd_M_groups 94 = .ok (.iload 7, 2) := by decide +kernel
theorem dc_M_groups_96 : decode cd_M_groups 96 = .ok (.bipush 10, 2) := by decide +kernel
theorem dc_M_groups_98 : decode cd_M_groups 98 = .ok (.if_icmp .ge 11, 3) := by decide +kernel
theorem dc_M_groups_101 : decode cd_M_groups 101 = .ok (.bipush 48, 2) := by decide +kernel
theorem dc_M_groups_103 : decode cd_M_groups 103 = .ok (.iload 7, 2) := by decide +kernel
theorem dc_M_groups_105 : decode cd_M_groups 105 = .ok (.iadd, 1) := by decide +kernel
theorem dc_M_groups_106 : decode cd_M_groups 106 = .ok (.goto 11, 3) := by decide +kernel
theorem dc_M_groups_109 : decode cd_M_groups 109 = .ok (.bipush 97, 2) := by decide +kernel
theorem dc_M_groups_111 : decode cd_M_groups 111 = .ok (.iload 7, 2) := by decide +kernel
theorem dc_M_groups_113 : decode cd_M_groups 113 = .ok (.iadd, 1) := by decide +kernel
theorem dc_M_groups_114 : decode cd_M_groups 114 = .ok (.bipush 10, 2) := by decide +kernel
theorem dc_M_groups_116 : decode cd_M_groups 116 = .ok (.isub, 1) := by decide +kernel
theorem dc_M_groups_117 : decode cd_M_groups 117 = .ok (.istore 8, 2) := by decide +kernel
theorem dc_M_groups_119 : decode cd_M_groups 119 = .ok (.iload 8, 2) := by decide +kernel
theorem dc_M_groups_121 : decode cd_M_groups 121 = .ok (.bipush 48, 2) := by decide +kernel
theorem dc_M_groups_123 : decode cd_M_groups 123 = .ok (.if_icmp .ne 8, 3) := by decide +kernel
theorem dc_M_groups_126 : decode cd_M_groups 126 = .ok (.iload 5, 2) := by decide +kernel
theorem dc_M_groups_128 : decode cd_M_groups 128 = .ok (.ifCond .ne 6, 3) := by decide +kernel
theorem dc_M_groups_131 : decode cd_M_groups 131 = .ok (.iconst 1, 1) := by decide +kernel
theorem dc_M_groups_132 : decode cd_M_groups 132 = .ok (.istore 4, 2) := by decide +kernel
theorem dc_M_groups_134 : decode cd_M_groups 134 = .ok (.iload 4, 2) := by decide +kernel
theorem dc_M_groups_136 : decode cd_M_groups 136 = .ok (.ifCond .eq 9, 3) := by decide +kernel
theorem dc_M_groups_139 : decode cd_M_groups 139 = .ok (.aload_n 0, 1) := by decide +kernel
theorem dc_M_groups_140 : decode cd_M_groups 140 = .ok (.iload 8, 2) := by decide +kernel
theorem dc_M_groups_142 : decode cd_M_groups 142 = .ok (.invokevirtual 143, 3) := by decide +kernel
theorem dc_M_groups_145 : decode cd_M_groups 145 = .ok (.iload 5, 2) := by decide +kernel
theorem dc_M_groups_147 : decode cd_M_groups 147 = .ok (.iload_n 1, 1) := by decide +kernel
theorem dc_M_groups_148 : decode cd_M_groups 148 = .ok (.isub, 1) := by decide +kernel
theorem dc_M_groups_149 : decode cd_M_groups 149 = .ok (.istore 5, 2) := by decide +kernel
theorem dc_M_groups_151 : decode cd_M_groups 151 = .ok (.goto (-131), 3) := by decide +kernel
theorem dc_M_groups_154 : decode cd_M_groups 154 = .ok (.return_, 1) := by decide +kernel
theorem dc_M_number_0 : decode cd_M_number 0 = .ok (.aload_n 0, 1) := by decide +kernel
theorem dc_M_number_1 : decode cd_M_number 1 = .ok (.getfield 27, 3) := by decide +kernel
theorem dc_M_number_4 : decode cd_M_number 4 = .ok (.iload_n 1, 1) := by decide +kernel
theorem dc_M_number_5 : decode cd_M_number 5 = .ok (.iconst 1, 1) := by decide +kernel
theorem dc_M_number_6 : decode cd_M_number 6 = .ok (.invokestatic 64, 3) := by decide +kernel
theorem dc_M_number_9 : decode cd_M_number 9 = .ok (.aload_n 0, 1) := by decide +kernel
theorem dc_M_number_10 : decode cd_M_number 10 = .ok (.aload_n 0, 1) := by decide +kernel
theorem dc_M_number_11 : decode cd_M_number 11 = .ok (.getfield 27, 3) := by decide +kernel
theorem dc_M_number_14 : decode cd_M_number 14 = .ok (.iload_n 2, 1) := by decide +kernel
theorem dc_M_number_15 : decode cd_M_number 15 = .ok (.ifCond .eq 9, 3) := by decide +kernel
theorem dc_M_number_18 : decode cd_M_number 18 = .ok (.iload_n 1, 1) := by decide +kernel
theorem dc_M_number_19 : decode cd_M_number 19 = .ok (.iconst 1, 1) := by decide +kernel
theorem dc_M_number_20 : decode cd_M_number 20 = .ok (.isub, 1) := by decide +kernel
theorem dc_M_number_21 : decode cd_M_number 21 = .ok (.goto 4, 3) := by decide +kernel
theorem dc_M_number_24 : decode cd_M_number 24 = .ok (.iload_n 1, 1) := by decide +kernel
theorem dc_M_number_25 : decode cd_M_number 25 = .ok (.aload_n 0, 1) := by decide +kernel
theorem dc_M_number_26 : decode cd_M_number 26 = .ok (.getfield 36, 3) := by decide +kernel
theorem dc_M_number_29 : decode cd_M_number 29 = .ok (.invokevirtual 146, 3) := by decide +kernel
theorem dc_M_number_32 : decode cd_M_number 32 = .ok (.iload_n 2, 1) := by decide +kernel
theorem dc_M_number_33 : decode cd_M_number 33 = .ok (.ifCond .eq 7, 3) := by decide +kernel
theorem dc_M_number_36 : decode cd_M_number 36 = .ok (.iconst 1, 1) := by decide +kernel
theorem dc_M_number_37 : decode cd_M_number 37 = .ok (.goto 4, 3) := by decide +kernel
theorem dc_M_number_40 : decode cd_M_number 40 = .ok (.iconst 0, 1) := by decide +kernel
theorem dc_M_number_41 : decode cd_M_number 41 = .ok (.iadd, 1) := by decide +kernel
theorem dc_M_number_42 : decode cd_M_number 42 = .ok (.istore 4, 2) := by decide +kernel
theorem dc_M_number_44 : decode cd_M_number 44 = .ok (.aload_n 0, 1) := by decide +kernel
theorem dc_M_number_45 : decode cd_M_number 45 = .ok (.iconst 0, 1) := by decide +kernel
theorem dc_M_number_46 : decode cd_M_number 46 = .ok (.iload_n 1, 1) := by decide +kernel
theorem dc_M_number_47 : decode cd_M_number 47 = .ok (.invokevirtual 140, 3) := by decide +kernel
theorem dc_M_number_50 : decode cd_M_number 50 = .ok (.istore 5, 2) := by decide +kernel
theorem dc_M_number_52 : decode cd_M_number 52 = .ok (.iconst 1, 1) := by decide +kernel
theorem dc_M_number_53 : decode cd_M_number 53 = .ok (.istore 6, 2) := by decide +kernel
theorem dc_M_number_55 : decode cd_M_number 55 = .ok (.iload 5, 2) := by decide +kernel
theorem dc_M_number_57 : decode cd_M_number 57 = .ok (.ifCond .ne 23, 3) := by decide +kernel
theorem dc_M_number_60 : decode cd_M_number 60 = .ok (.iload_n 2, 1) := by decide +kernel
theorem dc_M_number_61 : decode cd_M_number 61 = .ok (.ifCond .eq 19, 3) := by decide +kernel
theorem dc_M_number_64 : decode cd_M_number 64 = .ok (.aload_n 0, 1) := by decide +kernel
theorem dc_M_number_65 : decode cd_M_number 65 = .ok (.getfield 21, 3) := by decide +kernel
theorem dc_M_number_68 : decode cd_M_number 68 = .ok (.iload_n 1, 1) := by decide +kernel
theorem dc_M_number_69 : decode cd_M_number 69 = .ok (.iconst 1, 1) := by decide +kernel
theorem dc_M_number_70 : decode cd_M_number 70 = .ok (.isub, 1) := by decide +kernel
theorem dc_M_number_71 : decode cd_M_number 71 = .ok (.baload, 1) := by decide +kernel
theorem dc_M_number_72 : decode cd_M_number 72 = .ok (.iconst 1, 1) := by decide +kernel
theorem dc_M_number_73 : decode cd_M_number 73 = .ok (.if_icmp .ne 7, 3) := by decide +kernel
theorem dc_M_number_76 : decode cd_M_number 76 = .ok (.iconst 1, 1) := by decide +kernel
theorem dc_M_number_77 : decode cd_M_number 77 = .ok (.goto 4, 3) := by decide +kernel
theorem dc_M_number_80 : decode cd_M_number 80 = .ok (.iconst 0, 1) := by decide +kernel
theorem dc_M_number_81 : decode cd_M_number 81 = .ok (.istore 7, 2) := by decide +kernel
theorem dc_M_number_83 : decode cd_M_number 83 = .ok (.iload 7, 2) := by decide +kernel
theorem dc_M_number_85 : decode cd_M_number 85 = .ok (.ifCond .eq 11, 3) := by decide +kernel
theorem dc_M_number_88 : decode cd_M_number 88 = .ok (.aload_n 0, 1) := by decide +kernel
theorem dc_M_number_89 : decode cd_M_number 89 = .ok (.getfield 21, 3) := by decide +kernel
theorem dc_M_number_92 : decode cd_M_number 92 = .ok (.iload_n 1, 1) := by decide +kernel
theorem dc_M_number_93 : decode cd_M_number 93 = .ok (.invokestatic 72, 3) := by decide +kernel
theorem dc_M_number_96 : decode cd_M_number 96 = .ok (.iload 5, 2) := by decide +kernel
theorem dc_M_number_98 : decode cd_M_number 98 = .ok (.ifCond .ne 18, 3) := by decide +kernel
theorem dc_M_number_101 : decode cd_M_number 101 = .ok (.aload_n 0, 1) := by decide +kernel
theorem dc_M_number_102 : decode cd_M_number 102 = .ok (.aload_n 0, 1) := by decide +kernel
theorem dc_M_number_103 : decode cd_M_number 103 = .ok (.getfield 21, 3) := by decide +kernel
theorem dc_M_number_106 : decode cd_M_number 106 = .ok (.iload_n 1, 1) := by decide +kernel
theorem dc_M_number_107 : decode cd_M_number 107 = .ok (.aload_n 0, 1) := by decide +kernel
theorem dc_M_number_108 : decode cd_M_number 108 = .ok (.getfield 36, 3) := by decide +kernel
theorem dc_M_number_111 : decode cd_M_number 111 = .ok (.invokevirtual 146, 3) := by decide +kernel
theorem dc_M_number_114 : decode cd_M_number 114 = .ok (.istore 6, 2) := by decide +kernel
theorem dc_M_number_116 : decode cd_M_number 116 = .ok (.iload 6, 2) := by decide +kernel
theorem dc_M_number_118 : decode cd_M_number 118 = .ok (.iload 7, 2) := by decide +kernel
theorem dc_M_number_120 : decode cd_M_number 120 = .ok (.ifCond .eq 7, 3) := by decide +kernel
theorem dc_M_number_123 : decode cd_M_number 123 = .ok (.iconst 1, 1) := by decide +kernel
theorem dc_M_number_124 : decode cd_M_number 124 = .ok (.goto 4, 3) := by decide +kernel
theorem dc_M_number_127 : decode cd_M_number 127 = .ok (.iconst 0, 1) := by decide +kernel
theorem dc_M_number_128 : decode cd_M_number 128 = .ok (.iadd, 1) := by decide +kernel
theorem dc_M_number_129 : decode cd_M_number 129 = .ok (.istore 8, 2) := by decide +kernel
theorem dc_M_number_131 : decode cd_M_number 131 = .ok (.iload 8, 2) := by decide +kernel
theorem dc_M_number_133 : decode cd_M_number 133 = .ok (.iload 4, 2) := by decide +kernel
theorem dc_M_number_135 : decode cd_M_number 135 = .ok (.if_icmp .ge 19, 3) := by decide +kernel
theorem dc_M_number_138 : decode cd_M_number 138 = .ok (.iload_n 3, 1) := by decide +kernel
theorem dc_M_number_139 : decode cd_M_number 139 = .ok (.ifCond .ne 15, 3) := by decide +kernel
theorem dc_M_number_142 : decode cd_M_number 142 = .ok (.aload_n 0, 1) := by decide +kernel
theorem dc_M_number_143 : decode cd_M_number 143 = .ok (.bipush 32, 2) := by decide +kernel
theorem dc_M_number_145 : decode cd_M_number 145 = .ok (.invokevirtual 143, 3) := by decide +kernel
theorem dc_M_number_148 : decode cd_M_number 148 = .ok (.iinc 8 1, 3) := by decide +kernel
theorem dc_M_number_151 : decode cd_M_number 151 = .ok (.goto (-20), 3) := by decide +kernel
theorem dc_M_number_154 : decode cd_M_number 154 = .ok (.iload 7, 2) := by decide +kernel
theorem dc_M_number_156 : decode cd_M_number 156 = .ok (.ifCond .eq 9, 3) := by decide +kernel
theorem dc_M_number_159 : decode cd_M_number 159 = .ok (.aload_n 0, 1) := by decide +kernel
theorem dc_M_number_160 : decode cd_M_number 160 = .ok (.bipush 45, 2) := by decide +kernel
theorem dc_M_number_162 : decode cd_M_number 162 = .ok (.invokevirtual 143, 3) := by decide +kernel
theorem dc_M_number_165 : decode cd_M_number 165 = .ok (.iload 6, 2) := by decide +kernel
theorem dc_M_number_167 : decode cd_M_number 167 = .ok (.iconst 1, 1) := by decide +kernel
theorem dc_M_number_168 : decode cd_M_number 168 = .ok (.isub, 1) := by decide +kernel
theorem dc_M_number_169 : decode cd_M_number 169 = .ok (.istore 8, 2) := by decide +kernel
theorem dc_M_number_171 : decode cd_M_number 171 = .ok (.iload 8, 2) := by decide +kernel
theorem dc_M_number_173 : decode cd_M_number 173 = .ok (.ifCond .lt 33, 3) := by decide +kernel
theorem dc_M_number_176 : decode cd_M_number 176 = .ok (.aload_n 0, 1) := by decide +kernel
theorem dc_M_number_177 : decode cd_M_number 177 = .ok (.iload 5, 2) := by decide +kernel
theorem dc_M_number_179 : decode cd_M_number 179 = .ok (.ifCond .eq 8, 3) := by decide +kernel
theorem dc_M_number_182 : decode cd_M_number 182 = .ok (.iload 5, 2) := by decide +kernel
theorem dc_M_number_184 : decode cd_M_number 184 = .ok (.goto 13, 3) := by decide +kernel
theorem dc_M_number_187 : decode cd_M_number 187 = .ok (.bipush 48, 2) := by decide +kernel
theorem dc_M_number_189 : decode cd_M_number 189 = .ok (.aload_n 0, 1) := by decide +kernel
theorem dc_M_number_190 : decode cd_M_number 190 = .ok (.getfield 36, 3) := by decide +kernel
theorem dc_M_number_193 : decode cd_M_number 193 = .ok (.iload 8, 2) := by decide +kernel
theorem dc_M_number_195 : decode cd_M_number 195 = .ok (.baload, 1) := by decide +kernel
theorem dc_M_number_196 : decode cd_M_number 196 = .ok (.iadd, 1) := by decide +kernel
theorem dc_M_number_197 : decode cd_M_number 197 = .ok (.invokevirtual 143, 3) := by decide +kernel
theorem dc_M_number_200 : decode cd_M_number 200 = .ok (.iinc 8 (-1), 3) := by decide +kernel
theorem dc_M_number_203 : decode cd_M_number 203 = .ok (.goto (-32), 3) := by decide +kernel
theorem dc_M_number_206 : decode cd_M_number 206 = .ok (.return_, 1) := by decide +kernel
theorem dc_M_push_0 : decode cd_M_push 0 = .ok (.aload_n 0, 1) := by decide +kernel
theorem dc_M_push_1 : decode cd_M_push 1 = .ok (.iload 5, 2) := by decide +kernel
theorem dc_M_push_3 : decode cd_M_push 3 = .ok (.iconst 1, 1) := by decide +kernel
theorem dc_M_push_4 : decode cd_M_push 4 = .ok (.if_icmp .lt 10, 3) := by decide +kernel
theorem dc_M_push_7 : decode cd_M_push 7 = .ok (.iload 5, 2) := by decide +kernel
theorem dc_M_push_9 : decode cd_M_push 9 = .ok (.bipush 64, 2) := by decide +kernel
theorem dc_M_push_11 : decode cd_M_push 11 = .ok (.if_icmp .le 7, 3) := by decide +kernel
theorem dc_M_push_14 : decode cd_M_push 14 = .ok (.iconst 1, 1) := by decide +kernel
theorem dc_M_push_15 : decode cd_M_push 15 = .ok (.goto 4, 3) := by decide +kernel
theorem dc_M_push_18 : decode cd_M_push 18 = .ok (.iconst 0, 1) := by decide +kernel
theorem dc_M_push_19 : decode cd_M_push 19 = .ok (.iconst 0, 1) := by decide +kernel
theorem dc_M_push_20 : decode cd_M_push 20 = .ok (.iconst 1, 1) := by decide +kernel
theorem dc_M_push_21 : decode cd_M_push 21 = .ok (.invokevirtual 54, 3) := by decide +kernel
theorem dc_M_push_24 : decode cd_M_push 24 = .ok (.ifCond .eq 5, 3) := by decide +kernel
theorem dc_M_push_27 : decode cd_M_push 27 = .ok (.iconst 0, 1) := by decide +kernel
theorem dc_M_push_28 : decode cd_M_push 28 = .ok (.ireturn, 1) := by decide +kernel
theorem dc_M_push_29 : decode cd_M_push 29 = .ok (.iconst 0, 1) := by decide +kernel
theorem dc_M_push_30 : decode cd_M_push 30 = .ok (.istore 7, 2) := by decide +kernel
theorem dc_M_push_32 : decode cd_M_push 32 = .ok (.iload 7, 2) := by decide +kernel
theorem dc_M_push_34 : decode cd_M_push 34 = .ok (.iload 5, 2) := by decide +kernel
theorem dc_M_push_36 : decode cd_M_push 36 = .ok (.if_icmp .ge 35, 3) := by decide +kernel
theorem dc_M_push_39 : decode cd_M_push 39 = .ok (.aload_n 0, 1) := by decide +kernel
theorem dc_M_push_40 : decode cd_M_push 40 = .ok (.getfield 21, 3) := by decide +kernel
theorem dc_M_push_43 : decode cd_M_push 43 = .ok (.iload 7, 2) := by decide +kernel
theorem dc_M_push_45 : decode cd_M_push 45 = .ok (.lload_n 1, 1) := by decide +kernel
theorem dc_M_push_46 : decode cd_M_push 46 = .ok (.iload 7, 2) := by decide +kernel
theorem dc_M_push_48 : decode cd_M_push 48 = .ok (.lushr, 1) := by decide +kernel
theorem dc_M_push_49 : decode cd_M_push 49 = .ok (.lconst 1, 1) := by decide +kernel
theorem dc_M_push_50 : decode cd_M_push 50 = .ok (.land, 1) := by decide +kernel
theorem dc_M_push_51 : decode cd_M_push 51 = .ok (.ldc2_w 58, 3) := by decide +kernel
theorem dc_M_push_54 : decode cd_M_push 54 = .ok (.lload_n 3, 1) := by decide +kernel
theorem dc_M_push_55 : decode cd_M_push 55 = .ok (.iload 7, 2) := by decide +kernel
theorem dc_M_push_57 : decode cd_M_push 57 = .ok (.lushr, 1) := by decide +kernel
theorem dc_M_push_58 : decode cd_M_push 58 = .ok (.lconst 1, 1) := by decide +kernel
theorem dc_M_push_59 : decode cd_M_push 59 = .ok (.land, 1) := by decide +kernel
theorem dc_M_push_60 : decode cd_M_push 60 = .ok (.lmul, 1) := by decide +kernel
theorem dc_M_push_61 : decode cd_M_push 61 = .ok (.ladd, 1) := by decide +kernel
theorem dc_M_push_62 : decode cd_M_push 62 = .ok (.l2i, 1) := by decide +kernel
theorem dc_M_push_63 : decode cd_M_push 63 = .ok (.i2b, 1) := by decide +kernel
theorem dc_M_push_64 : decode cd_M_push 64 = .ok (.bastore, 1) := by decide +kernel
theorem dc_M_push_65 : decode cd_M_push 65 = .ok (.iinc 7 1, 3) := by decide +kernel
theorem dc_M_push_68 : decode cd_M_push 68 = .ok (.goto (-36), 3) := by decide +kernel
theorem dc_M_push_71 : decode cd_M_push 71 = .ok (.aload_n 0, 1) := by decide +kernel
theorem dc_M_push_72 : decode cd_M_push 72 = .ok (.aload_n 0, 1) := by decide +kernel
theorem dc_M_push_73 : decode cd_M_push 73 = .ok (.getfield 21, 3) := by decide +kernel
theorem dc_M_push_76 : decode cd_M_push 76 = .ok (.iload 5, 2) := by decide +kernel
theorem dc_M_push_78 : decode cd_M_push 78 = .ok (.iload 6, 2) := by decide +kernel
theorem dc_M_push_80 : decode cd_M_push 80 = .ok (.invokevirtual 60, 3) := by decide +kernel
theorem dc_M_push_83 : decode cd_M_push 83 = .ok (.aload_n 0, 1) := by decide +kernel
theorem dc_M_push_84 : decode cd_M_push 84 = .ok (.getfield 43, 3) := by decide +kernel
theorem dc_M_push_87 : decode cd_M_push 87 = .ok (.ireturn, 1) := by decide +kernel
theorem dc_M_two_0 : decode cd_M_two 0 = .ok (.aload_n 0, 1) := by decide +kernel
theorem dc_M_two_1 : decode cd_M_two 1 = .ok (.iload_n 1, 1) := by decide +kernel
theorem dc_M_two_2 : decode cd_M_two 2 = .ok (.ifCond .lt 9, 3) := by decide +kernel
theorem dc_M_two_5 : decode cd_M_two 5 = .ok (.iload_n 1, 1) := by decide +kernel
theorem dc_M_two_6 : decode cd_M_two 6 = .ok (.bipush 18, 2) := by decide +kernel
theorem dc_M_two_8 : decode cd_M_two 8 = .ok (.if_icmp .le 7, 3) := by decide +kernel
theorem dc_M_two_11 : decode cd_M_two 11 = .ok (.iconst 1, 1) := by decide +kernel
theorem dc_M_two_12 : decode cd_M_two 12 = .ok (.goto 4, 3) := by decide +kernel
theorem dc_M_two_15 : decode cd_M_two 15 = .ok (.iconst 0, 1) := by decide +kernel
theorem dc_M_two_16 : decode cd_M_two 16 = .ok (.iconst 2, 1) := by decide +kernel
theorem dc_M_two_17 : decode cd_M_two 17 = .ok (.iconst 1, 1) := by decide +kernel
theorem dc_M_two_18 : decode cd_M_two 18 = .ok (.invokevirtual 54, 3) := by decide +kernel
theorem dc_M_two_21 : decode cd_M_two 21 = .ok (.ifCond .eq 4, 3) := by decide +kernel
theorem dc_M_two_24 : decode cd_M_two 24 = .ok (.return_, 1) := by decide +kernel
theorem dc_M_two_25 : decode cd_M_two 25 = .ok (.aload_n 0, 1) := by decide +kernel
theorem dc_M_two_26 : decode cd_M_two 26 = .ok (.invokevirtual 116, 3) := by decide +kernel
theorem dc_M_two_29 : decode cd_M_two 29 = .ok (.istore_n 2, 1) := by decide +kernel
theorem dc_M_two_30 : decode cd_M_two 30 = .ok (.aload_n 0, 1) := by decide +kernel
theorem dc_M_two_31 : decode cd_M_two 31 = .ok (.getfield 17, 3) := by decide +kernel
theorem dc_M_two_34 : decode cd_M_two 34 = .ok (.aload_n 0, 1) := by decide +kernel
theorem dc_M_two_35 : decode cd_M_two 35 = .ok (.getfield 43, 3) := by decide +kernel
theorem dc_M_two_38 : decode cd_M_two 38 = .ok (.iconst 1, 1) := by decide +kernel
theorem dc_M_two_39 : decode cd_M_two 39 = .ok (.isub, 1) := by decide +kernel
theorem dc_M_two_40 : decode cd_M_two 40 = .ok (.baload, 1) := by decide +kernel
theorem dc_M_two_41 : decode cd_M_two 41 = .ok (.ifCond .eq 21, 3) := by decide +kernel
theorem dc_M_two_44 : decode cd_M_two 44 = .ok (.aload_n 0, 1) := by decide +kernel
theorem dc_M_two_45 : decode cd_M_two 45 = .ok (.getfield 17, 3) := by decide +kernel
theorem dc_M_two_48 : decode cd_M_two 48 = .ok (.aload_n 0, 1) := by decide +kernel
theorem dc_M_two_49 : decode cd_M_two 49 = .ok (.getfield 43, 3) := by decide +kernel
theorem dc_M_two_52 : decode cd_M_two 52 = .ok (.iconst 2, 1) := by decide +kernel
theorem dc_M_two_53 : decode cd_M_two 53 = .ok (.isub, 1) := by decide +kernel
theorem dc_M_two_54 : decode cd_M_two 54 = .ok (.baload, 1) := by decide +kernel
theorem dc_M_two_55 : decode cd_M_two 55 = .ok (.ifCond .eq 7, 3) := by decide +kernel
theorem dc_M_two_58 : decode cd_M_two 58 = .ok (.iconst 1, 1) := by decide +kernel
theorem dc_M_two_59 : decode cd_M_two 59 = .ok (.goto 4, 3) := by decide +kernel
theorem dc_M_two_62 : decode cd_M_two 62 = .ok (.iconst 0, 1) := by decide +kernel
theorem dc_M_two_63 : decode cd_M_two 63 = .ok (.istore_n 3, 1) := by decide +kernel
theorem dc_M_two_64 : decode cd_M_two 64 = .ok (.iload_n 1, 1) := by decide +kernel
theorem dc_M_two_65 : decode cd_M_two 65 = .ok (.bipush 16, 2) := by decide +kernel
theorem dc_M_two_67 : decode cd_M_two 67 = .ok (.if_icmp .le 7, 3) := by decide +kernel
theorem dc_M_two_70 : decode cd_M_two 70 = .ok (.iconst 1, 1) := by decide +kernel
theorem dc_M_two_71 : decode cd_M_two 71 = .ok (.goto 4, 3) := by decide +kernel
theorem dc_M_two_74 : decode cd_M_two 74 = .ok (.iconst 0, 1) := by decide +kernel
theorem dc_M_two_75 : decode cd_M_two 75 = .ok (.istore 4, 2) := by decide +kernel
theorem dc_M_two_77 : decode cd_M_two 77 = .ok (.aload_n 0, 1) := by decide +kernel
theorem dc_M_two_78 : decode cd_M_two 78 = .ok (.aload_n 0, 1) := by decide +kernel
theorem dc_M_two_79 : decode cd_M_two 79 = .ok (.getfield 43, 3) := by decide +kernel
theorem dc_M_two_82 : decode cd_M_two 82 = .ok (.iconst 2, 1) := by decide +kernel
theorem dc_M_two_83 : decode cd_M_two 83 = .ok (.isub, 1) := by decide +kernel
theorem dc_M_two_84 : decode cd_M_two 84 = .ok (.aload_n 0, 1) := by decide +kernel
theorem dc_M_two_85 : decode cd_M_two 85 = .ok (.getfield 21, 3) := by decide +kernel
theorem dc_M_two_88 : decode cd_M_two 88 = .ok (.iload_n 2, 1) := by decide +kernel
theorem dc_M_two_89 : decode cd_M_two 89 = .ok (.iload_n 3, 1) := by decide +kernel
theorem dc_M_two_90 : decode cd_M_two 90 = .ok (.invokevirtual 50, 3) := by decide +kernel
theorem dc_M_two_93 : decode cd_M_two 93 = .ok (.aload_n 0, 1) := by decide +kernel
theorem dc_M_two_94 : decode cd_M_two 94 = .ok (.aload_n 0, 1) := by decide +kernel
theorem dc_M_two_95 : decode cd_M_two 95 = .ok (.getfield 43, 3) := by decide +kernel
theorem dc_M_two_98 : decode cd_M_two 98 = .ok (.iconst 1, 1) := by decide +kernel
theorem dc_M_two_99 : decode cd_M_two 99 = .ok (.isub, 1) := by decide +kernel
theorem dc_M_two_100 : decode cd_M_two 100 = .ok (.aload_n 0, 1) := by decide +kernel
theorem dc_M_two_101 : decode cd_M_two 101 = .ok (.getfield 24, 3) := by decide +kernel
theorem dc_M_two_104 : decode cd_M_two 104 = .ok (.iload_n 2, 1) := by decide +kernel
theorem dc_M_two_105 : decode cd_M_two 105 = .ok (.iload_n 3, 1) := by decide +kernel
theorem dc_M_two_106 : decode cd_M_two 106 = .ok (.invokevirtual 50, 3) := by decide +kernel
theorem dc_M_two_109 : decode cd_M_two 109 = .ok (.iload 4, 2) := by decide +kernel
theorem dc_M_two_111 : decode cd_M_two 111 = .ok (.ifCond .eq 35, 3) := by decide +kernel
theorem dc_M_two_114 : decode cd_M_two 114 = .ok (.aload_n 0, 1) := by decide +kernel
theorem dc_M_two_115 : decode cd_M_two 115 = .ok (.aload_n 0, 1) := by decide +kernel
theorem dc_M_two_116 : decode cd_M_two 116 = .ok (.getfield 43, 3) := by decide +kernel
theorem dc_M_two_119 : decode cd_M_two 119 = .ok (.iconst 2, 1) := by decide +kernel
theorem dc_M_two_120 : decode cd_M_two 120 = .ok (.isub, 1) := by decide +kernel
theorem dc_M_two_121 : decode cd_M_two 121 = .ok (.aload_n 0, 1) := by decide +kernel
theorem dc_M_two_122 : decode cd_M_two 122 = .ok (.getfield 21, 3) := by decide +kernel
theorem dc_M_two_125 : decode cd_M_two 125 = .ok (.iload_n 2, 1) := by decide +kernel
theorem dc_M_two_126 : decode cd_M_two 126 = .ok (.iconst 0, 1) := by decide +kernel
theorem dc_M_two_127 : decode cd_M_two 127 = .ok (.invokevirtual 50, 3) := by decide +kernel
theorem dc_M_two_130 : decode cd_M_two 130 = .ok (.aload_n 0, 1) := by decide +kernel
theorem dc_M_two_131 : decode cd_M_two 131 = .ok (.aload_n 0, 1) := by decide +kernel
theorem dc_M_two_132 : decode cd_M_two 132 = .ok (.getfield 43, 3) := by decide +kernel
theorem dc_M_two_135 : decode cd_M_two 135 = .ok (.iconst 1, 1) := by decide +kernel
theorem dc_M_two_136 : decode cd_M_two 136 = .ok (.isub, 1) := by decide +kernel
theorem dc_M_two_137 : decode cd_M_two 137 = .ok (.aload_n 0, 1) := by decide +kernel
theorem dc_M_two_138 : decode cd_M_two 138 = .ok (.getfield 24, 3) := by decide +kernel
theorem dc_M_two_141 : decode cd_M_two 141 = .ok (.iload_n 2, 1) := by decide +kernel
theorem dc_M_two_142 : decode cd_M_two 142 = .ok (.iconst 0, 1) := by decide +kernel
theorem dc_M_two_143 : decode cd_M_two 143 = .ok (.invokevirtual 50, 3) := by decide +kernel
theorem dc_M_two_146 : decode cd_M_two 146 = .ok (.iload_n 1, 1) := by decide +kernel
theorem dc_M_two_147 : decode cd_M_two 147 = .ok (.iconst 5, 1) := by decide +kernel
theorem dc_M_two_148 : decode cd_M_two 148 = .ok (.if_icmp .ge 13, 3) := by decide +kernel
theorem dc_M_two_151 : decode cd_M_two 151 = .ok (.aload_n 0, 1) := by decide +kernel
theorem dc_M_two_152 : decode cd_M_two 152 = .ok (.iload_n 1, 1) := by decide +kernel
theorem dc_M_two_153 : decode cd_M_two 153 = .ok (.iload_n 3, 1) := by decide +kernel
theorem dc_M_two_154 : decode cd_M_two 154 = .ok (.iload_n 2, 1) := by decide +kernel
theorem dc_M_two_155 : decode cd_M_two 155 = .ok (.invokevirtual 120, 3) := by decide +kernel
theorem dc_M_two_158 : decode cd_M_two 158 = .ok (.goto 67, 3) := by decide +kernel
theorem dc_M_two_161 : decode cd_M_two 161 = .ok (.iload_n 1, 1) := by decide +kernel
theorem dc_M_two_162 : decode cd_M_two 162 = .ok (.bipush 9, 2) := by decide +kernel
theorem dc_M_two_164 : decode cd_M_two 164 = .ok (.if_icmp .ge 47, 3) := by decide +kernel
theorem dc_M_two_167 : decode cd_M_two 167 = .ok (.iconst 0, 1) := by decide +kernel
theorem dc_M_two_168 : decode cd_M_two 168 = .ok (.istore 5, 2) := by decide +kernel
theorem dc_M_two_170 : decode cd_M_two 170 = .ok (.iload 5, 2) := by decide +kernel
theorem dc_M_two_172 : decode cd_M_two 172 = .ok (.iload_n 2, 1) := by decide +kernel
theorem dc_M_two_173 : decode cd_M_two 173 = .ok (.if_icmp .ge 35, 3) := by decide +kernel
theorem dc_M_two_176 : decode cd_M_two 176 = .ok (.aload_n 0, 1) := by decide +kernel
theorem dc_M_two_177 : decode cd_M_two 177 = .ok (.getfield 27, 3) := by decide +kernel
theorem dc_M_two_180 : decode cd_M_two 180 = .ok (.iload 5, 2) := by decide +kernel
theorem dc_M_two_182 : decode cd_M_two 182 = .ok (.iload_n 1, 1) := by decide +kernel
theorem dc_M_two_183 : decode cd_M_two 183 = .ok (.aload_n 0, 1) := by decide +kernel
theorem dc_M_two_184 : decode cd_M_two 184 = .ok (.getfield 21, 3) := by decide +kernel
theorem dc_M_two_187 : decode cd_M_two 187 = .ok (.iload 5, 2) := by decide +kernel
theorem dc_M_two_189 : decode cd_M_two 189 = .ok (.baload, 1) := by decide +kernel
theorem dc_M_two_190 : decode cd_M_two 190 = .ok (.aload_n 0, 1) := by decide +kernel
theorem dc_M_two_191 : decode cd_M_two 191 = .ok (.getfield 24, 3) := by decide +kernel
theorem dc_M_two_194 : decode cd_M_two 194 = .ok (.iload 5, 2) := by decide +kernel
theorem dc_M_two_196 : decode cd_M_two 196 = .ok (.baload, 1) := by decide +kernel
theorem dc_M_two_197 : decode cd_M_two 197 = .ok (.invokestatic 108, 3) := by decide +kernel
theorem dc_M_two_200 : decode cd_M_two 200 = .ok (.i2b, 1) := by decide +kernel
theorem dc_M_two_201 : decode cd_M_two 201 = .ok (.bastore, 1) := by decide +kernel
theorem dc_M_two_202 : decode cd_M_two 202 = .ok (.iinc 5 1, 3) := by decide +kernel
theorem dc_M_two_205 : decode cd_M_two 205 = .ok (.goto (-35), 3) := by decide +kernel
theorem dc_M_two_208 : decode cd_M_two 208 = .ok (.goto 17, 3) := by decide +kernel
theorem dc_M_two_211 : decode cd_M_two 211 = .ok (.aload_n 0, 1) := by decide +kernel
theorem dc_M_two_212 : decode cd_M_two 212 = .ok (.getfield 27, 3) := by decide +kernel
theorem dc_M_two_215 : decode cd_M_two 215 = .ok (.iconst 0, 1) := by decide +kernel
theorem dc_M_two_216 : decode cd_M_two 216 = .ok (.aload_n 0, 1) := by decide +kernel
theorem dc_M_two_217 : decode cd_M_two 217 = .ok (.iload_n 1, 1) := by decide +kernel
theorem dc_M_two_218 : decode cd_M_two 218 = .ok (.iload_n 3, 1) := by decide +kernel
theorem dc_M_two_219 : decode cd_M_two 219 = .ok (.iload_n 2, 1) := by decide +kernel
theorem dc_M_two_220 : decode cd_M_two 220 = .ok (.invokevirtual 123, 3) := by decide +kernel
theorem dc_M_two_223 : decode cd_M_two 223 = .ok (.i2b, 1) := by decide +kernel
theorem dc_M_two_224 : decode cd_M_two 224 = .ok (.bastore, 1) := by decide +kernel
theorem dc_M_two_225 : decode cd_M_two 225 = .ok (.aload_n 0, 1) := by decide +kernel
theorem dc_M_two_226 : decode cd_M_two 226 = .ok (.dup, 1) := by decide +kernel
theorem dc_M_two_227 : decode cd_M_two 227 = .ok (.getfield 43, 3) := by decide +kernel
theorem dc_M_two_230 : decode cd_M_two 230 = .ok (.iconst 2, 1) := by decide +kernel
theorem dc_M_two_231 : decode cd_M_two 231 = .ok (.isub, 1) := by decide +kernel
theorem dc_M_two_232 : decode cd_M_two 232 = .ok (.putfield 43, 3) := by decide +kernel
theorem dc_M_two_235 : decode cd_M_two 235 = .ok (.aload_n 0, 1) := by decide +kernel
theorem dc_M_two_236 : decode cd_M_two 236 = .ok (.aload_n 0, 1) := by decide +kernel
theorem dc_M_two_237 : decode cd_M_two 237 = .ok (.getfield 27, 3) := by decide +kernel
theorem dc_M_two_240 : decode cd_M_two 240 = .ok (.iload_n 1, 1) := by decide +kernel
theorem dc_M_two_241 : decode cd_M_two 241 = .ok (.bipush 9, 2) := by decide +kernel
theorem dc_M_two_243 : decode cd_M_two 243 = .ok (.if_icmp .ge 7, 3) := by decide +kernel
theorem dc_M_two_246 : decode cd_M_two 246 = .ok (.iload_n 2, 1) := by decide +kernel
theorem dc_M_two_247 : decode cd_M_two 247 = .ok (.goto 4, 3) := by decide +kernel
theorem dc_M_two_250 : decode cd_M_two 250 = .ok (.iconst 1, 1) := by decide +kernel
theorem dc_M_two_251 : decode cd_M_two 251 = .ok (.iload_n 1, 1) := by decide +kernel
theorem dc_M_two_252 : decode cd_M_two 252 = .ok (.bipush 9, 2) := by decide +kernel
theorem dc_M_two_254 : decode cd_M_two 254 = .ok (.if_icmp .ge 11, 3) := by decide +kernel
theorem dc_M_two_257 : decode cd_M_two 257 = .ok (.iload_n 3, 1) := by decide +kernel
theorem dc_M_two_258 : decode cd_M_two 258 = .ok (.ifCond .eq 7, 3) := by decide +kernel
theorem dc_M_two_261 : decode cd_M_two 261 = .ok (.iconst 1, 1) := by decide +kernel
theorem dc_M_two_262 : decode cd_M_two 262 = .ok (.goto 4, 3) := by decide +kernel
theorem dc_M_two_265 : decode cd_M_two 265 = .ok (.iconst 0, 1) := by decide +kernel
theorem dc_M_two_266 : decode cd_M_two 266 = .ok (.invokevirtual 60, 3) := by decide +kernel
theorem dc_M_two_269 : decode cd_M_two 269 = .ok (.return_, 1) := by decide +kernel
theorem dc_M_shift_0 : decode cd_M_shift 0 = .ok (.aload_n 0, 1) := by decide +kernel
theorem dc_M_shift_1 : decode cd_M_shift 1 = .ok (.iload_n 1, 1) := by decide +kernel
theorem dc_M_shift_2 : decode cd_M_shift 2 = .ok (.ifCond .lt 8, 3) := by decide +kernel
theorem dc_M_shift_5 : decode cd_M_shift 5 = .ok (.iload_n 1, 1) := by decide +kernel
theorem dc_M_shift_6 : decode cd_M_shift 6 = .ok (.iconst 3, 1) := by decide +kernel
theorem dc_M_shift_7 : decode cd_M_shift 7 = .ok (.if_icmp .le 7, 3) := by decide +kernel
theorem dc_M_shift_10 : decode cd_M_shift 10 = .ok (.iconst 1, 1) := by decide +kernel
theorem dc_M_shift_11 : decode cd_M_shift 11 = .ok (.goto 4, 3) := by decide +kernel
theorem dc_M_shift_14 : decode cd_M_shift 14 = .ok (.iconst 0, 1) := by decide +kernel
theorem dc_M_shift_15 : decode cd_M_shift 15 = .ok (.iconst 2, 1) := by decide +kernel
theorem dc_M_shift_16 : decode cd_M_shift 16 = .ok (.iconst 1, 1) := by decide +kernel
theorem dc_M_shift_17 : decode cd_M_shift 17 = .ok (.invokevirtual 54, 3) := by decide +kernel
theorem dc_M_shift_20 : decode cd_M_shift 20 = .ok (.ifCond .eq 4, 3) := by decide +kernel
theorem dc_M_shift_23 : decode cd_M_shift 23 = .ok (.return_, 1) := by decide +kernel
theorem dc_M_shift_24 : decode cd_M_shift 24 = .ok (.aload_n 0, 1) := by decide +kernel
theorem dc_M_shift_25 : decode cd_M_shift 25 = .ok (.getfield 43, 3) := by decide +kernel
theorem dc_M_shift_28 : decode cd_M_shift 28 = .ok (.iconst 2, 1) := by decide +kernel
theorem dc_M_shift_29 : decode cd_M_shift 29 = .ok (.isub, 1) := by decide +kernel
theorem dc_M_shift_30 : decode cd_M_shift 30 = .ok (.istore_n 2, 1) := by decide +kernel
theorem dc_M_shift_31 : decode cd_M_shift 31 = .ok (.aload_n 0, 1) := by decide +kernel
theorem dc_M_shift_32 : decode cd_M_shift 32 = .ok (.getfield 13, 3) := by decide +kernel
theorem dc_M_shift_35 : decode cd_M_shift 35 = .ok (.iload_n 2, 1) := by decide +kernel
theorem dc_M_shift_36 : decode cd_M_shift 36 = .ok (.iaload, 1) := by decide +kernel
theorem dc_M_shift_37 : decode cd_M_shift 37 = .ok (.istore_n 3, 1) := by decide +kernel
theorem dc_M_shift_38 : decode cd_M_shift 38 = .ok (.aload_n 0, 1) := by decide +kernel
theorem dc_M_shift_39 : decode cd_M_shift 39 = .ok (.getfield 17, 3) := by decide +kernel
theorem dc_M_shift_42 : decode cd_M_shift 42 = .ok (.iload_n 2, 1) := by decide +kernel
theorem dc_M_shift_43 : decode cd_M_shift 43 = .ok (.baload, 1) := by decide +kernel
theorem dc_M_shift_44 : decode cd_M_shift 44 = .ok (.istore 4, 2) := by decide +kernel
theorem dc_M_shift_46 : decode cd_M_shift 46 = .ok (.aload_n 0, 1) := by decide +kernel
theorem dc_M_shift_47 : decode cd_M_shift 47 = .ok (.aload_n 0, 1) := by decide +kernel
theorem dc_M_shift_48 : decode cd_M_shift 48 = .ok (.getfield 43, 3) := by decide +kernel
theorem dc_M_shift_51 : decode cd_M_shift 51 = .ok (.iconst 1, 1) := by decide +kernel
theorem dc_M_shift_52 : decode cd_M_shift 52 = .ok (.isub, 1) := by decide +kernel
theorem dc_M_shift_53 : decode cd_M_shift 53 = .ok (.aload_n 0, 1) := by decide +kernel
theorem dc_M_shift_54 : decode cd_M_shift 54 = .ok (.getfield 24, 3) := by decide +kernel
theorem dc_M_shift_57 : decode cd_M_shift 57 = .ok (.aload_n 0, 1) := by decide +kernel
theorem dc_M_shift_58 : decode cd_M_shift 58 = .ok (.getfield 13, 3) := by decide +kernel
theorem dc_M_shift_61 : decode cd_M_shift 61 = .ok (.aload_n 0, 1) := by decide +kernel
theorem dc_M_shift_62 : decode cd_M_shift 62 = .ok (.getfield 43, 3) := by decide +kernel
theorem dc_M_shift_65 : decode cd_M_shift 65 = .ok (.iconst 1, 1) := by decide +kernel
theorem dc_M_shift_66 : decode cd_M_shift 66 = .ok (.isub, 1) := by decide +kernel
theorem dc_M_shift_67 : decode cd_M_shift 67 = .ok (.iaload, 1) := by decide +kernel
theorem dc_M_shift_68 : decode cd_M_shift 68 = .ok (.iconst 0, 1) := by decide +kernel
theorem dc_M_shift_69 : decode cd_M_shift 69 = .ok (.invokevirtual 50, 3) := by decide +kernel
theorem dc_M_shift_72 : decode cd_M_shift 72 = .ok (.aload_n 0, 1) := by decide +kernel
theorem dc_M_shift_73 : decode cd_M_shift 73 = .ok (.iload_n 2, 1) := by decide +kernel
theorem dc_M_shift_74 : decode cd_M_shift 74 = .ok (.aload_n 0, 1) := by decide +kernel
theorem dc_M_shift_75 : decode cd_M_shift 75 = .ok (.getfield 21, 3) := by decide +kernel
theorem dc_M_shift_78 : decode cd_M_shift 78 = .ok (.iload_n 3, 1) := by decide +kernel
theorem dc_M_shift_79 : decode cd_M_shift 79 = .ok (.iconst 0, 1) := by decide +kernel
theorem dc_M_shift_80 : decode cd_M_shift 80 = .ok (.invokevirtual 50, 3) := by decide +kernel
theorem dc_M_shift_83 : decode cd_M_shift 83 = .ok (.aload_n 0, 1) := by decide +kernel
theorem dc_M_shift_84 : decode cd_M_shift 84 = .ok (.getfield 24, 3) := by decide +kernel
theorem dc_M_shift_87 : decode cd_M_shift 87 = .ok (.aload_n 0, 1) := by decide +kernel
theorem dc_M_shift_88 : decode cd_M_shift 88 = .ok (.getfield 13, 3) := by decide +kernel
theorem dc_M_shift_91 : decode cd_M_shift 91 = .ok (.aload_n 0, 1) := by decide +kernel
theorem dc_M_shift_92 : decode cd_M_shift 92 = .ok (.getfield 43, 3) := by decide +kernel
theorem dc_M_shift_95 : decode cd_M_shift 95 = .ok (.iconst 1, 1) := by decide +kernel
theorem dc_M_shift_96 : decode cd_M_shift 96 = .ok (.isub, 1) := by decide +kernel
theorem dc_M_shift_97 : decode cd_M_shift 97 = .ok (.iaload, 1) := by decide +kernel
theorem dc_M_shift_98 : decode cd_M_shift 98 = .ok (.invokestatic 46, 3) := by decide +kernel
theorem dc_M_shift_101 : decode cd_M_shift 101 = .ok (.ifCond .eq 15, 3) := by decide +kernel
theorem dc_M_shift_104 : decode cd_M_shift 104 = .ok (.aload_n 0, 1) := by decide +kernel
theorem dc_M_shift_105 : decode cd_M_shift 105 = .ok (.getfield 27, 3) := by decide +kernel
theorem dc_M_shift_108 : decode cd_M_shift 108 = .ok (.iload_n 3, 1) := by decide +kernel
theorem dc_M_shift_109 : decode cd_M_shift 109 = .ok (.iconst 3, 1) := by decide +kernel
theorem dc_M_shift_110 : decode cd_M_shift 110 = .ok (.invokestatic 64, 3) := by decide +kernel
theorem dc_M_shift_113 : decode cd_M_shift 113 = .ok (.goto 103, 3) := by decide +kernel
theorem dc_M_shift_116 : decode cd_M_shift 116 = .ok (.aload_n 0, 1) := by decide +kernel
theorem dc_M_shift_117 : decode cd_M_shift 117 = .ok (.aload_n 0, 1) := by decide +kernel
theorem dc_M_shift_118 : decode cd_M_shift 118 = .ok (.getfield 43, 3) := by decide +kernel
theorem dc_M_shift_121 : decode cd_M_shift 121 = .ok (.iconst 1, 1) := by decide +kernel
theorem dc_M_shift_122 : decode cd_M_shift 122 = .ok (.isub, 1) := by decide +kernel
theorem dc_M_shift_123 : decode cd_M_shift 123 = .ok (.bipush 64, 2) := by decide +kernel
theorem dc_M_shift_125 : decode cd_M_shift 125 = .ok (.invokevirtual 127, 3) := by decide +kernel
theorem dc_M_shift_128 : decode cd_M_shift 128 = .ok (.istore 5, 2) := by decide +kernel
theorem dc_M_shift_130 : decode cd_M_shift 130 = .ok (.iconst 0, 1) := by decide +kernel
theorem dc_M_shift_131 : decode cd_M_shift 131 = .ok (.istore 6, 2) := by decide +kernel
theorem dc_M_shift_133 : decode cd_M_shift 133 = .ok (.iload 6, 2) := by decide +kernel
theorem dc_M_shift_135 : decode cd_M_shift 135 = .ok (.iload_n 3, 1) := by decide +kernel
theorem dc_M_shift_136 : decode cd_M_shift 136 = .ok (.if_icmp .ge 80, 3) := by decide +kernel
theorem dc_M_shift_139 : decode cd_M_shift 139 = .ok (.iload_n 1, 1) := by decide +kernel
theorem dc_M_shift_140 : decode cd_M_shift 140 = .ok (.iconst 2, 1) := by decide +kernel
theorem dc_M_shift_141 : decode cd_M_shift 141 = .ok (.irem, 1) := by decide +kernel
theorem dc_M_shift_142 : decode cd_M_shift 142 = .ok (.ifCond .ne 11, 3) := by decide +kernel
theorem dc_M_shift_145 : decode cd_M_shift 145 = .ok (.iload 6, 2) := by decide +kernel
theorem dc_M_shift_147 : decode cd_M_shift 147 = .ok (.iload 5, 2) := by decide +kernel
theorem dc_M_shift_149 : decode cd_M_shift 149 = .ok (.isub, 1) := by decide +kernel
theorem dc_M_shift_150 : decode cd_M_shift 150 = .ok (.goto 8, 3) := by decide +kernel
theorem dc_M_shift_153 : decode cd_M_shift 153 = .ok (.iload 6, 2) := by decide +kernel
theorem dc_M_shift_155 : decode cd_M_shift 155 = .ok (.iload 5, 2) := by decide +kernel
theorem dc_M_shift_157 : decode cd_M_shift 157 = .ok (.iadd, 1) := by decide +kernel
theorem dc_M_shift_158 : decode cd_M_shift 158 = .ok (.istore 7, 2) := by decide +kernel
theorem dc_M_shift_160 : decode cd_M_shift 160 = .ok (.aload_n 0, 1) := by decide +kernel
theorem dc_M_shift_161 : decode cd_M_shift 161 = .ok (.getfield 27, 3) := by decide +kernel
theorem dc_M_shift_164 : decode cd_M_shift 164 = .ok (.iload 6, 2) := by decide +kernel
theorem dc_M_shift_166 : decode cd_M_shift 166 = .ok (.iload 7, 2) := by decide +kernel
theorem dc_M_shift_168 : decode cd_M_shift 168 = .ok (.ifCond .lt 19, 3) := by decide +kernel
theorem dc_M_shift_171 : decode cd_M_shift 171 = .ok (.iload 7, 2) := by decide +kernel
theorem dc_M_shift_173 : decode cd_M_shift 173 = .ok (.iload_n 3, 1) := by decide +kernel
theorem dc_M_shift_174 : decode cd_M_shift 174 = .ok (.if_icmp .ge 13, 3) := by decide +kernel
theorem dc_M_shift_177 : decode cd_M_shift 177 = .ok (.aload_n 0, 1) := by decide +kernel
theorem dc_M_shift_178 : decode cd_M_shift 178 = .ok (.getfield 21, 3) := by decide +kernel
theorem dc_M_shift_181 : decode cd_M_shift 181 = .ok (.iload 7, 2) := by decide +kernel
theorem dc_M_shift_183 : decode cd_M_shift 183 = .ok (.baload, 1) := by decide +kernel
theorem dc_M_shift_184 : decode cd_M_shift 184 = .ok (.goto 25, 3) := by decide +kernel
theorem dc_M_shift_187 : decode cd_M_shift 187 = .ok (.iload_n 1, 1) := by decide +kernel
theorem dc_M_shift_188 : decode cd_M_shift 188 = .ok (.iconst 3, 1) := by decide +kernel
theorem dc_M_shift_189 : decode cd_M_shift 189 = .ok (.if_icmp .ne 19, 3) := by decide +kernel
theorem dc_M_shift_192 : decode cd_M_shift 192 = .ok (.iload 4, 2) := by decide +kernel
theorem dc_M_shift_194 : decode cd_M_shift 194 = .ok (.ifCond .eq 14, 3) := by decide +kernel
theorem dc_M_shift_197 : decode cd_M_shift 197 = .ok (.aload_n 0, 1) := by decide +kernel
theorem dc_M_shift_198 : decode cd_M_shift 198 = .ok (.getfield 21, 3) := by decide +kernel
theorem dc_M_shift_201 : decode cd_M_shift 201 = .ok (.iload_n 3, 1) := by decide +kernel
theorem dc_M_shift_202 : decode cd_M_shift 202 = .ok (.iconst 1, 1) := by decide +kernel
theorem dc_M_shift_203 : decode cd_M_shift 203 = .ok (.isub, 1) := by decide +kernel
theorem dc_M_shift_204 : decode cd_M_shift 204 = .ok (.baload, 1) := by decide +kernel
theorem dc_M_shift_205 : decode cd_M_shift 205 = .ok (.goto 4, 3) := by decide +kernel
theorem dc_M_shift_208 : decode cd_M_shift 208 = .ok (.iconst 0, 1) := by decide +kernel
theorem dc_M_shift_209 : decode cd_M_shift 209 = .ok (.bastore, 1) := by decide +kernel
theorem dc_M_shift_210 : decode cd_M_shift 210 = .ok (.iinc 6 1, 3) := by decide +kernel
theorem dc_M_shift_213 : decode cd_M_shift 213 = .ok (.goto (-80), 3) := by decide +kernel
theorem dc_M_shift_216 : decode cd_M_shift 216 = .ok (.aload_n 0, 1) := by decide +kernel
theorem dc_M_shift_217 : decode cd_M_shift 217 = .ok (.dup, 1) := by decide +kernel
theorem dc_M_shift_218 : decode cd_M_shift 218 = .ok (.getfield 43, 3) := by decide +kernel
theorem dc_M_shift_221 : decode cd_M_shift 221 = .ok (.iconst 2, 1) := by decide +kernel
theorem dc_M_shift_222 : decode cd_M_shift 222 = .ok (.isub, 1) := by decide +kernel
theorem dc_M_shift_223 : decode cd_M_shift 223 = .ok (.putfield 43, 3) := by decide +kernel
theorem dc_M_shift_226 : decode cd_M_shift 226 = .ok (.aload_n 0, 1) := by decide +kernel
theorem dc_M_shift_227 : decode cd_M_shift 227 = .ok (.aload_n 0, 1) := by decide +kernel
theorem dc_M_shift_228 : decode cd_M_shift 228 = .ok (.getfield 27, 3) := by decide +kernel
theorem dc_M_shift_231 : decode cd_M_shift 231 = .ok (.iload_n 3, 1) := by decide +kernel
theorem dc_M_shift_232 : decode cd_M_shift 232 = .ok (.iload 4, 2) := by decide +kernel
theorem dc_M_shift_234 : decode cd_M_shift 234 = .ok (.invokevirtual 60, 3) := by decide +kernel
theorem dc_M_shift_237 : decode cd_M_shift 237 = .ok (.return_, 1) := by decide +kernel
theorem dc_M_one_0 : decode cd_M_one 0 = .ok (.aload_n 0, 1) := by decide +kernel
theorem dc_M_one_1 : decode cd_M_one 1 = .ok (.iload_n 1, 1) := by decide +kernel
theorem dc_M_one_2 : decode cd_M_one 2 = .ok (.ifCond .lt 9, 3) := by decide +kernel
theorem dc_M_one_5 : decode cd_M_one 5 = .ok (.iload_n 1, 1) := by decide +kernel
theorem dc_M_one_6 : decode cd_M_one 6 = .ok (.bipush 8, 2) := by decide +kernel
theorem dc_M_one_8 : decode cd_M_one 8 = .ok (.if_icmp .le 7, 3) := by decide +kernel
theorem dc_M_one_11 : decode cd_M_one 11 = .ok (.iconst 1, 1) := by decide +kernel
theorem dc_M_one_12 : decode cd_M_one 12 = .ok (.goto 4, 3) := by decide +kernel
theorem dc_M_one_15 : decode cd_M_one 15 = .ok (.iconst 0, 1) := by decide +kernel
theorem dc_M_one_16 : decode cd_M_one 16 = .ok (.iconst 1, 1) := by decide +kernel
theorem dc_M_one_17 : decode cd_M_one 17 = .ok (.iconst 1, 1) := by decide +kernel
theorem dc_M_one_18 : decode cd_M_one 18 = .ok (.invokevirtual 54, 3) := by decide +kernel
theorem dc_M_one_21 : decode cd_M_one 21 = .ok (.ifCond .eq 4, 3) := by decide +kernel
theorem dc_M_one_24 : decode cd_M_one 24 = .ok (.return_, 1) := by decide +kernel
theorem dc_M_one_25 : decode cd_M_one 25 = .ok (.aload_n 0, 1) := by decide +kernel
theorem dc_M_one_26 : decode cd_M_one 26 = .ok (.getfield 43, 3) := by decide +kernel
theorem dc_M_one_29 : decode cd_M_one 29 = .ok (.iconst 1, 1) := by decide +kernel
theorem dc_M_one_30 : decode cd_M_one 30 = .ok (.isub, 1) := by decide +kernel
theorem dc_M_one_31 : decode cd_M_one 31 = .ok (.istore_n 2, 1) := by decide +kernel
theorem dc_M_one_32 : decode cd_M_one 32 = .ok (.aload_n 0, 1) := by decide +kernel
theorem dc_M_one_33 : decode cd_M_one 33 = .ok (.getfield 13, 3) := by decide +kernel
theorem dc_M_one_36 : decode cd_M_one 36 = .ok (.iload_n 2, 1) := by decide +kernel
theorem dc_M_one_37 : decode cd_M_one 37 = .ok (.iaload, 1) := by decide +kernel
theorem dc_M_one_38 : decode cd_M_one 38 = .ok (.istore_n 3, 1) := by decide +kernel
theorem dc_M_one_39 : decode cd_M_one 39 = .ok (.aload_n 0, 1) := by decide +kernel
theorem dc_M_one_40 : decode cd_M_one 40 = .ok (.getfield 17, 3) := by decide +kernel
theorem dc_M_one_43 : decode cd_M_one 43 = .ok (.iload_n 2, 1) := by decide +kernel
theorem dc_M_one_44 : decode cd_M_one 44 = .ok (.baload, 1) := by decide +kernel
theorem dc_M_one_45 : decode cd_M_one 45 = .ok (.istore 4, 2) := by decide +kernel
theorem dc_M_one_47 : decode cd_M_one 47 = .ok (.aload_n 0, 1) := by decide +kernel
theorem dc_M_one_48 : decode cd_M_one 48 = .ok (.iload_n 2, 1) := by decide +kernel
theorem dc_M_one_49 : decode cd_M_one 49 = .ok (.aload_n 0, 1) := by decide +kernel
theorem dc_M_one_50 : decode cd_M_one 50 = .ok (.getfield 21, 3) := by decide +kernel
theorem dc_M_one_53 : decode cd_M_one 53 = .ok (.iload_n 3, 1) := by decide +kernel
theorem dc_M_one_54 : decode cd_M_one 54 = .ok (.iconst 0, 1) := by decide +kernel
theorem dc_M_one_55 : decode cd_M_one 55 = .ok (.invokevirtual 50, 3) := by decide +kernel
theorem dc_M_one_58 : decode cd_M_one 58 = .ok (.aload_n 0, 1) := by decide +kernel
theorem dc_M_one_59 : decode cd_M_one 59 = .ok (.dup, 1) := by decide +kernel
theorem dc_M_one_60 : decode cd_M_one 60 = .ok (.getfield 43, 3) := by decide +kernel
theorem dc_M_one_63 : decode cd_M_one 63 = .ok (.iconst 1, 1) := by decide +kernel
theorem dc_M_one_64 : decode cd_M_one 64 = .ok (.isub, 1) := by decide +kernel
theorem dc_M_one_65 : decode cd_M_one 65 = .ok (.putfield 43, 3) := by decide +kernel
theorem dc_M_one_68 : decode cd_M_one 68 = .ok (.iload_n 1, 1) := by decide +kernel
theorem dc_M_one_69 : decode cd_M_one 69 = .ok (.ifCond .ne 46, 3) := by decide +kernel
theorem dc_M_one_72 : decode cd_M_one 72 = .ok (.aload_n 0, 1) := by decide +kernel
theorem dc_M_one_73 : decode cd_M_one 73 = .ok (.getfield 21, 3) := by decide +kernel
theorem dc_M_one_76 : decode cd_M_one 76 = .ok (.iload_n 3, 1) := by decide +kernel
theorem dc_M_one_77 : decode cd_M_one 77 = .ok (.invokestatic 46, 3) := by decide +kernel
theorem dc_M_one_80 : decode cd_M_one 80 = .ok (.ifCond .eq 15, 3) := by decide +kernel
theorem dc_M_one_83 : decode cd_M_one 83 = .ok (.aload_n 0, 1) := by decide +kernel
theorem dc_M_one_84 : decode cd_M_one 84 = .ok (.getfield 21, 3) := by decide +kernel
theorem dc_M_one_87 : decode cd_M_one 87 = .ok (.iload_n 3, 1) := by decide +kernel
theorem dc_M_one_88 : decode cd_M_one 88 = .ok (.iconst 3, 1) := by decide +kernel
theorem dc_M_one_89 : decode cd_M_one 89 = .ok (.invokestatic 64, 3) := by decide +kernel
theorem dc_M_one_92 : decode cd_M_one 92 = .ok (.goto 11, 3) := by decide +kernel
theorem dc_M_one_95 : decode cd_M_one 95 = .ok (.aload_n 0, 1) := by decide +kernel
theorem dc_M_one_96 : decode cd_M_one 96 = .ok (.getfield 21, 3) := by decide +kernel
theorem dc_M_one_99 : decode cd_M_one 99 = .ok (.iload_n 3, 1) := by decide +kernel
theorem dc_M_one_100 : decode cd_M_one 100 = .ok (.invokestatic 72, 3) := by decide +kernel
theorem dc_M_one_103 : decode cd_M_one 103 = .ok (.aload_n 0, 1) := by decide +kernel
theorem dc_M_one_104 : decode cd_M_one 104 = .ok (.aload_n 0, 1) := by decide +kernel
theorem dc_M_one_105 : decode cd_M_one 105 = .ok (.getfield 21, 3) := by decide +kernel
theorem dc_M_one_108 : decode cd_M_one 108 = .ok (.iload_n 3, 1) := by decide +kernel
theorem dc_M_one_109 : decode cd_M_one 109 = .ok (.iload 4, 2) := by decide +kernel
theorem dc_M_one_111 : decode cd_M_one 111 = .ok (.invokevirtual 60, 3) := by decide +kernel
theorem dc_M_one_114 : decode cd_M_one 114 = .ok (.return_, 1) := by decide +kernel
theorem dc_M_one_115 : decode cd_M_one 115 = .ok (.iload_n 1, 1) := by decide +kernel
theorem dc_M_one_116 : decode cd_M_one 116 = .ok (.iconst 1, 1) := by decide +kernel
theorem dc_M_one_117 : decode cd_M_one 117 = .ok (.if_icmp .ne 48, 3) := by decide +kernel
theorem dc_M_one_120 : decode cd_M_one 120 = .ok (.iconst 0, 1) := by decide +kernel
theorem dc_M_one_121 : decode cd_M_one 121 = .ok (.istore 5, 2) := by decide +kernel
theorem dc_M_one_123 : decode cd_M_one 123 = .ok (.iload 5, 2) := by decide +kernel
theorem dc_M_one_125 : decode cd_M_one 125 = .ok (.iload_n 3, 1) := by decide +kernel
theorem dc_M_one_126 : decode cd_M_one 126 = .ok (.if_icmp .ge 27, 3) := by decide +kernel
theorem dc_M_one_129 : decode cd_M_one 129 = .ok (.aload_n 0, 1) := by decide +kernel
theorem dc_M_one_130 : decode cd_M_one 130 = .ok (.getfield 21, 3) := by decide +kernel
theorem dc_M_one_133 : decode cd_M_one 133 = .ok (.iload 5, 2) := by decide +kernel
