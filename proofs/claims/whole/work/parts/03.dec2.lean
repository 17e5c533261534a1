theorem dX10_cut_56 : decode cX10_cut 56 = .ok (.iload_n 3, 1) := by decide +kernel
theorem dX10_cut_57 : decode cX10_cut 57 = .ok (.invokestatic 54, 3) := by decide +kernel
theorem dX10_cut_60 : decode cX10_cut 60 = .ok (.istore 4, 2) := by decide +kernel
theorem dX10_cut_62 : decode cX10_cut 62 = .ok (.aload_n 1, 1) := by decide +kernel
theorem dX10_cut_63 : decode cX10_cut 63 = .ok (.iload 4, 2) := by decide +kernel
theorem dX10_cut_65 : decode cX10_cut 65 = .ok (.iload_n 3, 1) := by decide +kernel
theorem dX10_cut_66 : decode cX10_cut 66 = .ok (.invokestatic 58, 3) := by decide +kernel
theorem dX10_cut_69 : decode cX10_cut 69 = .ok (.istore 6, 2) := by decide +kernel
theorem dX10_cut_71 : decode cX10_cut 71 = .ok (.aload_n 0, 1) := by decide +kernel
theorem dX10_cut_72 : decode cX10_cut 72 = .ok (.aload_n 1, 1) := by decide +kernel
theorem dX10_cut_73 : decode cX10_cut 73 = .ok (.iload 4, 2) := by decide +kernel
theorem dX10_cut_75 : decode cX10_cut 75 = .ok (.iload 6, 2) := by decide +kernel
theorem dX10_cut_77 : decode cX10_cut 77 = .ok (.invokevirtual 61, 3) := by decide +kernel
theorem dX10_cut_80 : decode cX10_cut 80 = .ok (.istore 5, 2) := by decide +kernel
theorem dX10_cut_82 : decode cX10_cut 82 = .ok (.aload_n 0, 1) := by decide +kernel
theorem dX10_cut_83 : decode cX10_cut 83 = .ok (.getfield 15, 3) := by decide +kernel
theorem dX10_cut_86 : decode cX10_cut 86 = .ok (.aload_n 0, 1) := by decide +kernel
theorem dX10_cut_87 : decode cX10_cut 87 = .ok (.getfield 26, 3) := by decide +kernel
theorem dX10_cut_90 : decode cX10_cut 90 = .ok (.iload 5, 2) := by decide +kernel
theorem dX10_cut_92 : decode cX10_cut 92 = .ok (.i2b, 1) := by decide +kernel
theorem dX10_cut_93 : decode cX10_cut 93 = .ok (.bastore, 1) := by decide +kernel
theorem dX10_cut_94 : decode cX10_cut 94 = .ok (.aload_n 0, 1) := by decide +kernel
theorem dX10_cut_95 : decode cX10_cut 95 = .ok (.getfield 19, 3) := by decide +kernel
theorem dX10_cut_98 : decode cX10_cut 98 = .ok (.aload_n 0, 1) := by decide +kernel
theorem dX10_cut_99 : decode cX10_cut 99 = .ok (.getfield 26, 3) := by decide +kernel
theorem dX10_cut_102 : decode cX10_cut 102 = .ok (.iload 4, 2) := by decide +kernel
theorem dX10_cut_104 : decode cX10_cut 104 = .ok (.iastore, 1) := by decide +kernel
theorem dX10_cut_105 : decode cX10_cut 105 = .ok (.aload_n 0, 1) := by decide +kernel
theorem dX10_cut_106 : decode cX10_cut 106 = .ok (.getfield 23, 3) := by decide +kernel
theorem dX10_cut_109 : decode cX10_cut 109 = .ok (.aload_n 0, 1) := by decide +kernel
theorem dX10_cut_110 : decode cX10_cut 110 = .ok (.getfield 26, 3) := by decide +kernel
theorem dX10_cut_113 : decode cX10_cut 113 = .ok (.iload 5, 2) := by decide +kernel
theorem dX10_cut_115 : decode cX10_cut 115 = .ok (.bipush 27, 2) := by decide +kernel
theorem dX10_cut_117 : decode cX10_cut 117 = .ok (.if_icmp .eq 10, 3) := by decide +kernel
theorem dX10_cut_120 : decode cX10_cut 120 = .ok (.iload 5, 2) := by decide +kernel
theorem dX10_cut_122 : decode cX10_cut 122 = .ok (.bipush 28, 2) := by decide +kernel
theorem dX10_cut_124 : decode cX10_cut 124 = .ok (.if_icmp .ne 16, 3) := by decide +kernel
theorem dX10_cut_127 : decode cX10_cut 127 = .ok (.aload_n 1, 1) := by decide +kernel
theorem dX10_cut_128 : decode cX10_cut 128 = .ok (.iload 4, 2) := by decide +kernel
theorem dX10_cut_130 : decode cX10_cut 130 = .ok (.iload 6, 2) := by decide +kernel
theorem dX10_cut_132 : decode cX10_cut 132 = .ok (.iload 5, 2) := by decide +kernel
theorem dX10_cut_134 : decode cX10_cut 134 = .ok (.invokestatic 64, 3) := by decide +kernel
theorem dX10_cut_137 : decode cX10_cut 137 = .ok (.goto 4, 3) := by decide +kernel
theorem dX10_cut_140 : decode cX10_cut 140 = .ok (.lconst 0, 1) := by decide +kernel
theorem dX10_cut_141 : decode cX10_cut 141 = .ok (.lastore, 1) := by decide +kernel
theorem dX10_cut_142 : decode cX10_cut 142 = .ok (.aload_n 0, 1) := by decide +kernel
theorem dX10_cut_143 : decode cX10_cut 143 = .ok (.dup, 1) := by decide +kernel
theorem dX10_cut_144 : decode cX10_cut 144 = .ok (.getfield 26, 3) := by decide +kernel
theorem dX10_cut_147 : decode cX10_cut 147 = .ok (.iconst 1, 1) := by decide +kernel
theorem dX10_cut_148 : decode cX10_cut 148 = .ok (.iadd, 1) := by decide +kernel
theorem dX10_cut_149 : decode cX10_cut 149 = .ok (.putfield 26, 3) := by decide +kernel
theorem dX10_cut_152 : decode cX10_cut 152 = .ok (.iload 6, 2) := by decide +kernel
theorem dX10_cut_154 : decode cX10_cut 154 = .ok (.istore 4, 2) := by decide +kernel
theorem dX10_cut_156 : decode cX10_cut 156 = .ok (.goto (-127), 3) := by decide +kernel
theorem dX10_cut_159 : decode cX10_cut 159 = .ok (.return_, 1) := by decide +kernel
theorem dX10_behindBlanks_0 : decode cX10_behindBlanks 0 = .ok (.iload_n 1, 1) := by decide +kernel
theorem dX10_behindBlanks_1 : decode cX10_behindBlanks 1 = .ok (.istore_n 3, 1) := by decide +kernel
theorem dX10_behindBlanks_2 : decode cX10_behindBlanks 2 = .ok (.iload_n 3, 1) := by decide +kernel
theorem dX10_behindBlanks_3 : decode cX10_behindBlanks 3 = .ok (.iload_n 2, 1) := by decide +kernel
theorem dX10_behindBlanks_4 : decode cX10_behindBlanks 4 = .ok (.if_icmp .ge 18, 3) := by decide +kernel
theorem dX10_behindBlanks_7 : decode cX10_behindBlanks 7 = .ok (.aload_n 0, 1) := by decide +kernel
theorem dX10_behindBlanks_8 : decode cX10_behindBlanks 8 = .ok (.iload_n 3, 1) := by decide +kernel
theorem dX10_behindBlanks_9 : decode cX10_behindBlanks 9 = .ok (.baload, 1) := by decide +kernel
theorem dX10_behindBlanks_10 : decode cX10_behindBlanks 10 = .ok (.invokestatic 68, 3) := by decide +kernel
theorem dX10_behindBlanks_13 : decode cX10_behindBlanks 13 = .ok (.ifCond .eq 9, 3) := by decide +kernel
theorem dX10_behindBlanks_16 : decode cX10_behindBlanks 16 = .ok (.iinc 3 1, 3) := by decide +kernel
theorem dX10_behindBlanks_19 : decode cX10_behindBlanks 19 = .ok (.goto (-17), 3) := by decide +kernel
theorem dX10_behindBlanks_22 : decode cX10_behindBlanks 22 = .ok (.iload_n 3, 1) := by decide +kernel
theorem dX10_behindBlanks_23 : decode cX10_behindBlanks 23 = .ok (.ireturn, 1) := by decide +kernel
theorem dX10_isBlank_0 : decode cX10_isBlank 0 = .ok (.iload_n 0, 1) := by decide +kernel
theorem dX10_isBlank_1 : decode cX10_isBlank 1 = .ok (.bipush 9, 2) := by decide +kernel
theorem dX10_isBlank_3 : decode cX10_isBlank 3 = .ok (.if_icmp .eq 21, 3) := by decide +kernel
theorem dX10_isBlank_6 : decode cX10_isBlank 6 = .ok (.iload_n 0, 1) := by decide +kernel
theorem dX10_isBlank_7 : decode cX10_isBlank 7 = .ok (.bipush 10, 2) := by decide +kernel
theorem dX10_isBlank_9 : decode cX10_isBlank 9 = .ok (.if_icmp .eq 15, 3) := by decide +kernel
theorem dX10_isBlank_12 : decode cX10_isBlank 12 = .ok (.iload_n 0, 1) := by decide +kernel
theorem dX10_isBlank_13 : decode cX10_isBlank 13 = .ok (.bipush 13, 2) := by decide +kernel
theorem dX10_isBlank_15 : decode cX10_isBlank 15 = .ok (.if_icmp .eq 9, 3) := by decide +kernel
theorem dX10_isBlank_18 : decode cX10_isBlank 18 = .ok (.iload_n 0, 1) := by decide +kernel
theorem dX10_isBlank_19 : decode cX10_isBlank 19 = .ok (.bipush 32, 2) := by decide +kernel
theorem dX10_isBlank_21 : decode cX10_isBlank 21 = .ok (.if_icmp .ne 7, 3) := by decide +kernel
theorem dX10_isBlank_24 : decode cX10_isBlank 24 = .ok (.iconst 1, 1) := by decide +kernel
theorem dX10_isBlank_25 : decode cX10_isBlank 25 = .ok (.goto 4, 3) := by decide +kernel
theorem dX10_isBlank_28 : decode cX10_isBlank 28 = .ok (.iconst 0, 1) := by decide +kernel
theorem dX10_isBlank_29 : decode cX10_isBlank 29 = .ok (.ireturn, 1) := by decide +kernel
theorem dX10_isLetter_0 : decode cX10_isLetter 0 = .ok (.iload_n 0, 1) := by decide +kernel
theorem dX10_isLetter_1 : decode cX10_isLetter 1 = .ok (.bipush 97, 2) := by decide +kernel
theorem dX10_isLetter_3 : decode cX10_isLetter 3 = .ok (.if_icmp .lt 13, 3) := by decide +kernel
theorem dX10_isLetter_6 : decode cX10_isLetter 6 = .ok (.iload_n 0, 1) := by decide +kernel
theorem dX10_isLetter_7 : decode cX10_isLetter 7 = .ok (.bipush 122, 2) := by decide +kernel
theorem dX10_isLetter_9 : decode cX10_isLetter 9 = .ok (.if_icmp .gt 7, 3) := by decide +kernel
theorem dX10_isLetter_12 : decode cX10_isLetter 12 = .ok (.iconst 1, 1) := by decide +kernel
theorem dX10_isLetter_13 : decode cX10_isLetter 13 = .ok (.goto 4, 3) := by decide +kernel
theorem dX10_isLetter_16 : decode cX10_isLetter 16 = .ok (.iconst 0, 1) := by decide +kernel
theorem dX10_isLetter_17 : decode cX10_isLetter 17 = .ok (.ireturn, 1) := by decide +kernel
theorem dX10_isDigit_0 : decode cX10_isDigit 0 = .ok (.iload_n 0, 1) := by decide +kernel
theorem dX10_isDigit_1 : decode cX10_isDigit 1 = .ok (.bipush 48, 2) := by decide +kernel
theorem dX10_isDigit_3 : decode cX10_isDigit 3 = .ok (.if_icmp .lt 13, 3) := by decide +kernel
theorem dX10_isDigit_6 : decode cX10_isDigit 6 = .ok (.iload_n 0, 1) := by decide +kernel
theorem dX10_isDigit_7 : decode cX10_isDigit 7 = .ok (.bipush 57, 2) := by decide +kernel
theorem dX10_isDigit_9 : decode cX10_isDigit 9 = .ok (.if_icmp .gt 7, 3) := by decide +kernel
theorem dX10_isDigit_12 : decode cX10_isDigit 12 = .ok (.iconst 1, 1) := by decide +kernel
theorem dX10_isDigit_13 : decode cX10_isDigit 13 = .ok (.goto 4, 3) := by decide +kernel
theorem dX10_isDigit_16 : decode cX10_isDigit 16 = .ok (.iconst 0, 1) := by decide +kernel
theorem dX10_isDigit_17 : decode cX10_isDigit 17 = .ok (.ireturn, 1) := by decide +kernel
theorem dX10_tokenEnd_0 : decode cX10_tokenEnd 0 = .ok (.iload_n 1, 1) := by decide +kernel
theorem dX10_tokenEnd_1 : decode cX10_tokenEnd 1 = .ok (.ifCond .lt 8, 3) := by decide +kernel
theorem dX10_tokenEnd_4 : decode cX10_tokenEnd 4 = .ok (.iload_n 1, 1) := by decide +kernel
theorem dX10_tokenEnd_5 : decode cX10_tokenEnd 5 = .ok (.iload_n 2, 1) := by decide +kernel
theorem dX10_tokenEnd_6 : decode cX10_tokenEnd 6 = .ok (.if_icmp .lt 5, 3) := by decide +kernel
theorem dX10_tokenEnd_9 : decode cX10_tokenEnd 9 = .ok (.iload_n 2, 1) := by decide +kernel
theorem dX10_tokenEnd_10 : decode cX10_tokenEnd 10 = .ok (.ireturn, 1) := by decide +kernel
theorem dX10_tokenEnd_11 : decode cX10_tokenEnd 11 = .ok (.aload_n 0, 1) := by decide +kernel
theorem dX10_tokenEnd_12 : decode cX10_tokenEnd 12 = .ok (.iload_n 1, 1) := by decide +kernel
theorem dX10_tokenEnd_13 : decode cX10_tokenEnd 13 = .ok (.baload, 1) := by decide +kernel
theorem dX10_tokenEnd_14 : decode cX10_tokenEnd 14 = .ok (.istore_n 3, 1) := by decide +kernel
theorem dX10_tokenEnd_15 : decode cX10_tokenEnd 15 = .ok (.iload_n 1, 1) := by decide +kernel
theorem dX10_tokenEnd_16 : decode cX10_tokenEnd 16 = .ok (.iconst 1, 1) := by decide +kernel
theorem dX10_tokenEnd_17 : decode cX10_tokenEnd 17 = .ok (.iadd, 1) := by decide +kernel
theorem dX10_tokenEnd_18 : decode cX10_tokenEnd 18 = .ok (.istore 4, 2) := by decide +kernel
theorem dX10_tokenEnd_20 : decode cX10_tokenEnd 20 = .ok (.iload_n 3, 1) := by decide +kernel
theorem dX10_tokenEnd_21 : decode cX10_tokenEnd 21 = .ok (.invokestatic 72, 3) := by decide +kernel
theorem dX10_tokenEnd_24 : decode cX10_tokenEnd 24 = .ok (.ifCond .eq 35, 3) := by decide +kernel
theorem dX10_tokenEnd_27 : decode cX10_tokenEnd 27 = .ok (.iload 4, 2) := by decide +kernel
theorem dX10_tokenEnd_29 : decode cX10_tokenEnd 29 = .ok (.iload_n 2, 1) := by decide +kernel
theorem dX10_tokenEnd_30 : decode cX10_tokenEnd 30 = .ok (.if_icmp .ge 94, 3) := by decide +kernel
theorem dX10_tokenEnd_33 : decode cX10_tokenEnd 33 = .ok (.aload_n 0, 1) := by decide +kernel
theorem dX10_tokenEnd_34 : decode cX10_tokenEnd 34 = .ok (.iload 4, 2) := by decide +kernel
theorem dX10_tokenEnd_36 : decode cX10_tokenEnd 36 = .ok (.baload, 1) := by decide +kernel
theorem dX10_tokenEnd_37 : decode cX10_tokenEnd 37 = .ok (.invokestatic 72, 3) := by decide +kernel
theorem dX10_tokenEnd_40 : decode cX10_tokenEnd 40 = .ok (.ifCond .ne 13, 3) := by decide +kernel
theorem dX10_tokenEnd_43 : decode cX10_tokenEnd 43 = .ok (.aload_n 0, 1) := by decide +kernel
theorem dX10_tokenEnd_44 : decode cX10_tokenEnd 44 = .ok (.iload 4, 2) := by decide +kernel
theorem dX10_tokenEnd_46 : decode cX10_tokenEnd 46 = .ok (.baload, 1) := by decide +kernel
theorem dX10_tokenEnd_47 : decode cX10_tokenEnd 47 = .ok (.invokestatic 75, 3) := by decide +kernel
theorem dX10_tokenEnd_50 : decode cX10_tokenEnd 50 = .ok (.ifCond .eq 74, 3) := by decide +kernel
theorem dX10_tokenEnd_53 : decode cX10_tokenEnd 53 = .ok (.iinc 4 1, 3) := by decide +kernel
theorem dX10_tokenEnd_56 : decode cX10_tokenEnd 56 = .ok (.goto (-29), 3) := by decide +kernel
theorem dX10_tokenEnd_59 : decode cX10_tokenEnd 59 = .ok (.iload_n 3, 1) := by decide +kernel
theorem dX10_tokenEnd_60 : decode cX10_tokenEnd 60 = .ok (.invokestatic 75, 3) := by decide +kernel
theorem dX10_tokenEnd_63 : decode cX10_tokenEnd 63 = .ok (.ifCond .eq 25, 3) := by decide +kernel
theorem dX10_tokenEnd_66 : decode cX10_tokenEnd 66 = .ok (.iload 4, 2) := by decide +kernel
theorem dX10_tokenEnd_68 : decode cX10_tokenEnd 68 = .ok (.iload_n 2, 1) := by decide +kernel
theorem dX10_tokenEnd_69 : decode cX10_tokenEnd 69 = .ok (.if_icmp .ge 55, 3) := by decide +kernel
theorem dX10_tokenEnd_72 : decode cX10_tokenEnd 72 = .ok (.aload_n 0, 1) := by decide +kernel
theorem dX10_tokenEnd_73 : decode cX10_tokenEnd 73 = .ok (.iload 4, 2) := by decide +kernel
theorem dX10_tokenEnd_75 : decode cX10_tokenEnd 75 = .ok (.baload, 1) := by decide +kernel
theorem dX10_tokenEnd_76 : decode cX10_tokenEnd 76 = .ok (.invokestatic 75, 3) := by decide +kernel
theorem dX10_tokenEnd_79 : decode cX10_tokenEnd 79 = .ok (.ifCond .eq 45, 3) := by decide +kernel
theorem dX10_tokenEnd_82 : decode cX10_tokenEnd 82 = .ok (.iinc 4 1, 3) := by decide +kernel
theorem dX10_tokenEnd_85 : decode cX10_tokenEnd 85 = .ok (.goto (-19), 3) := by decide +kernel
theorem dX10_tokenEnd_88 : decode cX10_tokenEnd 88 = .ok (.iload_n 3, 1) := by decide +kernel
theorem dX10_tokenEnd_89 : decode cX10_tokenEnd 89 = .ok (.bipush 61, 2) := by decide +kernel
theorem dX10_tokenEnd_91 : decode cX10_tokenEnd 91 = .ok (.if_icmp .eq 15, 3) := by decide +kernel
theorem dX10_tokenEnd_94 : decode cX10_tokenEnd 94 = .ok (.iload_n 3, 1) := by decide +kernel
theorem dX10_tokenEnd_95 : decode cX10_tokenEnd 95 = .ok (.bipush 33, 2) := by decide +kernel
theorem dX10_tokenEnd_97 : decode cX10_tokenEnd 97 = .ok (.if_icmp .eq 9, 3) := by decide +kernel
theorem dX10_tokenEnd_100 : decode cX10_tokenEnd 100 = .ok (.iload_n 3, 1) := by decide +kernel
theorem dX10_tokenEnd_101 : decode cX10_tokenEnd 101 = .ok (.bipush 60, 2) := by decide +kernel
theorem dX10_tokenEnd_103 : decode cX10_tokenEnd 103 = .ok (.if_icmp .ne 21, 3) := by decide +kernel
theorem dX10_tokenEnd_106 : decode cX10_tokenEnd 106 = .ok (.iload 4, 2) := by decide +kernel
theorem dX10_tokenEnd_108 : decode cX10_tokenEnd 108 = .ok (.iload_n 2, 1) := by decide +kernel
theorem dX10_tokenEnd_109 : decode cX10_tokenEnd 109 = .ok (.if_icmp .ge 15, 3) := by decide +kernel
theorem dX10_tokenEnd_112 : decode cX10_tokenEnd 112 = .ok (.aload_n 0, 1) := by decide +kernel
theorem dX10_tokenEnd_113 : decode cX10_tokenEnd 113 = .ok (.iload 4, 2) := by decide +kernel
theorem dX10_tokenEnd_115 : decode cX10_tokenEnd 115 = .ok (.baload, 1) := by decide +kernel
theorem dX10_tokenEnd_116 : decode cX10_tokenEnd 116 = .ok (.bipush 61, 2) := by decide +kernel
theorem dX10_tokenEnd_118 : decode cX10_tokenEnd 118 = .ok (.if_icmp .ne 6, 3) := by decide +kernel
theorem dX10_tokenEnd_121 : decode cX10_tokenEnd 121 = .ok (.iinc 4 1, 3) := by decide +kernel
theorem dX10_tokenEnd_124 : decode cX10_tokenEnd 124 = .ok (.iload 4, 2) := by decide +kernel
theorem dX10_tokenEnd_126 : decode cX10_tokenEnd 126 = .ok (.ireturn, 1) := by decide +kernel
theorem dX10_kindOf_0 : decode cX10_kindOf 0 = .ok (.iload_n 2, 1) := by decide +kernel
theorem dX10_kindOf_1 : decode cX10_kindOf 1 = .ok (.ifCond .lt 14, 3) := by decide +kernel
theorem dX10_kindOf_4 : decode cX10_kindOf 4 = .ok (.iload_n 2, 1) := by decide +kernel
theorem dX10_kindOf_5 : decode cX10_kindOf 5 = .ok (.iload_n 3, 1) := by decide +kernel
theorem dX10_kindOf_6 : decode cX10_kindOf 6 = .ok (.if_icmp .ge 9, 3) := by decide +kernel
theorem dX10_kindOf_9 : decode cX10_kindOf 9 = .ok (.iload_n 3, 1) := by decide +kernel
theorem dX10_kindOf_10 : decode cX10_kindOf 10 = .ok (.aload_n 1, 1) := by decide +kernel
theorem dX10_kindOf_11 : decode cX10_kindOf 11 = .ok (.arraylength, 1) := by decide +kernel
theorem dX10_kindOf_12 : decode cX10_kindOf 12 = .ok (.if_icmp .le 6, 3) := by decide +kernel
theorem dX10_kindOf_15 : decode cX10_kindOf 15 = .ok (.bipush 41, 2) := by decide +kernel
theorem dX10_kindOf_17 : decode cX10_kindOf 17 = .ok (.ireturn, 1) := by decide +kernel
theorem dX10_kindOf_18 : decode cX10_kindOf 18 = .ok (.aload_n 1, 1) := by decide +kernel
theorem dX10_kindOf_19 : decode cX10_kindOf 19 = .ok (.iload_n 2, 1) := by decide +kernel
theorem dX10_kindOf_20 : decode cX10_kindOf 20 = .ok (.baload, 1) := by decide +kernel
theorem dX10_kindOf_21 : decode cX10_kindOf 21 = .ok (.istore 4, 2) := by decide +kernel
theorem dX10_kindOf_23 : decode cX10_kindOf 23 = .ok (.iload 4, 2) := by decide +kernel
theorem dX10_kindOf_25 : decode cX10_kindOf 25 = .ok (.invokestatic 72, 3) := by decide +kernel
theorem dX10_kindOf_28 : decode cX10_kindOf 28 = .ok (.ifCond .eq 29, 3) := by decide +kernel
theorem dX10_kindOf_31 : decode cX10_kindOf 31 = .ok (.iload_n 3, 1) := by decide +kernel
theorem dX10_kindOf_32 : decode cX10_kindOf 32 = .ok (.iload_n 2, 1) := by decide +kernel
theorem dX10_kindOf_33 : decode cX10_kindOf 33 = .ok (.isub, 1) := by decide +kernel
theorem dX10_kindOf_34 : decode cX10_kindOf 34 = .ok (.bipush 8, 2) := by decide +kernel
theorem dX10_kindOf_36 : decode cX10_kindOf 36 = .ok (.if_icmp .le 8, 3) := by decide +kernel
theorem dX10_kindOf_39 : decode cX10_kindOf 39 = .ok (.bipush 42, 2) := by decide +kernel
theorem dX10_kindOf_41 : decode cX10_kindOf 41 = .ok (.goto 15, 3) := by decide +kernel
theorem dX10_kindOf_44 : decode cX10_kindOf 44 = .ok (.aload_n 0, 1) := by decide +kernel
theorem dX10_kindOf_45 : decode cX10_kindOf 45 = .ok (.aload_n 1, 1) := by decide +kernel
theorem dX10_kindOf_46 : decode cX10_kindOf 46 = .ok (.iload_n 2, 1) := by decide +kernel
theorem dX10_kindOf_47 : decode cX10_kindOf 47 = .ok (.iload_n 3, 1) := by decide +kernel
theorem dX10_kindOf_48 : decode cX10_kindOf 48 = .ok (.bipush 27, 2) := by decide +kernel
theorem dX10_kindOf_50 : decode cX10_kindOf 50 = .ok (.invokestatic 64, 3) := by decide +kernel
theorem dX10_kindOf_53 : decode cX10_kindOf 53 = .ok (.invokevirtual 78, 3) := by decide +kernel
theorem dX10_kindOf_56 : decode cX10_kindOf 56 = .ok (.ireturn, 1) := by decide +kernel
theorem dX10_kindOf_57 : decode cX10_kindOf 57 = .ok (.iload 4, 2) := by decide +kernel
theorem dX10_kindOf_59 : decode cX10_kindOf 59 = .ok (.invokestatic 75, 3) := by decide +kernel
theorem dX10_kindOf_62 : decode cX10_kindOf 62 = .ok (.ifCond .eq 18, 3) := by decide +kernel
theorem dX10_kindOf_65 : decode cX10_kindOf 65 = .ok (.iload_n 3, 1) := by decide +kernel
theorem dX10_kindOf_66 : decode cX10_kindOf 66 = .ok (.iload_n 2, 1) := by decide +kernel
theorem dX10_kindOf_67 : decode cX10_kindOf 67 = .ok (.isub, 1) := by decide +kernel
theorem dX10_kindOf_68 : decode cX10_kindOf 68 = .ok (.iconst 5, 1) := by decide +kernel
theorem dX10_kindOf_69 : decode cX10_kindOf 69 = .ok (.if_icmp .le 8, 3) := by decide +kernel
theorem dX10_kindOf_72 : decode cX10_kindOf 72 = .ok (.bipush 42, 2) := by decide +kernel
theorem dX10_kindOf_74 : decode cX10_kindOf 74 = .ok (.goto 5, 3) := by decide +kernel
theorem dX10_kindOf_77 : decode cX10_kindOf 77 = .ok (.bipush 28, 2) := by decide +kernel
theorem dX10_kindOf_79 : decode cX10_kindOf 79 = .ok (.ireturn, 1) := by decide +kernel
theorem dX10_kindOf_80 : decode cX10_kindOf 80 = .ok (.iload_n 3, 1) := by decide +kernel
theorem dX10_kindOf_81 : decode cX10_kindOf 81 = .ok (.iload_n 2, 1) := by decide +kernel
theorem dX10_kindOf_82 : decode cX10_kindOf 82 = .ok (.isub, 1) := by decide +kernel
theorem dX10_kindOf_83 : decode cX10_kindOf 83 = .ok (.iconst 2, 1) := by decide +kernel
theorem dX10_kindOf_84 : decode cX10_kindOf 84 = .ok (.if_icmp .ne 11, 3) := by decide +kernel
theorem dX10_kindOf_87 : decode cX10_kindOf 87 = .ok (.iload 4, 2) := by decide +kernel
theorem dX10_kindOf_89 : decode cX10_kindOf 89 = .ok (.invokestatic 82, 3) := by decide +kernel
theorem dX10_kindOf_92 : decode cX10_kindOf 92 = .ok (.goto 8, 3) := by decide +kernel
theorem dX10_kindOf_95 : decode cX10_kindOf 95 = .ok (.iload 4, 2) := by decide +kernel
theorem dX10_kindOf_97 : decode cX10_kindOf 97 = .ok (.invokestatic 86, 3) := by decide +kernel
theorem dX10_kindOf_100 : decode cX10_kindOf 100 = .ok (.ireturn, 1) := by decide +kernel
theorem dX10_longSign_0 : decode cX10_longSign 0 = .ok (.iload_n 0, 1) := by decide +kernel
theorem dX10_longSign_1 : decode cX10_longSign 1 = .ok (.lookupswitch 33 #[(33, 30), (61, 27)], 27) := by decide +kernel
theorem dX10_longSign_28 : decode cX10_longSign 28 = .ok (.bipush 37, 2) := by decide +kernel
theorem dX10_longSign_30 : decode cX10_longSign 30 = .ok (.ireturn, 1) := by decide +kernel
theorem dX10_longSign_31 : decode cX10_longSign 31 = .ok (.bipush 38, 2) := by decide +kernel
theorem dX10_longSign_33 : decode cX10_longSign 33 = .ok (.ireturn, 1) := by decide +kernel
theorem dX10_longSign_34 : decode cX10_longSign 34 = .ok (.bipush 40, 2) := by decide +kernel
theorem dX10_longSign_36 : decode cX10_longSign 36 = .ok (.ireturn, 1) := by decide +kernel
theorem dX10_shortSign_0 : decode cX10_shortSign 0 = .ok (.iload_n 0, 1) := by decide +kernel
theorem dX10_shortSign_1 : decode cX10_shortSign 1 = .ok (.tableswitch 126 40 60 #[108, 111, 120, 114, 105, 117, 126, 126, 126, 126, 126, 126, 126, 126, 126, 126, 126, 126, 102, 99, 123], 99) := by decide +kernel
theorem dX10_shortSign_100 : decode cX10_shortSign 100 = .ok (.bipush 29, 2) := by decide +kernel
theorem dX10_shortSign_102 : decode cX10_shortSign 102 = .ok (.ireturn, 1) := by decide +kernel
theorem dX10_shortSign_103 : decode cX10_shortSign 103 = .ok (.bipush 30, 2) := by decide +kernel
theorem dX10_shortSign_105 : decode cX10_shortSign 105 = .ok (.ireturn, 1) := by decide +kernel
theorem dX10_shortSign_106 : decode cX10_shortSign 106 = .ok (.bipush 31, 2) := by decide +kernel
theorem dX10_shortSign_108 : decode cX10_shortSign 108 = .ok (.ireturn, 1) := by decide +kernel
theorem dX10_shortSign_109 : decode cX10_shortSign 109 = .ok (.bipush 32, 2) := by decide +kernel
theorem dX10_shortSign_111 : decode cX10_shortSign 111 = .ok (.ireturn, 1) := by decide +kernel
theorem dX10_shortSign_112 : decode cX10_shortSign 112 = .ok (.bipush 33, 2) := by decide +kernel
theorem dX10_shortSign_114 : decode cX10_shortSign 114 = .ok (.ireturn, 1) := by decide +kernel
theorem dX10_shortSign_115 : decode cX10_shortSign 115 = .ok (.bipush 34, 2) := by decide +kernel
theorem dX10_shortSign_117 : decode cX10_shortSign 117 = .ok (.ireturn, 1) := by decide +kernel
theorem dX10_shortSign_118 : decode cX10_shortSign 118 = .ok (.bipush 35, 2) := by decide +kernel
theorem dX10_shortSign_120 : decode cX10_shortSign 120 = .ok (.ireturn, 1) := by decide +kernel
theorem dX10_shortSign_121 : decode cX10_shortSign 121 = .ok (.bipush 36, 2) := by decide +kernel
theorem dX10_shortSign_123 : decode cX10_shortSign 123 = .ok (.ireturn, 1) := by decide +kernel
theorem dX10_shortSign_124 : decode cX10_shortSign 124 = .ok (.bipush 39, 2) := by decide +kernel
theorem dX10_shortSign_126 : decode cX10_shortSign 126 = .ok (.ireturn, 1) := by decide +kernel
theorem dX10_shortSign_127 : decode cX10_shortSign 127 = .ok (.bipush 42, 2) := by decide +kernel
theorem dX10_shortSign_129 : decode cX10_shortSign 129 = .ok (.ireturn, 1) := by decide +kernel
theorem dX10_valueOf_0 : decode cX10_valueOf 0 = .ok (.lconst 0, 1) := by decide +kernel
theorem dX10_valueOf_1 : decode cX10_valueOf 1 = .ok (.lstore 4, 2) := by decide +kernel
theorem dX10_valueOf_3 : decode cX10_valueOf 3 = .ok (.iconst 0, 1) := by decide +kernel
theorem dX10_valueOf_4 : decode cX10_valueOf 4 = .ok (.iload_n 1, 1) := by decide +kernel
theorem dX10_valueOf_5 : decode cX10_valueOf 5 = .ok (.invokestatic 89, 3) := by decide +kernel
theorem dX10_valueOf_8 : decode cX10_valueOf 8 = .ok (.istore 6, 2) := by decide +kernel
theorem dX10_valueOf_10 : decode cX10_valueOf 10 = .ok (.iload 6, 2) := by decide +kernel
theorem dX10_valueOf_12 : decode cX10_valueOf 12 = .ok (.iload_n 2, 1) := by decide +kernel
theorem dX10_valueOf_13 : decode cX10_valueOf 13 = .ok (.if_icmp .ge 53, 3) := by decide +kernel
theorem dX10_valueOf_16 : decode cX10_valueOf 16 = .ok (.iload 6, 2) := by decide +kernel
theorem dX10_valueOf_18 : decode cX10_valueOf 18 = .ok (.aload_n 0, 1) := by decide +kernel
theorem dX10_valueOf_19 : decode cX10_valueOf 19 = .ok (.arraylength, 1) := by decide +kernel
theorem dX10_valueOf_20 : decode cX10_valueOf 20 = .ok (.if_icmp .ge 46, 3) := by decide +kernel
theorem dX10_valueOf_23 : decode cX10_valueOf 23 = .ok (.iload_n 3, 1) := by decide +kernel
theorem dX10_valueOf_24 : decode cX10_valueOf 24 = .ok (.bipush 28, 2) := by decide +kernel
theorem dX10_valueOf_26 : decode cX10_valueOf 26 = .ok (.if_icmp .ne 21, 3) := by decide +kernel
theorem dX10_valueOf_29 : decode cX10_valueOf 29 = .ok (.lload 4, 2) := by decide +kernel
theorem dX10_valueOf_31 : decode cX10_valueOf 31 = .ok (.ldc2_w 92, 3) := by decide +kernel
theorem dX10_valueOf_34 : decode cX10_valueOf 34 = .ok (.lmul, 1) := by decide +kernel
theorem dX10_valueOf_35 : decode cX10_valueOf 35 = .ok (.aload_n 0, 1) := by decide +kernel
theorem dX10_valueOf_36 : decode cX10_valueOf 36 = .ok (.iload 6, 2) := by decide +kernel
theorem dX10_valueOf_38 : decode cX10_valueOf 38 = .ok (.baload, 1) := by decide +kernel
theorem dX10_valueOf_39 : decode cX10_valueOf 39 = .ok (.bipush 48, 2) := by decide +kernel
theorem dX10_valueOf_41 : decode cX10_valueOf 41 = .ok (.isub, 1) := by decide +kernel
theorem dX10_valueOf_42 : decode cX10_valueOf 42 = .ok (.i2l, 1) := by decide +kernel
theorem dX10_valueOf_43 : decode cX10_valueOf 43 = .ok (.ladd, 1) := by decide +kernel
theorem dX10_valueOf_44 : decode cX10_valueOf 44 = .ok (.goto 14, 3) := by decide +kernel
theorem dX10_valueOf_47 : decode cX10_valueOf 47 = .ok (.lload 4, 2) := by decide +kernel
theorem dX10_valueOf_49 : decode cX10_valueOf 49 = .ok (.bipush 8, 2) := by decide +kernel
theorem dX10_valueOf_51 : decode cX10_valueOf 51 = .ok (.lshl, 1) := by decide +kernel
theorem dX10_valueOf_52 : decode cX10_valueOf 52 = .ok (.aload_n 0, 1) := by decide +kernel
theorem dX10_valueOf_53 : decode cX10_valueOf 53 = .ok (.iload 6, 2) := by decide +kernel
theorem dX10_valueOf_55 : decode cX10_valueOf 55 = .ok (.baload, 1) := by decide +kernel
theorem dX10_valueOf_56 : decode cX10_valueOf 56 = .ok (.i2l, 1) := by decide +kernel
theorem dX10_valueOf_57 : decode cX10_valueOf 57 = .ok (.lor, 1) := by decide +kernel
theorem dX10_valueOf_58 : decode cX10_valueOf 58 = .ok (.lstore 4, 2) := by decide +kernel
theorem dX10_valueOf_60 : decode cX10_valueOf 60 = .ok (.iinc 6 1, 3) := by decide +kernel
theorem dX10_valueOf_63 : decode cX10_valueOf 63 = .ok (.goto (-53), 3) := by decide +kernel
theorem dX10_valueOf_66 : decode cX10_valueOf 66 = .ok (.lload 4, 2) := by decide +kernel
theorem dX10_valueOf_68 : decode cX10_valueOf 68 = .ok (.lreturn, 1) := by decide +kernel
theorem dX10_wordOrName_0 : decode cX10_wordOrName 0 = .ok (.iconst 0, 1) := by decide +kernel
theorem dX10_wordOrName_1 : decode cX10_wordOrName 1 = .ok (.istore_n 3, 1) := by decide +kernel
theorem dX10_wordOrName_2 : decode cX10_wordOrName 2 = .ok (.iload_n 3, 1) := by decide +kernel
theorem dX10_wordOrName_3 : decode cX10_wordOrName 3 = .ok (.aload_n 0, 1) := by decide +kernel
theorem dX10_wordOrName_4 : decode cX10_wordOrName 4 = .ok (.getfield 9, 3) := by decide +kernel
theorem dX10_wordOrName_7 : decode cX10_wordOrName 7 = .ok (.arraylength, 1) := by decide +kernel
theorem dX10_wordOrName_8 : decode cX10_wordOrName 8 = .ok (.if_icmp .ge 22, 3) := by decide +kernel
theorem dX10_wordOrName_11 : decode cX10_wordOrName 11 = .ok (.aload_n 0, 1) := by decide +kernel
theorem dX10_wordOrName_12 : decode cX10_wordOrName 12 = .ok (.getfield 9, 3) := by decide +kernel
theorem dX10_wordOrName_15 : decode cX10_wordOrName 15 = .ok (.iload_n 3, 1) := by decide +kernel
theorem dX10_wordOrName_16 : decode cX10_wordOrName 16 = .ok (.laload, 1) := by decide +kernel
theorem dX10_wordOrName_17 : decode cX10_wordOrName 17 = .ok (.lload_n 1, 1) := by decide +kernel
theorem dX10_wordOrName_18 : decode cX10_wordOrName 18 = .ok (.lcmp, 1) := by decide +kernel
theorem dX10_wordOrName_19 : decode cX10_wordOrName 19 = .ok (.ifCond .ne 5, 3) := by decide +kernel
theorem dX10_wordOrName_22 : decode cX10_wordOrName 22 = .ok (.iload_n 3, 1) := by decide +kernel
theorem dX10_wordOrName_23 : decode cX10_wordOrName 23 = .ok (.ireturn, 1) := by decide +kernel
theorem dX10_wordOrName_24 : decode cX10_wordOrName 24 = .ok (.iinc 3 1, 3) := by decide +kernel
theorem dX10_wordOrName_27 : decode cX10_wordOrName 27 = .ok (.goto (-25), 3) := by decide +kernel
theorem dX10_wordOrName_30 : decode cX10_wordOrName 30 = .ok (.bipush 27, 2) := by decide +kernel
theorem dX10_wordOrName_32 : decode cX10_wordOrName 32 = .ok (.ireturn, 1) := by decide +kernel
theorem dX10_size_0 : decode cX10_size 0 = .ok (.aload_n 0, 1) := by decide +kernel
theorem dX10_size_1 : decode cX10_size 1 = .ok (.getfield 26, 3) := by decide +kernel
theorem dX10_size_4 : decode cX10_size 4 = .ok (.ireturn, 1) := by decide +kernel
theorem dX10_kindAt_0 : decode cX10_kindAt 0 = .ok (.iload_n 1, 1) := by decide +kernel
theorem dX10_kindAt_1 : decode cX10_kindAt 1 = .ok (.ifCond .lt 20, 3) := by decide +kernel
theorem dX10_kindAt_4 : decode cX10_kindAt 4 = .ok (.iload_n 1, 1) := by decide +kernel
theorem dX10_kindAt_5 : decode cX10_kindAt 5 = .ok (.aload_n 0, 1) := by decide +kernel
theorem dX10_kindAt_6 : decode cX10_kindAt 6 = .ok (.getfield 26, 3) := by decide +kernel
theorem dX10_kindAt_9 : decode cX10_kindAt 9 = .ok (.if_icmp .ge 12, 3) := by decide +kernel
theorem dX10_kindAt_12 : decode cX10_kindAt 12 = .ok (.aload_n 0, 1) := by decide +kernel
theorem dX10_kindAt_13 : decode cX10_kindAt 13 = .ok (.getfield 15, 3) := by decide +kernel
theorem dX10_kindAt_16 : decode cX10_kindAt 16 = .ok (.iload_n 1, 1) := by decide +kernel
theorem dX10_kindAt_17 : decode cX10_kindAt 17 = .ok (.baload, 1) := by decide +kernel
theorem dX10_kindAt_18 : decode cX10_kindAt 18 = .ok (.goto 5, 3) := by decide +kernel
theorem dX10_kindAt_21 : decode cX10_kindAt 21 = .ok (.bipush 41, 2) := by decide +kernel
theorem dX10_kindAt_23 : decode cX10_kindAt 23 = .ok (.ireturn, 1) := by decide +kernel
theorem dX10_valueAt_0 : decode cX10_valueAt 0 = .ok (.iload_n 1, 1) := by decide +kernel
theorem dX10_valueAt_1 : decode cX10_valueAt 1 = .ok (.ifCond .lt 20, 3) := by decide +kernel
theorem dX10_valueAt_4 : decode cX10_valueAt 4 = .ok (.iload_n 1, 1) := by decide +kernel
theorem dX10_valueAt_5 : decode cX10_valueAt 5 = .ok (.aload_n 0, 1) := by decide +kernel
theorem dX10_valueAt_6 : decode cX10_valueAt 6 = .ok (.getfield 26, 3) := by decide +kernel
theorem dX10_valueAt_9 : decode cX10_valueAt 9 = .ok (.if_icmp .ge 12, 3) := by decide +kernel
theorem dX10_valueAt_12 : decode cX10_valueAt 12 = .ok (.aload_n 0, 1) := by decide +kernel
theorem dX10_valueAt_13 : decode cX10_valueAt 13 = .ok (.getfield 23, 3) := by decide +kernel
theorem dX10_valueAt_16 : decode cX10_valueAt 16 = .ok (.iload_n 1, 1) := by decide +kernel
theorem dX10_valueAt_17 : decode cX10_valueAt 17 = .ok (.laload, 1) := by decide +kernel
theorem dX10_valueAt_18 : decode cX10_valueAt 18 = .ok (.goto 4, 3) := by decide +kernel
theorem dX10_valueAt_21 : decode cX10_valueAt 21 = .ok (.lconst 0, 1) := by decide +kernel
theorem dX10_valueAt_22 : decode cX10_valueAt 22 = .ok (.lreturn, 1) := by decide +kernel
theorem dX10_numberAt_0 : decode cX10_numberAt 0 = .ok (.aload_n 0, 1) := by decide +kernel
theorem dX10_numberAt_1 : decode cX10_numberAt 1 = .ok (.iload_n 1, 1) := by decide +kernel
theorem dX10_numberAt_2 : decode cX10_numberAt 2 = .ok (.invokevirtual 94, 3) := by decide +kernel
theorem dX10_numberAt_5 : decode cX10_numberAt 5 = .ok (.l2i, 1) := by decide +kernel
theorem dX10_numberAt_6 : decode cX10_numberAt 6 = .ok (.ireturn, 1) := by decide +kernel
theorem dX10_setNumber_0 : decode cX10_setNumber 0 = .ok (.iload_n 1, 1) := by decide +kernel
theorem dX10_setNumber_1 : decode cX10_setNumber 1 = .ok (.ifCond .lt 19, 3) := by decide +kernel
theorem dX10_setNumber_4 : decode cX10_setNumber 4 = .ok (.iload_n 1, 1) := by decide +kernel
theorem dX10_setNumber_5 : decode cX10_setNumber 5 = .ok (.aload_n 0, 1) := by decide +kernel
theorem dX10_setNumber_6 : decode cX10_setNumber 6 = .ok (.getfield 26, 3) := by decide +kernel
theorem dX10_setNumber_9 : decode cX10_setNumber 9 = .ok (.if_icmp .ge 11, 3) := by decide +kernel
theorem dX10_setNumber_12 : decode cX10_setNumber 12 = .ok (.aload_n 0, 1) := by decide +kernel
theorem dX10_setNumber_13 : decode cX10_setNumber 13 = .ok (.getfield 23, 3) := by decide +kernel
theorem dX10_setNumber_16 : decode cX10_setNumber 16 = .ok (.iload_n 1, 1) := by decide +kernel
theorem dX10_setNumber_17 : decode cX10_setNumber 17 = .ok (.iload_n 2, 1) := by decide +kernel
theorem dX10_setNumber_18 : decode cX10_setNumber 18 = .ok (.i2l, 1) := by decide +kernel
theorem dX10_setNumber_19 : decode cX10_setNumber 19 = .ok (.lastore, 1) := by decide +kernel
theorem dX10_setNumber_20 : decode cX10_setNumber 20 = .ok (.return_, 1) := by decide +kernel
theorem dX10_blame_0 : decode cX10_blame 0 = .ok (.aload_n 0, 1) := by decide +kernel
theorem dX10_blame_1 : decode cX10_blame 1 = .ok (.getfield 30, 3) := by decide +kernel
theorem dX10_blame_4 : decode cX10_blame 4 = .ok (.ifCond .ne 30, 3) := by decide +kernel
theorem dX10_blame_7 : decode cX10_blame 7 = .ok (.iload_n 2, 1) := by decide +kernel
theorem dX10_blame_8 : decode cX10_blame 8 = .ok (.ifCond .lt 26, 3) := by decide +kernel
theorem dX10_blame_11 : decode cX10_blame 11 = .ok (.iload_n 2, 1) := by decide +kernel
theorem dX10_blame_12 : decode cX10_blame 12 = .ok (.aload_n 0, 1) := by decide +kernel
theorem dX10_blame_13 : decode cX10_blame 13 = .ok (.getfield 26, 3) := by decide +kernel
theorem dX10_blame_16 : decode cX10_blame 16 = .ok (.if_icmp .ge 18, 3) := by decide +kernel
theorem dX10_blame_19 : decode cX10_blame 19 = .ok (.aload_n 0, 1) := by decide +kernel
theorem dX10_blame_20 : decode cX10_blame 20 = .ok (.iload_n 1, 1) := by decide +kernel
theorem dX10_blame_21 : decode cX10_blame 21 = .ok (.putfield 30, 3) := by decide +kernel
theorem dX10_blame_24 : decode cX10_blame 24 = .ok (.aload_n 0, 1) := by decide +kernel
theorem dX10_blame_25 : decode cX10_blame 25 = .ok (.aload_n 0, 1) := by decide +kernel
theorem dX10_blame_26 : decode cX10_blame 26 = .ok (.getfield 19, 3) := by decide +kernel
theorem dX10_blame_29 : decode cX10_blame 29 = .ok (.iload_n 2, 1) := by decide +kernel
theorem dX10_blame_30 : decode cX10_blame 30 = .ok (.iaload, 1) := by decide +kernel
theorem dX10_blame_31 : decode cX10_blame 31 = .ok (.putfield 33, 3) := by decide +kernel
theorem dX10_blame_34 : decode cX10_blame 34 = .ok (.return_, 1) := by decide +kernel
theorem dX11_init_0 : decode cX11_init 0 = .ok (.aload_n 0, 1) := by decide +kernel
theorem dX11_init_1 : decode cX11_init 1 = .ok (.invokespecial 3, 3) := by decide +kernel
theorem dX11_init_4 : decode cX11_init 4 = .ok (.aload_n 0, 1) := by decide +kernel
theorem dX11_init_5 : decode cX11_init 5 = .ok (.sipush 4000, 3) := by decide +kernel
theorem dX11_init_8 : decode cX11_init 8 = .ok (.newarray .byte, 2) := by decide +kernel
theorem dX11_init_10 : decode cX11_init 10 = .ok (.putfield 9, 3) := by decide +kernel
theorem dX11_init_13 : decode cX11_init 13 = .ok (.aload_n 0, 1) := by decide +kernel
theorem dX11_init_14 : decode cX11_init 14 = .ok (.iconst 0, 1) := by decide +kernel
theorem dX11_init_15 : decode cX11_init 15 = .ok (.putfield 13, 3) := by decide +kernel
theorem dX11_init_18 : decode cX11_init 18 = .ok (.aload_n 0, 1) := by decide +kernel
theorem dX11_init_19 : decode cX11_init 19 = .ok (.new 17, 3) := by decide +kernel
theorem dX11_init_22 : decode cX11_init 22 = .ok (.dup, 1) := by decide +kernel
theorem dX11_init_23 : decode cX11_init 23 = .ok (.invokespecial 19, 3) := by decide +kernel
theorem dX11_init_26 : decode cX11_init 26 = .ok (.putfield 20, 3) := by decide +kernel
theorem dX11_init_29 : decode cX11_init 29 = .ok (.aload_n 0, 1) := by decide +kernel
theorem dX11_init_30 : decode cX11_init 30 = .ok (.new 24, 3) := by decide +kernel
theorem dX11_init_33 : decode cX11_init 33 = .ok (.dup, 1) := by decide +kernel
theorem dX11_init_34 : decode cX11_init 34 = .ok (.aload_n 0, 1) := by decide +kernel
theorem dX11_init_35 : decode cX11_init 35 = .ok (.getfield 20, 3) := by decide +kernel
theorem dX11_init_38 : decode cX11_init 38 = .ok (.invokespecial 26, 3) := by decide +kernel
theorem dX11_init_41 : decode cX11_init 41 = .ok (.putfield 29, 3) := by decide +kernel
theorem dX11_init_44 : decode cX11_init 44 = .ok (.aload_n 0, 1) := by decide +kernel
theorem dX11_init_45 : decode cX11_init 45 = .ok (.new 33, 3) := by decide +kernel
theorem dX11_init_48 : decode cX11_init 48 = .ok (.dup, 1) := by decide +kernel
theorem dX11_init_49 : decode cX11_init 49 = .ok (.aload_n 0, 1) := by decide +kernel
theorem dX11_init_50 : decode cX11_init 50 = .ok (.getfield 20, 3) := by decide +kernel
theorem dX11_init_53 : decode cX11_init 53 = .ok (.invokespecial 35, 3) := by decide +kernel
theorem dX11_init_56 : decode cX11_init 56 = .ok (.putfield 36, 3) := by decide +kernel
theorem dX11_init_59 : decode cX11_init 59 = .ok (.aload_n 0, 1) := by decide +kernel
theorem dX11_init_60 : decode cX11_init 60 = .ok (.iconst (-1), 1) := by decide +kernel
theorem dX11_init_61 : decode cX11_init 61 = .ok (.putfield 40, 3) := by decide +kernel
theorem dX11_init_64 : decode cX11_init 64 = .ok (.aload_n 0, 1) := by decide +kernel
theorem dX11_init_65 : decode cX11_init 65 = .ok (.new 43, 3) := by decide +kernel
theorem dX11_init_68 : decode cX11_init 68 = .ok (.dup, 1) := by decide +kernel
theorem dX11_init_69 : decode cX11_init 69 = .ok (.invokespecial 45, 3) := by decide +kernel
theorem dX11_init_72 : decode cX11_init 72 = .ok (.putfield 46, 3) := by decide +kernel
theorem dX11_init_75 : decode cX11_init 75 = .ok (.aload_n 0, 1) := by decide +kernel
theorem dX11_init_76 : decode cX11_init 76 = .ok (.iconst 0, 1) := by decide +kernel
theorem dX11_init_77 : decode cX11_init 77 = .ok (.putfield 50, 3) := by decide +kernel
theorem dX11_init_80 : decode cX11_init 80 = .ok (.aload_n 0, 1) := by decide +kernel
theorem dX11_init_81 : decode cX11_init 81 = .ok (.new 54, 3) := by decide +kernel
theorem dX11_init_84 : decode cX11_init 84 = .ok (.dup, 1) := by decide +kernel
theorem dX11_init_85 : decode cX11_init 85 = .ok (.aload_n 0, 1) := by decide +kernel
theorem dX11_init_86 : decode cX11_init 86 = .ok (.getfield 46, 3) := by decide +kernel
theorem dX11_init_89 : decode cX11_init 89 = .ok (.iconst 1, 1) := by decide +kernel
theorem dX11_init_90 : decode cX11_init 90 = .ok (.invokespecial 56, 3) := by decide +kernel
theorem dX11_init_93 : decode cX11_init 93 = .ok (.putfield 59, 3) := by decide +kernel
theorem dX11_init_96 : decode cX11_init 96 = .ok (.aload_n 0, 1) := by decide +kernel
theorem dX11_init_97 : decode cX11_init 97 = .ok (.iconst 0, 1) := by decide +kernel
theorem dX11_init_98 : decode cX11_init 98 = .ok (.putfield 63, 3) := by decide +kernel
theorem dX11_init_101 : decode cX11_init 101 = .ok (.aload_n 0, 1) := by decide +kernel
theorem dX11_init_102 : decode cX11_init 102 = .ok (.sipush 600, 3) := by decide +kernel
theorem dX11_init_105 : decode cX11_init 105 = .ok (.newarray .int, 2) := by decide +kernel
theorem dX11_init_107 : decode cX11_init 107 = .ok (.putfield 66, 3) := by decide +kernel
theorem dX11_init_110 : decode cX11_init 110 = .ok (.aload_n 0, 1) := by decide +kernel
theorem dX11_init_111 : decode cX11_init 111 = .ok (.sipush 600, 3) := by decide +kernel
theorem dX11_init_114 : decode cX11_init 114 = .ok (.newarray .int, 2) := by decide +kernel
theorem dX11_init_116 : decode cX11_init 116 = .ok (.putfield 70, 3) := by decide +kernel
theorem dX11_init_119 : decode cX11_init 119 = .ok (.aload_n 0, 1) := by decide +kernel
theorem dX11_init_120 : decode cX11_init 120 = .ok (.iconst 0, 1) := by decide +kernel
theorem dX11_init_121 : decode cX11_init 121 = .ok (.putfield 73, 3) := by decide +kernel
theorem dX11_init_124 : decode cX11_init 124 = .ok (.aload_n 0, 1) := by decide +kernel
theorem dX11_init_125 : decode cX11_init 125 = .ok (.new 54, 3) := by decide +kernel
theorem dX11_init_128 : decode cX11_init 128 = .ok (.dup, 1) := by decide +kernel
theorem dX11_init_129 : decode cX11_init 129 = .ok (.aload_n 0, 1) := by decide +kernel
theorem dX11_init_130 : decode cX11_init 130 = .ok (.getfield 46, 3) := by decide +kernel
theorem dX11_init_133 : decode cX11_init 133 = .ok (.iconst 0, 1) := by decide +kernel
theorem dX11_init_134 : decode cX11_init 134 = .ok (.invokespecial 56, 3) := by decide +kernel
theorem dX11_init_137 : decode cX11_init 137 = .ok (.putfield 76, 3) := by decide +kernel
theorem dX11_init_140 : decode cX11_init 140 = .ok (.return_, 1) := by decide +kernel
theorem dX11_feed_0 : decode cX11_feed 0 = .ok (.aload_n 0, 1) := by decide +kernel
theorem dX11_feed_1 : decode cX11_feed 1 = .ok (.getfield 13, 3) := by decide +kernel
theorem dX11_feed_4 : decode cX11_feed 4 = .ok (.bipush 20, 2) := by decide +kernel
theorem dX11_feed_6 : decode cX11_feed 6 = .ok (.iadd, 1) := by decide +kernel
theorem dX11_feed_7 : decode cX11_feed 7 = .ok (.sipush 4000, 3) := by decide +kernel
theorem dX11_feed_10 : decode cX11_feed 10 = .ok (.if_icmp .le 5, 3) := by decide +kernel
theorem dX11_feed_13 : decode cX11_feed 13 = .ok (.iconst (-1), 1) := by decide +kernel
theorem dX11_feed_14 : decode cX11_feed 14 = .ok (.ireturn, 1) := by decide +kernel
theorem dX11_feed_15 : decode cX11_feed 15 = .ok (.aload_n 0, 1) := by decide +kernel
theorem dX11_feed_16 : decode cX11_feed 16 = .ok (.iload_n 1, 1) := by decide +kernel
theorem dX11_feed_17 : decode cX11_feed 17 = .ok (.invokevirtual 79, 3) := by decide +kernel
theorem dX11_feed_20 : decode cX11_feed 20 = .ok (.aload_n 0, 1) := by decide +kernel
theorem dX11_feed_21 : decode cX11_feed 21 = .ok (.iload_n 2, 1) := by decide +kernel
theorem dX11_feed_22 : decode cX11_feed 22 = .ok (.invokevirtual 79, 3) := by decide +kernel
theorem dX11_feed_25 : decode cX11_feed 25 = .ok (.aload_n 0, 1) := by decide +kernel
theorem dX11_feed_26 : decode cX11_feed 26 = .ok (.iload_n 3, 1) := by decide +kernel
theorem dX11_feed_27 : decode cX11_feed 27 = .ok (.invokevirtual 79, 3) := by decide +kernel
theorem dX11_feed_30 : decode cX11_feed 30 = .ok (.aload_n 0, 1) := by decide +kernel
theorem dX11_feed_31 : decode cX11_feed 31 = .ok (.iload 4, 2) := by decide +kernel
theorem dX11_feed_33 : decode cX11_feed 33 = .ok (.invokevirtual 79, 3) := by decide +kernel
theorem dX11_feed_36 : decode cX11_feed 36 = .ok (.aload_n 0, 1) := by decide +kernel
theorem dX11_feed_37 : decode cX11_feed 37 = .ok (.iload 5, 2) := by decide +kernel
theorem dX11_feed_39 : decode cX11_feed 39 = .ok (.invokevirtual 79, 3) := by decide +kernel
theorem dX11_feed_42 : decode cX11_feed 42 = .ok (.aload_n 0, 1) := by decide +kernel
theorem dX11_feed_43 : decode cX11_feed 43 = .ok (.getfield 13, 3) := by decide +kernel
theorem dX11_feed_46 : decode cX11_feed 46 = .ok (.ireturn, 1) := by decide +kernel
theorem dX11_putBytes_0 : decode cX11_putBytes 0 = .ok (.bipush 24, 2) := by decide +kernel
theorem dX11_putBytes_2 : decode cX11_putBytes 2 = .ok (.istore_n 2, 1) := by decide +kernel
theorem dX11_putBytes_3 : decode cX11_putBytes 3 = .ok (.iload_n 2, 1) := by decide +kernel
theorem dX11_putBytes_4 : decode cX11_putBytes 4 = .ok (.ifCond .lt 44, 3) := by decide +kernel
theorem dX11_putBytes_7 : decode cX11_putBytes 7 = .ok (.aload_n 0, 1) := by decide +kernel
theorem dX11_putBytes_8 : decode cX11_putBytes 8 = .ok (.getfield 13, 3) := by decide +kernel
theorem dX11_putBytes_11 : decode cX11_putBytes 11 = .ok (.aload_n 0, 1) := by decide +kernel
theorem dX11_putBytes_12 : decode cX11_putBytes 12 = .ok (.getfield 9, 3) := by decide +kernel
theorem dX11_putBytes_15 : decode cX11_putBytes 15 = .ok (.arraylength, 1) := by decide +kernel
theorem dX11_putBytes_16 : decode cX11_putBytes 16 = .ok (.if_icmp .ge 26, 3) := by decide +kernel
theorem dX11_putBytes_19 : decode cX11_putBytes 19 = .ok (.aload_n 0, 1) := by decide +kernel
theorem dX11_putBytes_20 : decode cX11_putBytes 20 = .ok (.getfield 9, 3) := by decide +kernel
theorem dX11_putBytes_23 : decode cX11_putBytes 23 = .ok (.aload_n 0, 1) := by decide +kernel
theorem dX11_putBytes_24 : decode cX11_putBytes 24 = .ok (.getfield 13, 3) := by decide +kernel
theorem dX11_putBytes_27 : decode cX11_putBytes 27 = .ok (.iload_n 1, 1) := by decide +kernel
theorem dX11_putBytes_28 : decode cX11_putBytes 28 = .ok (.iload_n 2, 1) := by decide +kernel
theorem dX11_putBytes_29 : decode cX11_putBytes 29 = .ok (.ishr, 1) := by decide +kernel
theorem dX11_putBytes_30 : decode cX11_putBytes 30 = .ok (.i2b, 1) := by decide +kernel
theorem dX11_putBytes_31 : decode cX11_putBytes 31 = .ok (.bastore, 1) := by decide +kernel
theorem dX11_putBytes_32 : decode cX11_putBytes 32 = .ok (.aload_n 0, 1) := by decide +kernel
theorem dX11_putBytes_33 : decode cX11_putBytes 33 = .ok (.dup, 1) := by decide +kernel
theorem dX11_putBytes_34 : decode cX11_putBytes 34 = .ok (.getfield 13, 3) := by decide +kernel
theorem dX11_putBytes_37 : decode cX11_putBytes 37 = .ok (.iconst 1, 1) := by decide +kernel
theorem dX11_putBytes_38 : decode cX11_putBytes 38 = .ok (.iadd, 1) := by decide +kernel
theorem dX11_putBytes_39 : decode cX11_putBytes 39 = .ok (.putfield 13, 3) := by decide +kernel
theorem dX11_putBytes_42 : decode cX11_putBytes 42 = .ok (.iinc 2 (-8), 3) := by decide +kernel
theorem dX11_putBytes_45 : decode cX11_putBytes 45 = .ok (.goto (-42), 3) := by decide +kernel
theorem dX11_putBytes_48 : decode cX11_putBytes 48 = .ok (.return_, 1) := by decide +kernel
theorem dX11_back_0 : decode cX11_back 0 = .ok (.iload_n 1, 1) := by decide +kernel
theorem dX11_back_1 : decode cX11_back 1 = .ok (.ifCond .lt 11, 3) := by decide +kernel
theorem dX11_back_4 : decode cX11_back 4 = .ok (.iload_n 1, 1) := by decide +kernel
theorem dX11_back_5 : decode cX11_back 5 = .ok (.aload_n 0, 1) := by decide +kernel
theorem dX11_back_6 : decode cX11_back 6 = .ok (.getfield 13, 3) := by decide +kernel
theorem dX11_back_9 : decode cX11_back 9 = .ok (.if_icmp .le 5, 3) := by decide +kernel
theorem dX11_back_12 : decode cX11_back 12 = .ok (.iconst (-1), 1) := by decide +kernel
theorem dX11_back_13 : decode cX11_back 13 = .ok (.ireturn, 1) := by decide +kernel
theorem dX11_back_14 : decode cX11_back 14 = .ok (.aload_n 0, 1) := by decide +kernel
theorem dX11_back_15 : decode cX11_back 15 = .ok (.dup, 1) := by decide +kernel
theorem dX11_back_16 : decode cX11_back 16 = .ok (.getfield 13, 3) := by decide +kernel
theorem dX11_back_19 : decode cX11_back 19 = .ok (.iload_n 1, 1) := by decide +kernel
theorem dX11_back_20 : decode cX11_back 20 = .ok (.isub, 1) := by decide +kernel
theorem dX11_back_21 : decode cX11_back 21 = .ok (.putfield 13, 3) := by decide +kernel
theorem dX11_back_24 : decode cX11_back 24 = .ok (.aload_n 0, 1) := by decide +kernel
theorem dX11_back_25 : decode cX11_back 25 = .ok (.getfield 13, 3) := by decide +kernel
theorem dX11_back_28 : decode cX11_back 28 = .ok (.ireturn, 1) := by decide +kernel
theorem dX11_read_0 : decode cX11_read 0 = .ok (.aload_n 0, 1) := by decide +kernel
theorem dX11_read_1 : decode cX11_read 1 = .ok (.getfield 20, 3) := by decide +kernel
theorem dX11_read_4 : decode cX11_read 4 = .ok (.aload_n 0, 1) := by decide +kernel
theorem dX11_read_5 : decode cX11_read 5 = .ok (.getfield 9, 3) := by decide +kernel
theorem dX11_read_8 : decode cX11_read 8 = .ok (.aload_n 0, 1) := by decide +kernel
theorem dX11_read_9 : decode cX11_read 9 = .ok (.getfield 13, 3) := by decide +kernel
theorem dX11_read_12 : decode cX11_read 12 = .ok (.invokevirtual 83, 3) := by decide +kernel
theorem dX11_read_15 : decode cX11_read 15 = .ok (.aload_n 0, 1) := by decide +kernel
theorem dX11_read_16 : decode cX11_read 16 = .ok (.iconst 0, 1) := by decide +kernel
theorem dX11_read_17 : decode cX11_read 17 = .ok (.putfield 13, 3) := by decide +kernel
theorem dX11_read_20 : decode cX11_read 20 = .ok (.aload_n 0, 1) := by decide +kernel
theorem dX11_read_21 : decode cX11_read 21 = .ok (.getfield 29, 3) := by decide +kernel
theorem dX11_read_24 : decode cX11_read 24 = .ok (.invokevirtual 87, 3) := by decide +kernel
theorem dX11_read_27 : decode cX11_read 27 = .ok (.aload_n 0, 1) := by decide +kernel
theorem dX11_read_28 : decode cX11_read 28 = .ok (.getfield 20, 3) := by decide +kernel
theorem dX11_read_31 : decode cX11_read 31 = .ok (.getfield 90, 3) := by decide +kernel
theorem dX11_read_34 : decode cX11_read 34 = .ok (.ifCond .ne 10, 3) := by decide +kernel
theorem dX11_read_37 : decode cX11_read 37 = .ok (.aload_n 0, 1) := by decide +kernel
theorem dX11_read_38 : decode cX11_read 38 = .ok (.getfield 36, 3) := by decide +kernel
theorem dX11_read_41 : decode cX11_read 41 = .ok (.invokevirtual 93, 3) := by decide +kernel
theorem dX11_read_44 : decode cX11_read 44 = .ok (.aload_n 0, 1) := by decide +kernel
theorem dX11_read_45 : decode cX11_read 45 = .ok (.aload_n 0, 1) := by decide +kernel
theorem dX11_read_46 : decode cX11_read 46 = .ok (.getfield 20, 3) := by decide +kernel
theorem dX11_read_49 : decode cX11_read 49 = .ok (.getfield 94, 3) := by decide +kernel
theorem dX11_read_52 : decode cX11_read 52 = .ok (.putfield 40, 3) := by decide +kernel
theorem dX11_read_55 : decode cX11_read 55 = .ok (.aload_n 0, 1) := by decide +kernel
theorem dX11_read_56 : decode cX11_read 56 = .ok (.getfield 20, 3) := by decide +kernel
theorem dX11_read_59 : decode cX11_read 59 = .ok (.getfield 90, 3) := by decide +kernel
theorem dX11_read_62 : decode cX11_read 62 = .ok (.ifCond .ne 24, 3) := by decide +kernel
theorem dX11_read_65 : decode cX11_read 65 = .ok (.aload_n 0, 1) := by decide +kernel
theorem dX11_read_66 : decode cX11_read 66 = .ok (.getfield 46, 3) := by decide +kernel
theorem dX11_read_69 : decode cX11_read 69 = .ok (.aload_n 0, 1) := by decide +kernel
theorem dX11_read_70 : decode cX11_read 70 = .ok (.getfield 20, 3) := by decide +kernel
theorem dX11_read_73 : decode cX11_read 73 = .ok (.invokevirtual 95, 3) := by decide +kernel
theorem dX11_read_76 : decode cX11_read 76 = .ok (.aload_n 0, 1) := by decide +kernel
theorem dX11_read_77 : decode cX11_read 77 = .ok (.iconst 1, 1) := by decide +kernel
theorem dX11_read_78 : decode cX11_read 78 = .ok (.putfield 50, 3) := by decide +kernel
theorem dX11_read_81 : decode cX11_read 81 = .ok (.aload_n 0, 1) := by decide +kernel
theorem dX11_read_82 : decode cX11_read 82 = .ok (.iconst 0, 1) := by decide +kernel
theorem dX11_read_83 : decode cX11_read 83 = .ok (.putfield 63, 3) := by decide +kernel
theorem dX11_read_86 : decode cX11_read 86 = .ok (.aload_n 0, 1) := by decide +kernel
theorem dX11_read_87 : decode cX11_read 87 = .ok (.getfield 20, 3) := by decide +kernel
theorem dX11_read_90 : decode cX11_read 90 = .ok (.getfield 90, 3) := by decide +kernel
theorem dX11_read_93 : decode cX11_read 93 = .ok (.ireturn, 1) := by decide +kernel
theorem dX11_place_0 : decode cX11_place 0 = .ok (.aload_n 0, 1) := by decide +kernel
theorem dX11_place_1 : decode cX11_place 1 = .ok (.getfield 40, 3) := by decide +kernel
theorem dX11_place_4 : decode cX11_place 4 = .ok (.ireturn, 1) := by decide +kernel
theorem dX11_begin_0 : decode cX11_begin 0 = .ok (.aload_n 0, 1) := by decide +kernel
theorem dX11_begin_1 : decode cX11_begin 1 = .ok (.getfield 50, 3) := by decide +kernel
theorem dX11_begin_4 : decode cX11_begin 4 = .ok (.ifCond .ne 5, 3) := by decide +kernel
theorem dX11_begin_7 : decode cX11_begin 7 = .ok (.iconst 0, 1) := by decide +kernel
theorem dX11_begin_8 : decode cX11_begin 8 = .ok (.ireturn, 1) := by decide +kernel
theorem dX11_begin_9 : decode cX11_begin 9 = .ok (.aload_n 0, 1) := by decide +kernel
theorem dX11_begin_10 : decode cX11_begin 10 = .ok (.iconst 1, 1) := by decide +kernel
theorem dX11_begin_11 : decode cX11_begin 11 = .ok (.putfield 63, 3) := by decide +kernel
theorem dX11_begin_14 : decode cX11_begin 14 = .ok (.aload_n 0, 1) := by decide +kernel
theorem dX11_begin_15 : decode cX11_begin 15 = .ok (.iconst 0, 1) := by decide +kernel
theorem dX11_begin_16 : decode cX11_begin 16 = .ok (.putfield 73, 3) := by decide +kernel
theorem dX11_begin_19 : decode cX11_begin 19 = .ok (.aload_n 0, 1) := by decide +kernel
theorem dX11_begin_20 : decode cX11_begin 20 = .ok (.getfield 59, 3) := by decide +kernel
theorem dX11_begin_23 : decode cX11_begin 23 = .ok (.invokevirtual 98, 3) := by decide +kernel
theorem dX11_begin_26 : decode cX11_begin 26 = .ok (.iconst 1, 1) := by decide +kernel
theorem dX11_begin_27 : decode cX11_begin 27 = .ok (.ireturn, 1) := by decide +kernel
theorem dX11_press_0 : decode cX11_press 0 = .ok (.aload_n 0, 1) := by decide +kernel
theorem dX11_press_1 : decode cX11_press 1 = .ok (.getfield 63, 3) := by decide +kernel
theorem dX11_press_4 : decode cX11_press 4 = .ok (.ifCond .eq 25, 3) := by decide +kernel
theorem dX11_press_7 : decode cX11_press 7 = .ok (.aload_n 0, 1) := by decide +kernel
theorem dX11_press_8 : decode cX11_press 8 = .ok (.getfield 46, 3) := by decide +kernel
theorem dX11_press_11 : decode cX11_press 11 = .ok (.iconst 0, 1) := by decide +kernel
theorem dX11_press_12 : decode cX11_press 12 = .ok (.iload_n 1, 1) := by decide +kernel
theorem dX11_press_13 : decode cX11_press 13 = .ok (.invokevirtual 101, 3) := by decide +kernel
theorem dX11_press_16 : decode cX11_press 16 = .ok (.ifCond .eq 13, 3) := by decide +kernel
theorem dX11_press_19 : decode cX11_press 19 = .ok (.aload_n 0, 1) := by decide +kernel
theorem dX11_press_20 : decode cX11_press 20 = .ok (.getfield 73, 3) := by decide +kernel
theorem dX11_press_23 : decode cX11_press 23 = .ok (.sipush 600, 3) := by decide +kernel
theorem dX11_press_26 : decode cX11_press 26 = .ok (.if_icmp .lt 5, 3) := by decide +kernel
theorem dX11_press_29 : decode cX11_press 29 = .ok (.iconst (-1), 1) := by decide +kernel
theorem dX11_press_30 : decode cX11_press 30 = .ok (.ireturn, 1) := by decide +kernel
theorem dX11_press_31 : decode cX11_press 31 = .ok (.aload_n 0, 1) := by decide +kernel
theorem dX11_press_32 : decode cX11_press 32 = .ok (.getfield 66, 3) := by decide +kernel
theorem dX11_press_35 : decode cX11_press 35 = .ok (.aload_n 0, 1) := by decide +kernel
theorem dX11_press_36 : decode cX11_press 36 = .ok (.getfield 73, 3) := by decide +kernel
theorem dX11_press_39 : decode cX11_press 39 = .ok (.iload_n 1, 1) := by decide +kernel
theorem dX11_press_40 : decode cX11_press 40 = .ok (.iastore, 1) := by decide +kernel
theorem dX11_press_41 : decode cX11_press 41 = .ok (.aload_n 0, 1) := by decide +kernel
theorem dX11_press_42 : decode cX11_press 42 = .ok (.getfield 70, 3) := by decide +kernel
theorem dX11_press_45 : decode cX11_press 45 = .ok (.aload_n 0, 1) := by decide +kernel
theorem dX11_press_46 : decode cX11_press 46 = .ok (.getfield 73, 3) := by decide +kernel
theorem dX11_press_49 : decode cX11_press 49 = .ok (.aload_n 0, 1) := by decide +kernel
theorem dX11_press_50 : decode cX11_press 50 = .ok (.getfield 59, 3) := by decide +kernel
theorem dX11_press_53 : decode cX11_press 53 = .ok (.getfield 105, 3) := by decide +kernel
theorem dX11_press_56 : decode cX11_press 56 = .ok (.iastore, 1) := by decide +kernel
theorem dX11_press_57 : decode cX11_press 57 = .ok (.aload_n 0, 1) := by decide +kernel
theorem dX11_press_58 : decode cX11_press 58 = .ok (.dup, 1) := by decide +kernel
theorem dX11_press_59 : decode cX11_press 59 = .ok (.getfield 73, 3) := by decide +kernel
theorem dX11_press_62 : decode cX11_press 62 = .ok (.iconst 1, 1) := by decide +kernel
theorem dX11_press_63 : decode cX11_press 63 = .ok (.iadd, 1) := by decide +kernel
theorem dX11_press_64 : decode cX11_press 64 = .ok (.putfield 73, 3) := by decide +kernel
theorem dX11_press_67 : decode cX11_press 67 = .ok (.aload_n 0, 1) := by decide +kernel
theorem dX11_press_68 : decode cX11_press 68 = .ok (.getfield 59, 3) := by decide +kernel
theorem dX11_press_71 : decode cX11_press 71 = .ok (.iload_n 1, 1) := by decide +kernel
theorem dX11_press_72 : decode cX11_press 72 = .ok (.invokevirtual 108, 3) := by decide +kernel
theorem dX11_press_75 : decode cX11_press 75 = .ok (.ifCond .eq 7, 3) := by decide +kernel
theorem dX11_press_78 : decode cX11_press 78 = .ok (.iconst 1, 1) := by decide +kernel
theorem dX11_press_79 : decode cX11_press 79 = .ok (.goto 4, 3) := by decide +kernel
theorem dX11_press_82 : decode cX11_press 82 = .ok (.iconst 0, 1) := by decide +kernel
theorem dX11_press_83 : decode cX11_press 83 = .ok (.ireturn, 1) := by decide +kernel
theorem dX11_ticks_0 : decode cX11_ticks 0 = .ok (.aload_n 0, 1) := by decide +kernel
theorem dX11_ticks_1 : decode cX11_ticks 1 = .ok (.getfield 63, 3) := by decide +kernel
theorem dX11_ticks_4 : decode cX11_ticks 4 = .ok (.ifCond .eq 29, 3) := by decide +kernel
theorem dX11_ticks_7 : decode cX11_ticks 7 = .ok (.iload_n 1, 1) := by decide +kernel
theorem dX11_ticks_8 : decode cX11_ticks 8 = .ok (.iconst 1, 1) := by decide +kernel
theorem dX11_ticks_9 : decode cX11_ticks 9 = .ok (.if_icmp .lt 24, 3) := by decide +kernel
theorem dX11_ticks_12 : decode cX11_ticks 12 = .ok (.iload_n 1, 1) := by decide +kernel
theorem dX11_ticks_13 : decode cX11_ticks 13 = .ok (.bipush 100, 2) := by decide +kernel
theorem dX11_ticks_15 : decode cX11_ticks 15 = .ok (.if_icmp .gt 18, 3) := by decide +kernel
theorem dX11_ticks_18 : decode cX11_ticks 18 = .ok (.aload_n 0, 1) := by decide +kernel
theorem dX11_ticks_19 : decode cX11_ticks 19 = .ok (.getfield 59, 3) := by decide +kernel
theorem dX11_ticks_22 : decode cX11_ticks 22 = .ok (.getfield 105, 3) := by decide +kernel
theorem dX11_ticks_25 : decode cX11_ticks 25 = .ok (.iload_n 1, 1) := by decide +kernel
theorem dX11_ticks_26 : decode cX11_ticks 26 = .ok (.iadd, 1) := by decide +kernel
theorem dX11_ticks_27 : decode cX11_ticks 27 = .ok (.sipush 5000, 3) := by decide +kernel
theorem dX11_ticks_30 : decode cX11_ticks 30 = .ok (.if_icmp .le 5, 3) := by decide +kernel
theorem dX11_ticks_33 : decode cX11_ticks 33 = .ok (.iconst (-1), 1) := by decide +kernel
theorem dX11_ticks_34 : decode cX11_ticks 34 = .ok (.ireturn, 1) := by decide +kernel
theorem dX11_ticks_35 : decode cX11_ticks 35 = .ok (.iconst 0, 1) := by decide +kernel
theorem dX11_ticks_36 : decode cX11_ticks 36 = .ok (.istore_n 2, 1) := by decide +kernel
theorem dX11_ticks_37 : decode cX11_ticks 37 = .ok (.iconst 0, 1) := by decide +kernel
theorem dX11_ticks_38 : decode cX11_ticks 38 = .ok (.istore_n 3, 1) := by decide +kernel
theorem dX11_ticks_39 : decode cX11_ticks 39 = .ok (.iload_n 3, 1) := by decide +kernel
theorem dX11_ticks_40 : decode cX11_ticks 40 = .ok (.iload_n 1, 1) := by decide +kernel
theorem dX11_ticks_41 : decode cX11_ticks 41 = .ok (.if_icmp .ge 19, 3) := by decide +kernel
theorem dX11_ticks_44 : decode cX11_ticks 44 = .ok (.iload_n 2, 1) := by decide +kernel
theorem dX11_ticks_45 : decode cX11_ticks 45 = .ok (.aload_n 0, 1) := by decide +kernel
theorem dX11_ticks_46 : decode cX11_ticks 46 = .ok (.getfield 59, 3) := by decide +kernel
theorem dX11_ticks_49 : decode cX11_ticks 49 = .ok (.invokevirtual 112, 3) := by decide +kernel
theorem dX11_ticks_52 : decode cX11_ticks 52 = .ok (.iadd, 1) := by decide +kernel
theorem dX11_ticks_53 : decode cX11_ticks 53 = .ok (.istore_n 2, 1) := by decide +kernel
theorem dX11_ticks_54 : decode cX11_ticks 54 = .ok (.iinc 3 1, 3) := by decide +kernel
theorem dX11_ticks_57 : decode cX11_ticks 57 = .ok (.goto (-18), 3) := by decide +kernel
theorem dX11_ticks_60 : decode cX11_ticks 60 = .ok (.iload_n 2, 1) := by decide +kernel
theorem dX11_ticks_61 : decode cX11_ticks 61 = .ok (.ireturn, 1) := by decide +kernel
theorem dX11_score_0 : decode cX11_score 0 = .ok (.aload_n 0, 1) := by decide +kernel
theorem dX11_score_1 : decode cX11_score 1 = .ok (.getfield 63, 3) := by decide +kernel
theorem dX11_score_4 : decode cX11_score 4 = .ok (.ifCond .eq 13, 3) := by decide +kernel
theorem dX11_score_7 : decode cX11_score 7 = .ok (.aload_n 0, 1) := by decide +kernel
theorem dX11_score_8 : decode cX11_score 8 = .ok (.getfield 59, 3) := by decide +kernel
theorem dX11_score_11 : decode cX11_score 11 = .ok (.getfield 116, 3) := by decide +kernel
theorem dX11_score_14 : decode cX11_score 14 = .ok (.goto 6, 3) := by decide +kernel
theorem dX11_score_17 : decode cX11_score 17 = .ok (.ldc2_w 120, 3) := by decide +kernel
theorem dX11_score_20 : decode cX11_score 20 = .ok (.lreturn, 1) := by decide +kernel
theorem dX11_told_0 : decode cX11_told 0 = .ok (.aload_n 0, 1) := by decide +kernel
theorem dX11_told_1 : decode cX11_told 1 = .ok (.getfield 46, 3) := by decide +kernel
theorem dX11_told_4 : decode cX11_told 4 = .ok (.iconst 0, 1) := by decide +kernel
theorem dX11_told_5 : decode cX11_told 5 = .ok (.iload_n 1, 1) := by decide +kernel
theorem dX11_told_6 : decode cX11_told 6 = .ok (.invokevirtual 101, 3) := by decide +kernel
theorem dX11_told_9 : decode cX11_told 9 = .ok (.ifCond .ne 5, 3) := by decide +kernel
theorem dX11_told_12 : decode cX11_told 12 = .ok (.iconst (-1), 1) := by decide +kernel
theorem dX11_told_13 : decode cX11_told 13 = .ok (.ireturn, 1) := by decide +kernel
theorem dX11_told_14 : decode cX11_told 14 = .ok (.iload_n 2, 1) := by decide +kernel
theorem dX11_told_15 : decode cX11_told 15 = .ok (.iconst 3, 1) := by decide +kernel
theorem dX11_told_16 : decode cX11_told 16 = .ok (.if_icmp .ne 13, 3) := by decide +kernel
theorem dX11_told_19 : decode cX11_told 19 = .ok (.aload_n 0, 1) := by decide +kernel
theorem dX11_told_20 : decode cX11_told 20 = .ok (.getfield 46, 3) := by decide +kernel
theorem dX11_told_23 : decode cX11_told 23 = .ok (.getfield 122, 3) := by decide +kernel
theorem dX11_told_26 : decode cX11_told 26 = .ok (.iload_n 1, 1) := by decide +kernel
theorem dX11_told_27 : decode cX11_told 27 = .ok (.iaload, 1) := by decide +kernel
theorem dX11_told_28 : decode cX11_told 28 = .ok (.ireturn, 1) := by decide +kernel
theorem dX11_told_29 : decode cX11_told 29 = .ok (.aload_n 0, 1) := by decide +kernel
theorem dX11_told_30 : decode cX11_told 30 = .ok (.getfield 63, 3) := by decide +kernel
theorem dX11_told_33 : decode cX11_told 33 = .ok (.ifCond .ne 5, 3) := by decide +kernel
theorem dX11_told_36 : decode cX11_told 36 = .ok (.iconst (-1), 1) := by decide +kernel
theorem dX11_told_37 : decode cX11_told 37 = .ok (.ireturn, 1) := by decide +kernel
theorem dX11_told_38 : decode cX11_told 38 = .ok (.iload_n 2, 1) := by decide +kernel
theorem dX11_told_39 : decode cX11_told 39 = .ok (.tableswitch 78 0 2 #[25, 38, 51], 25) := by decide +kernel
theorem dX11_told_64 : decode cX11_told 64 = .ok (.aload_n 0, 1) := by decide +kernel
theorem dX11_told_65 : decode cX11_told 65 = .ok (.getfield 59, 3) := by decide +kernel
theorem dX11_told_68 : decode cX11_told 68 = .ok (.getfield 125, 3) := by decide +kernel
theorem dX11_told_71 : decode cX11_told 71 = .ok (.getfield 129, 3) := by decide +kernel
theorem dX11_told_74 : decode cX11_told 74 = .ok (.iload_n 1, 1) := by decide +kernel
theorem dX11_told_75 : decode cX11_told 75 = .ok (.iaload, 1) := by decide +kernel
theorem dX11_told_76 : decode cX11_told 76 = .ok (.ireturn, 1) := by decide +kernel
theorem dX11_told_77 : decode cX11_told 77 = .ok (.aload_n 0, 1) := by decide +kernel
theorem dX11_told_78 : decode cX11_told 78 = .ok (.getfield 59, 3) := by decide +kernel
theorem dX11_told_81 : decode cX11_told 81 = .ok (.getfield 125, 3) := by decide +kernel
theorem dX11_told_84 : decode cX11_told 84 = .ok (.getfield 134, 3) := by decide +kernel
theorem dX11_told_87 : decode cX11_told 87 = .ok (.iload_n 1, 1) := by decide +kernel
theorem dX11_told_88 : decode cX11_told 88 = .ok (.iaload, 1) := by decide +kernel
theorem dX11_told_89 : decode cX11_told 89 = .ok (.ireturn, 1) := by decide +kernel
theorem dX11_told_90 : decode cX11_told 90 = .ok (.aload_n 0, 1) := by decide +kernel
theorem dX11_told_91 : decode cX11_told 91 = .ok (.getfield 59, 3) := by decide +kernel
theorem dX11_told_94 : decode cX11_told 94 = .ok (.getfield 125, 3) := by decide +kernel
theorem dX11_told_97 : decode cX11_told 97 = .ok (.iload_n 1, 1) := by decide +kernel
theorem dX11_told_98 : decode cX11_told 98 = .ok (.aload_n 0, 1) := by decide +kernel
theorem dX11_told_99 : decode cX11_told 99 = .ok (.getfield 59, 3) := by decide +kernel
theorem dX11_told_102 : decode cX11_told 102 = .ok (.invokevirtual 137, 3) := by decide +kernel
theorem dX11_told_105 : decode cX11_told 105 = .ok (.invokevirtual 140, 3) := by decide +kernel
theorem dX11_told_108 : decode cX11_told 108 = .ok (.ifCond .eq 7, 3) := by decide +kernel
theorem dX11_told_111 : decode cX11_told 111 = .ok (.iconst 1, 1) := by decide +kernel
theorem dX11_told_112 : decode cX11_told 112 = .ok (.goto 4, 3) := by decide +kernel
theorem dX11_told_115 : decode cX11_told 115 = .ok (.iconst 0, 1) := by decide +kernel
theorem dX11_told_116 : decode cX11_told 116 = .ok (.ireturn, 1) := by decide +kernel
theorem dX11_told_117 : decode cX11_told 117 = .ok (.iconst (-1), 1) := by decide +kernel
theorem dX11_told_118 : decode cX11_told 118 = .ok (.ireturn, 1) := by decide +kernel
theorem dX11_coil_0 : decode cX11_coil 0 = .ok (.aload_n 0, 1) := by decide +kernel
theorem dX11_coil_1 : decode cX11_coil 1 = .ok (.getfield 63, 3) := by decide +kernel
theorem dX11_coil_4 : decode cX11_coil 4 = .ok (.ifCond .eq 15, 3) := by decide +kernel
theorem dX11_coil_7 : decode cX11_coil 7 = .ok (.aload_n 0, 1) := by decide +kernel
theorem dX11_coil_8 : decode cX11_coil 8 = .ok (.getfield 46, 3) := by decide +kernel
theorem dX11_coil_11 : decode cX11_coil 11 = .ok (.iconst 1, 1) := by decide +kernel
theorem dX11_coil_12 : decode cX11_coil 12 = .ok (.iload_n 1, 1) := by decide +kernel
theorem dX11_coil_13 : decode cX11_coil 13 = .ok (.invokevirtual 101, 3) := by decide +kernel
theorem dX11_coil_16 : decode cX11_coil 16 = .ok (.ifCond .ne 5, 3) := by decide +kernel
theorem dX11_coil_19 : decode cX11_coil 19 = .ok (.iconst (-1), 1) := by decide +kernel
theorem dX11_coil_20 : decode cX11_coil 20 = .ok (.ireturn, 1) := by decide +kernel
theorem dX11_coil_21 : decode cX11_coil 21 = .ok (.iload_n 2, 1) := by decide +kernel
theorem dX11_coil_22 : decode cX11_coil 22 = .ok (.tableswitch 83 0 2 #[26, 39, 71], 26) := by decide +kernel
theorem dX11_coil_48 : decode cX11_coil 48 = .ok (.aload_n 0, 1) := by decide +kernel
theorem dX11_coil_49 : decode cX11_coil 49 = .ok (.getfield 59, 3) := by decide +kernel
theorem dX11_coil_52 : decode cX11_coil 52 = .ok (.getfield 143, 3) := by decide +kernel
theorem dX11_coil_55 : decode cX11_coil 55 = .ok (.getfield 147, 3) := by decide +kernel
theorem dX11_coil_58 : decode cX11_coil 58 = .ok (.iload_n 1, 1) := by decide +kernel
theorem dX11_coil_59 : decode cX11_coil 59 = .ok (.iaload, 1) := by decide +kernel
theorem dX11_coil_60 : decode cX11_coil 60 = .ok (.ireturn, 1) := by decide +kernel
theorem dX11_coil_61 : decode cX11_coil 61 = .ok (.aload_n 0, 1) := by decide +kernel
theorem dX11_coil_62 : decode cX11_coil 62 = .ok (.getfield 59, 3) := by decide +kernel
theorem dX11_coil_65 : decode cX11_coil 65 = .ok (.getfield 143, 3) := by decide +kernel
theorem dX11_coil_68 : decode cX11_coil 68 = .ok (.getfield 147, 3) := by decide +kernel
theorem dX11_coil_71 : decode cX11_coil 71 = .ok (.iload_n 1, 1) := by decide +kernel
theorem dX11_coil_72 : decode cX11_coil 72 = .ok (.iaload, 1) := by decide +kernel
theorem dX11_coil_73 : decode cX11_coil 73 = .ok (.ifCond .le 18, 3) := by decide +kernel
theorem dX11_coil_76 : decode cX11_coil 76 = .ok (.aload_n 0, 1) := by decide +kernel
theorem dX11_coil_77 : decode cX11_coil 77 = .ok (.getfield 59, 3) := by decide +kernel
theorem dX11_coil_80 : decode cX11_coil 80 = .ok (.getfield 143, 3) := by decide +kernel
theorem dX11_coil_83 : decode cX11_coil 83 = .ok (.getfield 152, 3) := by decide +kernel
theorem dX11_coil_86 : decode cX11_coil 86 = .ok (.iload_n 1, 1) := by decide +kernel
theorem dX11_coil_87 : decode cX11_coil 87 = .ok (.iaload, 1) := by decide +kernel
theorem dX11_coil_88 : decode cX11_coil 88 = .ok (.goto 4, 3) := by decide +kernel
theorem dX11_coil_91 : decode cX11_coil 91 = .ok (.iconst (-1), 1) := by decide +kernel
theorem dX11_coil_92 : decode cX11_coil 92 = .ok (.ireturn, 1) := by decide +kernel
theorem dX11_coil_93 : decode cX11_coil 93 = .ok (.aload_n 0, 1) := by decide +kernel
theorem dX11_coil_94 : decode cX11_coil 94 = .ok (.getfield 59, 3) := by decide +kernel
theorem dX11_coil_97 : decode cX11_coil 97 = .ok (.getfield 143, 3) := by decide +kernel
theorem dX11_coil_100 : decode cX11_coil 100 = .ok (.iload_n 1, 1) := by decide +kernel
theorem dX11_coil_101 : decode cX11_coil 101 = .ok (.invokevirtual 155, 3) := by decide +kernel
theorem dX11_coil_104 : decode cX11_coil 104 = .ok (.ireturn, 1) := by decide +kernel
theorem dX11_coil_105 : decode cX11_coil 105 = .ok (.iconst (-1), 1) := by decide +kernel
theorem dX11_coil_106 : decode cX11_coil 106 = .ok (.ireturn, 1) := by decide +kernel
theorem dX11_lamp_0 : decode cX11_lamp 0 = .ok (.aload_n 0, 1) := by decide +kernel
theorem dX11_lamp_1 : decode cX11_lamp 1 = .ok (.getfield 63, 3) := by decide +kernel
theorem dX11_lamp_4 : decode cX11_lamp 4 = .ok (.ifCond .eq 15, 3) := by decide +kernel
theorem dX11_lamp_7 : decode cX11_lamp 7 = .ok (.aload_n 0, 1) := by decide +kernel
theorem dX11_lamp_8 : decode cX11_lamp 8 = .ok (.getfield 46, 3) := by decide +kernel
theorem dX11_lamp_11 : decode cX11_lamp 11 = .ok (.iconst 3, 1) := by decide +kernel
theorem dX11_lamp_12 : decode cX11_lamp 12 = .ok (.iload_n 1, 1) := by decide +kernel
theorem dX11_lamp_13 : decode cX11_lamp 13 = .ok (.invokevirtual 101, 3) := by decide +kernel
theorem dX11_lamp_16 : decode cX11_lamp 16 = .ok (.ifCond .ne 5, 3) := by decide +kernel
theorem dX11_lamp_19 : decode cX11_lamp 19 = .ok (.iconst (-1), 1) := by decide +kernel
theorem dX11_lamp_20 : decode cX11_lamp 20 = .ok (.ireturn, 1) := by decide +kernel
theorem dX11_lamp_21 : decode cX11_lamp 21 = .ok (.aload_n 0, 1) := by decide +kernel
theorem dX11_lamp_22 : decode cX11_lamp 22 = .ok (.getfield 59, 3) := by decide +kernel
theorem dX11_lamp_25 : decode cX11_lamp 25 = .ok (.aload_n 0, 1) := by decide +kernel
theorem dX11_lamp_26 : decode cX11_lamp 26 = .ok (.getfield 46, 3) := by decide +kernel
theorem dX11_lamp_29 : decode cX11_lamp 29 = .ok (.getfield 159, 3) := by decide +kernel
theorem dX11_lamp_32 : decode cX11_lamp 32 = .ok (.iload_n 1, 1) := by decide +kernel
theorem dX11_lamp_33 : decode cX11_lamp 33 = .ok (.iaload, 1) := by decide +kernel
theorem dX11_lamp_34 : decode cX11_lamp 34 = .ok (.invokevirtual 162, 3) := by decide +kernel
theorem dX11_lamp_37 : decode cX11_lamp 37 = .ok (.ifCond .eq 7, 3) := by decide +kernel
theorem dX11_lamp_40 : decode cX11_lamp 40 = .ok (.iconst 1, 1) := by decide +kernel
theorem dX11_lamp_41 : decode cX11_lamp 41 = .ok (.goto 4, 3) := by decide +kernel
theorem dX11_lamp_44 : decode cX11_lamp 44 = .ok (.iconst 0, 1) := by decide +kernel
theorem dX11_lamp_45 : decode cX11_lamp 45 = .ok (.ireturn, 1) := by decide +kernel
theorem dX11_value_0 : decode cX11_value 0 = .ok (.aload_n 0, 1) := by decide +kernel
theorem dX11_value_1 : decode cX11_value 1 = .ok (.getfield 63, 3) := by decide +kernel
theorem dX11_value_4 : decode cX11_value 4 = .ok (.ifCond .eq 28, 3) := by decide +kernel
theorem dX11_value_7 : decode cX11_value 7 = .ok (.aload_n 0, 1) := by decide +kernel
theorem dX11_value_8 : decode cX11_value 8 = .ok (.getfield 46, 3) := by decide +kernel
theorem dX11_value_11 : decode cX11_value 11 = .ok (.bipush 6, 2) := by decide +kernel
theorem dX11_value_13 : decode cX11_value 13 = .ok (.iload_n 1, 1) := by decide +kernel
theorem dX11_value_14 : decode cX11_value 14 = .ok (.invokevirtual 101, 3) := by decide +kernel
theorem dX11_value_17 : decode cX11_value 17 = .ok (.ifCond .eq 15, 3) := by decide +kernel
theorem dX11_value_20 : decode cX11_value 20 = .ok (.aload_n 0, 1) := by decide +kernel
theorem dX11_value_21 : decode cX11_value 21 = .ok (.getfield 59, 3) := by decide +kernel
theorem dX11_value_24 : decode cX11_value 24 = .ok (.getfield 165, 3) := by decide +kernel
theorem dX11_value_27 : decode cX11_value 27 = .ok (.iload_n 1, 1) := by decide +kernel
theorem dX11_value_28 : decode cX11_value 28 = .ok (.iaload, 1) := by decide +kernel
theorem dX11_value_29 : decode cX11_value 29 = .ok (.goto 4, 3) := by decide +kernel
theorem dX11_value_32 : decode cX11_value 32 = .ok (.iconst 0, 1) := by decide +kernel
theorem dX11_value_33 : decode cX11_value 33 = .ok (.ireturn, 1) := by decide +kernel
theorem dX11_mode_0 : decode cX11_mode 0 = .ok (.aload_n 0, 1) := by decide +kernel
theorem dX11_mode_1 : decode cX11_mode 1 = .ok (.getfield 46, 3) := by decide +kernel
theorem dX11_mode_4 : decode cX11_mode 4 = .ok (.bipush 7, 2) := by decide +kernel
theorem dX11_mode_6 : decode cX11_mode 6 = .ok (.iload_n 1, 1) := by decide +kernel
theorem dX11_mode_7 : decode cX11_mode 7 = .ok (.invokevirtual 101, 3) := by decide +kernel
theorem dX11_mode_10 : decode cX11_mode 10 = .ok (.ifCond .ne 5, 3) := by decide +kernel
theorem dX11_mode_13 : decode cX11_mode 13 = .ok (.iconst (-1), 1) := by decide +kernel
theorem dX11_mode_14 : decode cX11_mode 14 = .ok (.ireturn, 1) := by decide +kernel
theorem dX11_mode_15 : decode cX11_mode 15 = .ok (.iload_n 2, 1) := by decide +kernel
theorem dX11_mode_16 : decode cX11_mode 16 = .ok (.iconst 3, 1) := by decide +kernel
theorem dX11_mode_17 : decode cX11_mode 17 = .ok (.if_icmp .ne 13, 3) := by decide +kernel
theorem dX11_mode_20 : decode cX11_mode 20 = .ok (.aload_n 0, 1) := by decide +kernel
theorem dX11_mode_21 : decode cX11_mode 21 = .ok (.getfield 46, 3) := by decide +kernel
theorem dX11_mode_24 : decode cX11_mode 24 = .ok (.getfield 168, 3) := by decide +kernel
theorem dX11_mode_27 : decode cX11_mode 27 = .ok (.iload_n 1, 1) := by decide +kernel
theorem dX11_mode_28 : decode cX11_mode 28 = .ok (.iaload, 1) := by decide +kernel
theorem dX11_mode_29 : decode cX11_mode 29 = .ok (.ireturn, 1) := by decide +kernel
theorem dX11_mode_30 : decode cX11_mode 30 = .ok (.aload_n 0, 1) := by decide +kernel
theorem dX11_mode_31 : decode cX11_mode 31 = .ok (.getfield 63, 3) := by decide +kernel
theorem dX11_mode_34 : decode cX11_mode 34 = .ok (.ifCond .ne 5, 3) := by decide +kernel
theorem dX11_mode_37 : decode cX11_mode 37 = .ok (.iconst (-1), 1) := by decide +kernel
theorem dX11_mode_38 : decode cX11_mode 38 = .ok (.ireturn, 1) := by decide +kernel
theorem dX11_mode_39 : decode cX11_mode 39 = .ok (.iload_n 2, 1) := by decide +kernel
theorem dX11_mode_40 : decode cX11_mode 40 = .ok (.tableswitch 75 0 2 #[28, 49, 62], 28) := by decide +kernel
theorem dX11_mode_68 : decode cX11_mode 68 = .ok (.aload_n 0, 1) := by decide +kernel
theorem dX11_mode_69 : decode cX11_mode 69 = .ok (.getfield 59, 3) := by decide +kernel
theorem dX11_mode_72 : decode cX11_mode 72 = .ok (.getfield 171, 3) := by decide +kernel
theorem dX11_mode_75 : decode cX11_mode 75 = .ok (.getfield 175, 3) := by decide +kernel
theorem dX11_mode_78 : decode cX11_mode 78 = .ok (.iload_n 1, 1) := by decide +kernel
theorem dX11_mode_79 : decode cX11_mode 79 = .ok (.baload, 1) := by decide +kernel
theorem dX11_mode_80 : decode cX11_mode 80 = .ok (.ifCond .eq 7, 3) := by decide +kernel
theorem dX11_mode_83 : decode cX11_mode 83 = .ok (.iconst 1, 1) := by decide +kernel
theorem dX11_mode_84 : decode cX11_mode 84 = .ok (.goto 4, 3) := by decide +kernel
theorem dX11_mode_87 : decode cX11_mode 87 = .ok (.iconst 0, 1) := by decide +kernel
theorem dX11_mode_88 : decode cX11_mode 88 = .ok (.ireturn, 1) := by decide +kernel
theorem dX11_mode_89 : decode cX11_mode 89 = .ok (.aload_n 0, 1) := by decide +kernel
theorem dX11_mode_90 : decode cX11_mode 90 = .ok (.getfield 59, 3) := by decide +kernel
theorem dX11_mode_93 : decode cX11_mode 93 = .ok (.getfield 171, 3) := by decide +kernel
theorem dX11_mode_96 : decode cX11_mode 96 = .ok (.getfield 181, 3) := by decide +kernel
theorem dX11_mode_99 : decode cX11_mode 99 = .ok (.iload_n 1, 1) := by decide +kernel
theorem dX11_mode_100 : decode cX11_mode 100 = .ok (.iaload, 1) := by decide +kernel
theorem dX11_mode_101 : decode cX11_mode 101 = .ok (.ireturn, 1) := by decide +kernel
theorem dX11_mode_102 : decode cX11_mode 102 = .ok (.aload_n 0, 1) := by decide +kernel
theorem dX11_mode_103 : decode cX11_mode 103 = .ok (.getfield 59, 3) := by decide +kernel
theorem dX11_mode_106 : decode cX11_mode 106 = .ok (.getfield 171, 3) := by decide +kernel
theorem dX11_mode_109 : decode cX11_mode 109 = .ok (.getfield 184, 3) := by decide +kernel
theorem dX11_mode_112 : decode cX11_mode 112 = .ok (.iload_n 1, 1) := by decide +kernel
theorem dX11_mode_113 : decode cX11_mode 113 = .ok (.iaload, 1) := by decide +kernel
theorem dX11_mode_114 : decode cX11_mode 114 = .ok (.ireturn, 1) := by decide +kernel
theorem dX11_mode_115 : decode cX11_mode 115 = .ok (.iconst (-1), 1) := by decide +kernel
theorem dX11_mode_116 : decode cX11_mode 116 = .ok (.ireturn, 1) := by decide +kernel
theorem dX11_balls_0 : decode cX11_balls 0 = .ok (.aload_n 0, 1) := by decide +kernel
theorem dX11_balls_1 : decode cX11_balls 1 = .ok (.getfield 63, 3) := by decide +kernel
theorem dX11_balls_4 : decode cX11_balls 4 = .ok (.ifCond .eq 15, 3) := by decide +kernel
theorem dX11_balls_7 : decode cX11_balls 7 = .ok (.aload_n 0, 1) := by decide +kernel
theorem dX11_balls_8 : decode cX11_balls 8 = .ok (.getfield 46, 3) := by decide +kernel
theorem dX11_balls_11 : decode cX11_balls 11 = .ok (.iconst 4, 1) := by decide +kernel
theorem dX11_balls_12 : decode cX11_balls 12 = .ok (.iload_n 1, 1) := by decide +kernel
theorem dX11_balls_13 : decode cX11_balls 13 = .ok (.invokevirtual 101, 3) := by decide +kernel
theorem dX11_balls_16 : decode cX11_balls 16 = .ok (.ifCond .ne 5, 3) := by decide +kernel
theorem dX11_balls_19 : decode cX11_balls 19 = .ok (.iconst (-1), 1) := by decide +kernel
theorem dX11_balls_20 : decode cX11_balls 20 = .ok (.ireturn, 1) := by decide +kernel
theorem dX11_balls_21 : decode cX11_balls 21 = .ok (.iload_n 2, 1) := by decide +kernel
theorem dX11_balls_22 : decode cX11_balls 22 = .ok (.ifCond .eq 17, 3) := by decide +kernel
theorem dX11_balls_25 : decode cX11_balls 25 = .ok (.aload_n 0, 1) := by decide +kernel
theorem dX11_balls_26 : decode cX11_balls 26 = .ok (.getfield 59, 3) := by decide +kernel
theorem dX11_balls_29 : decode cX11_balls 29 = .ok (.getfield 187, 3) := by decide +kernel
theorem dX11_balls_32 : decode cX11_balls 32 = .ok (.iload_n 1, 1) := by decide +kernel
theorem dX11_balls_33 : decode cX11_balls 33 = .ok (.invokevirtual 191, 3) := by decide +kernel
theorem dX11_balls_36 : decode cX11_balls 36 = .ok (.goto 14, 3) := by decide +kernel
theorem dX11_balls_39 : decode cX11_balls 39 = .ok (.aload_n 0, 1) := by decide +kernel
theorem dX11_balls_40 : decode cX11_balls 40 = .ok (.getfield 59, 3) := by decide +kernel
theorem dX11_balls_43 : decode cX11_balls 43 = .ok (.getfield 187, 3) := by decide +kernel
theorem dX11_balls_46 : decode cX11_balls 46 = .ok (.iload_n 1, 1) := by decide +kernel
theorem dX11_balls_47 : decode cX11_balls 47 = .ok (.invokevirtual 196, 3) := by decide +kernel
theorem dX11_balls_50 : decode cX11_balls 50 = .ok (.ireturn, 1) := by decide +kernel
theorem dX11_again_0 : decode cX11_again 0 = .ok (.aload_n 0, 1) := by decide +kernel
theorem dX11_again_1 : decode cX11_again 1 = .ok (.getfield 63, 3) := by decide +kernel
theorem dX11_again_4 : decode cX11_again 4 = .ok (.ifCond .ne 7, 3) := by decide +kernel
theorem dX11_again_7 : decode cX11_again 7 = .ok (.ldc2_w 120, 3) := by decide +kernel
theorem dX11_again_10 : decode cX11_again 10 = .ok (.lreturn, 1) := by decide +kernel
theorem dX11_again_11 : decode cX11_again 11 = .ok (.aload_n 0, 1) := by decide +kernel
theorem dX11_again_12 : decode cX11_again 12 = .ok (.getfield 76, 3) := by decide +kernel
theorem dX11_again_15 : decode cX11_again 15 = .ok (.invokevirtual 98, 3) := by decide +kernel
theorem dX11_again_18 : decode cX11_again 18 = .ok (.iconst 0, 1) := by decide +kernel
theorem dX11_again_19 : decode cX11_again 19 = .ok (.istore_n 1, 1) := by decide +kernel
theorem dX11_again_20 : decode cX11_again 20 = .ok (.iload_n 1, 1) := by decide +kernel
theorem dX11_again_21 : decode cX11_again 21 = .ok (.aload_n 0, 1) := by decide +kernel
theorem dX11_again_22 : decode cX11_again 22 = .ok (.getfield 73, 3) := by decide +kernel
theorem dX11_again_25 : decode cX11_again 25 = .ok (.if_icmp .gt 98, 3) := by decide +kernel
theorem dX11_again_28 : decode cX11_again 28 = .ok (.iload_n 1, 1) := by decide +kernel
theorem dX11_again_29 : decode cX11_again 29 = .ok (.aload_n 0, 1) := by decide +kernel
theorem dX11_again_30 : decode cX11_again 30 = .ok (.getfield 73, 3) := by decide +kernel
theorem dX11_again_33 : decode cX11_again 33 = .ok (.if_icmp .ge 14, 3) := by decide +kernel
theorem dX11_again_36 : decode cX11_again 36 = .ok (.iload_n 1, 1) := by decide +kernel
theorem dX11_again_37 : decode cX11_again 37 = .ok (.sipush 600, 3) := by decide +kernel
theorem dX11_again_40 : decode cX11_again 40 = .ok (.if_icmp .ge 7, 3) := by decide +kernel
theorem dX11_again_43 : decode cX11_again 43 = .ok (.iconst 1, 1) := by decide +kernel
theorem dX11_again_44 : decode cX11_again 44 = .ok (.goto 4, 3) := by decide +kernel
theorem dX11_again_47 : decode cX11_again 47 = .ok (.iconst 0, 1) := by decide +kernel
theorem dX11_again_48 : decode cX11_again 48 = .ok (.istore_n 2, 1) := by decide +kernel
theorem dX11_again_49 : decode cX11_again 49 = .ok (.iload_n 2, 1) := by decide +kernel
theorem dX11_again_50 : decode cX11_again 50 = .ok (.ifCond .eq 12, 3) := by decide +kernel
theorem dX11_again_53 : decode cX11_again 53 = .ok (.aload_n 0, 1) := by decide +kernel
theorem dX11_again_54 : decode cX11_again 54 = .ok (.getfield 70, 3) := by decide +kernel
theorem dX11_again_57 : decode cX11_again 57 = .ok (.iload_n 1, 1) := by decide +kernel
theorem dX11_again_58 : decode cX11_again 58 = .ok (.iaload, 1) := by decide +kernel
theorem dX11_again_59 : decode cX11_again 59 = .ok (.goto 10, 3) := by decide +kernel
theorem dX11_again_62 : decode cX11_again 62 = .ok (.aload_n 0, 1) := by decide +kernel
theorem dX11_again_63 : decode cX11_again 63 = .ok (.getfield 59, 3) := by decide +kernel
theorem dX11_again_66 : decode cX11_again 66 = .ok (.getfield 105, 3) := by decide +kernel
theorem dX11_again_69 : decode cX11_again 69 = .ok (.istore_n 3, 1) := by decide +kernel
theorem dX11_again_70 : decode cX11_again 70 = .ok (.aload_n 0, 1) := by decide +kernel
theorem dX11_again_71 : decode cX11_again 71 = .ok (.getfield 76, 3) := by decide +kernel
theorem dX11_again_74 : decode cX11_again 74 = .ok (.getfield 105, 3) := by decide +kernel
theorem dX11_again_77 : decode cX11_again 77 = .ok (.istore 4, 2) := by decide +kernel
theorem dX11_again_79 : decode cX11_again 79 = .ok (.iload 4, 2) := by decide +kernel
theorem dX11_again_81 : decode cX11_again 81 = .ok (.iload_n 3, 1) := by decide +kernel
theorem dX11_again_82 : decode cX11_again 82 = .ok (.if_icmp .ge 17, 3) := by decide +kernel
theorem dX11_again_85 : decode cX11_again 85 = .ok (.aload_n 0, 1) := by decide +kernel
theorem dX11_again_86 : decode cX11_again 86 = .ok (.getfield 76, 3) := by decide +kernel
theorem dX11_again_89 : decode cX11_again 89 = .ok (.invokevirtual 112, 3) := by decide +kernel
theorem dX11_again_92 : decode cX11_again 92 = .ok (.pop, 1) := by decide +kernel
theorem dX11_again_93 : decode cX11_again 93 = .ok (.iinc 4 1, 3) := by decide +kernel
theorem dX11_again_96 : decode cX11_again 96 = .ok (.goto (-17), 3) := by decide +kernel
theorem dX11_again_99 : decode cX11_again 99 = .ok (.iload_n 2, 1) := by decide +kernel
theorem dX11_again_100 : decode cX11_again 100 = .ok (.ifCond .eq 17, 3) := by decide +kernel
theorem dX11_again_103 : decode cX11_again 103 = .ok (.aload_n 0, 1) := by decide +kernel
theorem dX11_again_104 : decode cX11_again 104 = .ok (.getfield 76, 3) := by decide +kernel
theorem dX11_again_107 : decode cX11_again 107 = .ok (.aload_n 0, 1) := by decide +kernel
theorem dX11_again_108 : decode cX11_again 108 = .ok (.getfield 66, 3) := by decide +kernel
theorem dX11_again_111 : decode cX11_again 111 = .ok (.iload_n 1, 1) := by decide +kernel
theorem dX11_again_112 : decode cX11_again 112 = .ok (.iaload, 1) := by decide +kernel
theorem dX11_again_113 : decode cX11_again 113 = .ok (.invokevirtual 108, 3) := by decide +kernel
theorem dX11_again_116 : decode cX11_again 116 = .ok (.pop, 1) := by decide +kernel
theorem dX11_again_117 : decode cX11_again 117 = .ok (.iinc 1 1, 3) := by decide +kernel
theorem dX11_again_120 : decode cX11_again 120 = .ok (.goto (-100), 3) := by decide +kernel
theorem dX11_again_123 : decode cX11_again 123 = .ok (.aload_n 0, 1) := by decide +kernel
theorem dX11_again_124 : decode cX11_again 124 = .ok (.getfield 76, 3) := by decide +kernel
theorem dX11_again_127 : decode cX11_again 127 = .ok (.getfield 116, 3) := by decide +kernel
theorem dX11_again_130 : decode cX11_again 130 = .ok (.lreturn, 1) := by decide +kernel
theorem dX11_ring_0 : decode cX11_ring 0 = .ok (.aload_n 0, 1) := by decide +kernel
theorem dX11_ring_1 : decode cX11_ring 1 = .ok (.getfield 50, 3) := by decide +kernel
theorem dX11_ring_4 : decode cX11_ring 4 = .ok (.ifCond .eq 16, 3) := by decide +kernel
theorem dX11_ring_7 : decode cX11_ring 7 = .ok (.aload_n 0, 1) := by decide +kernel
theorem dX11_ring_8 : decode cX11_ring 8 = .ok (.getfield 46, 3) := by decide +kernel
theorem dX11_ring_11 : decode cX11_ring 11 = .ok (.getfield 199, 3) := by decide +kernel
theorem dX11_ring_14 : decode cX11_ring 14 = .ok (.getfield 203, 3) := by decide +kernel
theorem dX11_ring_17 : decode cX11_ring 17 = .ok (.goto 4, 3) := by decide +kernel
theorem dX11_ring_20 : decode cX11_ring 20 = .ok (.iconst (-1), 1) := by decide +kernel
theorem dX11_ring_21 : decode cX11_ring 21 = .ok (.ireturn, 1) := by decide +kernel
theorem dX11_count_0 : decode cX11_count 0 = .ok (.iload_n 1, 1) := by decide +kernel
theorem dX11_count_1 : decode cX11_count 1 = .ok (.tableswitch 157 0 15 #[79, 89, 99, 109, 119, 130, 141, 157, 157, 157, 157, 157, 157, 157, 157, 152], 79) := by decide +kernel
theorem dX11_count_80 : decode cX11_count 80 = .ok (.aload_n 0, 1) := by decide +kernel
theorem dX11_count_81 : decode cX11_count 81 = .ok (.getfield 46, 3) := by decide +kernel
theorem dX11_count_84 : decode cX11_count 84 = .ok (.getfield 208, 3) := by decide +kernel
theorem dX11_count_87 : decode cX11_count 87 = .ok (.iconst 0, 1) := by decide +kernel
theorem dX11_count_88 : decode cX11_count 88 = .ok (.iaload, 1) := by decide +kernel
theorem dX11_count_89 : decode cX11_count 89 = .ok (.ireturn, 1) := by decide +kernel
theorem dX11_count_90 : decode cX11_count 90 = .ok (.aload_n 0, 1) := by decide +kernel
theorem dX11_count_91 : decode cX11_count 91 = .ok (.getfield 46, 3) := by decide +kernel
theorem dX11_count_94 : decode cX11_count 94 = .ok (.getfield 208, 3) := by decide +kernel
theorem dX11_count_97 : decode cX11_count 97 = .ok (.iconst 1, 1) := by decide +kernel
theorem dX11_count_98 : decode cX11_count 98 = .ok (.iaload, 1) := by decide +kernel
theorem dX11_count_99 : decode cX11_count 99 = .ok (.ireturn, 1) := by decide +kernel
theorem dX11_count_100 : decode cX11_count 100 = .ok (.aload_n 0, 1) := by decide +kernel
theorem dX11_count_101 : decode cX11_count 101 = .ok (.getfield 46, 3) := by decide +kernel
theorem dX11_count_104 : decode cX11_count 104 = .ok (.getfield 208, 3) := by decide +kernel
theorem dX11_count_107 : decode cX11_count 107 = .ok (.iconst 3, 1) := by decide +kernel
theorem dX11_count_108 : decode cX11_count 108 = .ok (.iaload, 1) := by decide +kernel
theorem dX11_count_109 : decode cX11_count 109 = .ok (.ireturn, 1) := by decide +kernel
theorem dX11_count_110 : decode cX11_count 110 = .ok (.aload_n 0, 1) := by decide +kernel
theorem dX11_count_111 : decode cX11_count 111 = .ok (.getfield 46, 3) := by decide +kernel
theorem dX11_count_114 : decode cX11_count 114 = .ok (.getfield 208, 3) := by decide +kernel
theorem dX11_count_117 : decode cX11_count 117 = .ok (.iconst 4, 1) := by decide +kernel
theorem dX11_count_118 : decode cX11_count 118 = .ok (.iaload, 1) := by decide +kernel
theorem dX11_count_119 : decode cX11_count 119 = .ok (.ireturn, 1) := by decide +kernel
theorem dX11_count_120 : decode cX11_count 120 = .ok (.aload_n 0, 1) := by decide +kernel
theorem dX11_count_121 : decode cX11_count 121 = .ok (.getfield 46, 3) := by decide +kernel
theorem dX11_count_124 : decode cX11_count 124 = .ok (.getfield 208, 3) := by decide +kernel
theorem dX11_count_127 : decode cX11_count 127 = .ok (.bipush 6, 2) := by decide +kernel
theorem dX11_count_129 : decode cX11_count 129 = .ok (.iaload, 1) := by decide +kernel
theorem dX11_count_130 : decode cX11_count 130 = .ok (.ireturn, 1) := by decide +kernel
theorem dX11_count_131 : decode cX11_count 131 = .ok (.aload_n 0, 1) := by decide +kernel
theorem dX11_count_132 : decode cX11_count 132 = .ok (.getfield 46, 3) := by decide +kernel
theorem dX11_count_135 : decode cX11_count 135 = .ok (.getfield 208, 3) := by decide +kernel
theorem dX11_count_138 : decode cX11_count 138 = .ok (.bipush 7, 2) := by decide +kernel
theorem dX11_count_140 : decode cX11_count 140 = .ok (.iaload, 1) := by decide +kernel
theorem dX11_count_141 : decode cX11_count 141 = .ok (.ireturn, 1) := by decide +kernel
theorem dX11_count_142 : decode cX11_count 142 = .ok (.aload_n 0, 1) := by decide +kernel
theorem dX11_count_143 : decode cX11_count 143 = .ok (.getfield 46, 3) := by decide +kernel
theorem dX11_count_146 : decode cX11_count 146 = .ok (.getfield 199, 3) := by decide +kernel
theorem dX11_count_149 : decode cX11_count 149 = .ok (.getfield 211, 3) := by decide +kernel
theorem dX11_count_152 : decode cX11_count 152 = .ok (.ireturn, 1) := by decide +kernel
theorem dX11_count_153 : decode cX11_count 153 = .ok (.aload_n 0, 1) := by decide +kernel
theorem dX11_count_154 : decode cX11_count 154 = .ok (.getfield 13, 3) := by decide +kernel
theorem dX11_count_157 : decode cX11_count 157 = .ok (.ireturn, 1) := by decide +kernel
theorem dX11_count_158 : decode cX11_count 158 = .ok (.iload_n 1, 1) := by decide +kernel
theorem dX11_count_159 : decode cX11_count 159 = .ok (.bipush 7, 2) := by decide +kernel
theorem dX11_count_161 : decode cX11_count 161 = .ok (.if_icmp .lt 17, 3) := by decide +kernel
theorem dX11_count_164 : decode cX11_count 164 = .ok (.iload_n 1, 1) := by decide +kernel
theorem dX11_count_165 : decode cX11_count 165 = .ok (.bipush 14, 2) := by decide +kernel
theorem dX11_count_167 : decode cX11_count 167 = .ok (.if_icmp .gt 11, 3) := by decide +kernel
theorem dX11_count_170 : decode cX11_count 170 = .ok (.aload_n 0, 1) := by decide +kernel
theorem dX11_count_171 : decode cX11_count 171 = .ok (.iload_n 1, 1) := by decide +kernel
theorem dX11_count_172 : decode cX11_count 172 = .ok (.invokevirtual 213, 3) := by decide +kernel
theorem dX11_count_175 : decode cX11_count 175 = .ok (.goto 4, 3) := by decide +kernel
theorem dX11_count_178 : decode cX11_count 178 = .ok (.iconst (-1), 1) := by decide +kernel
theorem dX11_count_179 : decode cX11_count 179 = .ok (.ireturn, 1) := by decide +kernel
theorem dX11_countInGame_0 : decode cX11_countInGame 0 = .ok (.aload_n 0, 1) := by decide +kernel
theorem dX11_countInGame_1 : decode cX11_countInGame 1 = .ok (.getfield 63, 3) := by decide +kernel
theorem dX11_countInGame_4 : decode cX11_countInGame 4 = .ok (.ifCond .ne 5, 3) := by decide +kernel
theorem dX11_countInGame_7 : decode cX11_countInGame 7 = .ok (.iconst 0, 1) := by decide +kernel
theorem dX11_countInGame_8 : decode cX11_countInGame 8 = .ok (.ireturn, 1) := by decide +kernel
theorem dX11_countInGame_9 : decode cX11_countInGame 9 = .ok (.iload_n 1, 1) := by decide +kernel
theorem dX11_countInGame_10 : decode cX11_countInGame 10 = .ok (.tableswitch 123 7 13 #[42, 50, 61, 69, 80, 91, 107], 42) := by decide +kernel
theorem dX11_countInGame_52 : decode cX11_countInGame 52 = .ok (.aload_n 0, 1) := by decide +kernel
theorem dX11_countInGame_53 : decode cX11_countInGame 53 = .ok (.getfield 59, 3) := by decide +kernel
theorem dX11_countInGame_56 : decode cX11_countInGame 56 = .ok (.getfield 216, 3) := by decide +kernel
theorem dX11_countInGame_59 : decode cX11_countInGame 59 = .ok (.ireturn, 1) := by decide +kernel
theorem dX11_countInGame_60 : decode cX11_countInGame 60 = .ok (.aload_n 0, 1) := by decide +kernel
theorem dX11_countInGame_61 : decode cX11_countInGame 61 = .ok (.getfield 59, 3) := by decide +kernel
theorem dX11_countInGame_64 : decode cX11_countInGame 64 = .ok (.getfield 187, 3) := by decide +kernel
theorem dX11_countInGame_67 : decode cX11_countInGame 67 = .ok (.getfield 219, 3) := by decide +kernel
theorem dX11_countInGame_70 : decode cX11_countInGame 70 = .ok (.ireturn, 1) := by decide +kernel
theorem dX11_countInGame_71 : decode cX11_countInGame 71 = .ok (.aload_n 0, 1) := by decide +kernel
theorem dX11_countInGame_72 : decode cX11_countInGame 72 = .ok (.getfield 59, 3) := by decide +kernel
theorem dX11_countInGame_75 : decode cX11_countInGame 75 = .ok (.getfield 105, 3) := by decide +kernel
theorem dX11_countInGame_78 : decode cX11_countInGame 78 = .ok (.ireturn, 1) := by decide +kernel
theorem dX11_countInGame_79 : decode cX11_countInGame 79 = .ok (.aload_n 0, 1) := by decide +kernel
theorem dX11_countInGame_80 : decode cX11_countInGame 80 = .ok (.getfield 59, 3) := by decide +kernel
theorem dX11_countInGame_83 : decode cX11_countInGame 83 = .ok (.getfield 187, 3) := by decide +kernel
theorem dX11_countInGame_86 : decode cX11_countInGame 86 = .ok (.getfield 222, 3) := by decide +kernel
theorem dX11_countInGame_89 : decode cX11_countInGame 89 = .ok (.ireturn, 1) := by decide +kernel
theorem dX11_countInGame_90 : decode cX11_countInGame 90 = .ok (.aload_n 0, 1) := by decide +kernel
theorem dX11_countInGame_91 : decode cX11_countInGame 91 = .ok (.getfield 59, 3) := by decide +kernel
theorem dX11_countInGame_94 : decode cX11_countInGame 94 = .ok (.getfield 187, 3) := by decide +kernel
theorem dX11_countInGame_97 : decode cX11_countInGame 97 = .ok (.getfield 225, 3) := by decide +kernel
theorem dX11_countInGame_100 : decode cX11_countInGame 100 = .ok (.ireturn, 1) := by decide +kernel
theorem dX11_countInGame_101 : decode cX11_countInGame 101 = .ok (.aload_n 0, 1) := by decide +kernel
theorem dX11_countInGame_102 : decode cX11_countInGame 102 = .ok (.getfield 59, 3) := by decide +kernel
theorem dX11_countInGame_105 : decode cX11_countInGame 105 = .ok (.getfield 228, 3) := by decide +kernel
theorem dX11_countInGame_108 : decode cX11_countInGame 108 = .ok (.ifCond .eq 7, 3) := by decide +kernel
theorem dX11_countInGame_111 : decode cX11_countInGame 111 = .ok (.iconst 1, 1) := by decide +kernel
theorem dX11_countInGame_112 : decode cX11_countInGame 112 = .ok (.goto 4, 3) := by decide +kernel
theorem dX11_countInGame_115 : decode cX11_countInGame 115 = .ok (.iconst 0, 1) := by decide +kernel
theorem dX11_countInGame_116 : decode cX11_countInGame 116 = .ok (.ireturn, 1) := by decide +kernel
theorem dX11_countInGame_117 : decode cX11_countInGame 117 = .ok (.aload_n 0, 1) := by decide +kernel
theorem dX11_countInGame_118 : decode cX11_countInGame 118 = .ok (.getfield 59, 3) := by decide +kernel
theorem dX11_countInGame_121 : decode cX11_countInGame 121 = .ok (.getfield 231, 3) := by decide +kernel
theorem dX11_countInGame_124 : decode cX11_countInGame 124 = .ok (.ifCond .eq 7, 3) := by decide +kernel
theorem dX11_countInGame_127 : decode cX11_countInGame 127 = .ok (.iconst 1, 1) := by decide +kernel
theorem dX11_countInGame_128 : decode cX11_countInGame 128 = .ok (.goto 4, 3) := by decide +kernel
theorem dX11_countInGame_131 : decode cX11_countInGame 131 = .ok (.iconst 0, 1) := by decide +kernel
theorem dX11_countInGame_132 : decode cX11_countInGame 132 = .ok (.ireturn, 1) := by decide +kernel
theorem dX11_countInGame_133 : decode cX11_countInGame 133 = .ok (.aload_n 0, 1) := by decide +kernel
theorem dX11_countInGame_134 : decode cX11_countInGame 134 = .ok (.getfield 73, 3) := by decide +kernel
theorem dX11_countInGame_137 : decode cX11_countInGame 137 = .ok (.ireturn, 1) := by decide +kernel
theorem dX12_init_0 : decode cX12_init 0 = .ok (.aload_n 0, 1) := by decide +kernel
theorem dX12_init_1 : decode cX12_init 1 = .ok (.invokespecial 7, 3) := by decide +kernel
theorem dX12_init_4 : decode cX12_init 4 = .ok (.aload_n 0, 1) := by decide +kernel
theorem dX12_init_5 : decode cX12_init 5 = .ok (.sipush 4000, 3) := by decide +kernel
theorem dX12_init_8 : decode cX12_init 8 = .ok (.newarray .byte, 2) := by decide +kernel
theorem dX12_init_10 : decode cX12_init 10 = .ok (.putfield 13, 3) := by decide +kernel
theorem dX12_init_13 : decode cX12_init 13 = .ok (.aload_n 0, 1) := by decide +kernel
theorem dX12_init_14 : decode cX12_init 14 = .ok (.sipush 4000, 3) := by decide +kernel
theorem dX12_init_17 : decode cX12_init 17 = .ok (.newarray .byte, 2) := by decide +kernel
theorem dX12_init_19 : decode cX12_init 19 = .ok (.putfield 17, 3) := by decide +kernel
theorem dX12_init_22 : decode cX12_init 22 = .ok (.aload_n 0, 1) := by decide +kernel
theorem dX12_init_23 : decode cX12_init 23 = .ok (.sipush 1003, 3) := by decide +kernel
theorem dX12_init_26 : decode cX12_init 26 = .ok (.newarray .int, 2) := by decide +kernel
theorem dX12_init_28 : decode cX12_init 28 = .ok (.putfield 20, 3) := by decide +kernel
theorem dX12_init_31 : decode cX12_init 31 = .ok (.aload_n 0, 1) := by decide +kernel
theorem dX12_init_32 : decode cX12_init 32 = .ok (.sipush 1003, 3) := by decide +kernel
theorem dX12_init_35 : decode cX12_init 35 = .ok (.newarray .int, 2) := by decide +kernel
theorem dX12_init_37 : decode cX12_init 37 = .ok (.putfield 24, 3) := by decide +kernel
theorem dX12_init_40 : decode cX12_init 40 = .ok (.aload_n 0, 1) := by decide +kernel
theorem dX12_init_41 : decode cX12_init 41 = .ok (.sipush 1003, 3) := by decide +kernel
theorem dX12_init_44 : decode cX12_init 44 = .ok (.newarray .int, 2) := by decide +kernel
theorem dX12_init_46 : decode cX12_init 46 = .ok (.putfield 27, 3) := by decide +kernel
theorem dX12_init_49 : decode cX12_init 49 = .ok (.aload_n 0, 1) := by decide +kernel
theorem dX12_init_50 : decode cX12_init 50 = .ok (.sipush 1003, 3) := by decide +kernel
theorem dX12_init_53 : decode cX12_init 53 = .ok (.newarray .long, 2) := by decide +kernel
theorem dX12_init_55 : decode cX12_init 55 = .ok (.putfield 30, 3) := by decide +kernel
theorem dX12_init_58 : decode cX12_init 58 = .ok (.aload_n 0, 1) := by decide +kernel
theorem dX12_init_59 : decode cX12_init 59 = .ok (.bipush 27, 2) := by decide +kernel
theorem dX12_init_61 : decode cX12_init 61 = .ok (.newarray .long, 2) := by decide +kernel
theorem dX12_init_63 : decode cX12_init 63 = .ok (.putfield 34, 3) := by decide +kernel
theorem dX12_init_66 : decode cX12_init 66 = .ok (.aload_n 0, 1) := by decide +kernel
theorem dX12_init_67 : decode cX12_init 67 = .ok (.iconst (-1), 1) := by decide +kernel
theorem dX12_init_68 : decode cX12_init 68 = .ok (.putfield 37, 3) := by decide +kernel
theorem dX12_init_71 : decode cX12_init 71 = .ok (.aload_n 0, 1) := by decide +kernel
theorem dX12_init_72 : decode cX12_init 72 = .ok (.bipush 18, 2) := by decide +kernel
theorem dX12_init_74 : decode cX12_init 74 = .ok (.newarray .int, 2) := by decide +kernel
theorem dX12_init_76 : decode cX12_init 76 = .ok (.putfield 40, 3) := by decide +kernel
theorem dX12_init_79 : decode cX12_init 79 = .ok (.aload_n 0, 1) := by decide +kernel
theorem dX12_init_80 : decode cX12_init 80 = .ok (.bipush 120, 2) := by decide +kernel
theorem dX12_init_82 : decode cX12_init 82 = .ok (.newarray .long, 2) := by decide +kernel
theorem dX12_init_84 : decode cX12_init 84 = .ok (.putfield 43, 3) := by decide +kernel
theorem dX12_init_87 : decode cX12_init 87 = .ok (.aload_n 0, 1) := by decide +kernel
theorem dX12_init_88 : decode cX12_init 88 = .ok (.bipush 120, 2) := by decide +kernel
theorem dX12_init_90 : decode cX12_init 90 = .ok (.newarray .int, 2) := by decide +kernel
theorem dX12_init_92 : decode cX12_init 92 = .ok (.putfield 46, 3) := by decide +kernel
theorem dX12_init_95 : decode cX12_init 95 = .ok (.aload_n 0, 1) := by decide +kernel
theorem dX12_init_96 : decode cX12_init 96 = .ok (.bipush 120, 2) := by decide +kernel
theorem dX12_init_98 : decode cX12_init 98 = .ok (.newarray .int, 2) := by decide +kernel
theorem dX12_init_100 : decode cX12_init 100 = .ok (.putfield 49, 3) := by decide +kernel
theorem dX12_init_103 : decode cX12_init 103 = .ok (.aload_n 0, 1) := by decide +kernel
theorem dX12_init_104 : decode cX12_init 104 = .ok (.bipush 32, 2) := by decide +kernel
theorem dX12_init_106 : decode cX12_init 106 = .ok (.newarray .int, 2) := by decide +kernel
theorem dX12_init_108 : decode cX12_init 108 = .ok (.putfield 52, 3) := by decide +kernel
theorem dX12_init_111 : decode cX12_init 111 = .ok (.aload_n 0, 1) := by decide +kernel
theorem dX12_init_112 : decode cX12_init 112 = .ok (.bipush 16, 2) := by decide +kernel
theorem dX12_init_114 : decode cX12_init 114 = .ok (.newarray .int, 2) := by decide +kernel
theorem dX12_init_116 : decode cX12_init 116 = .ok (.putfield 55, 3) := by decide +kernel
theorem dX12_init_119 : decode cX12_init 119 = .ok (.aload_n 0, 1) := by decide +kernel
theorem dX12_init_120 : decode cX12_init 120 = .ok (.bipush 16, 2) := by decide +kernel
theorem dX12_init_122 : decode cX12_init 122 = .ok (.newarray .int, 2) := by decide +kernel
theorem dX12_init_124 : decode cX12_init 124 = .ok (.putfield 58, 3) := by decide +kernel
theorem dX12_init_127 : decode cX12_init 127 = .ok (.aload_n 0, 1) := by decide +kernel
theorem dX12_init_128 : decode cX12_init 128 = .ok (.bipush 16, 2) := by decide +kernel
theorem dX12_init_130 : decode cX12_init 130 = .ok (.newarray .int, 2) := by decide +kernel
theorem dX12_init_132 : decode cX12_init 132 = .ok (.putfield 61, 3) := by decide +kernel
theorem dX12_init_135 : decode cX12_init 135 = .ok (.aload_n 0, 1) := by decide +kernel
theorem dX12_init_136 : decode cX12_init 136 = .ok (.bipush 32, 2) := by decide +kernel
theorem dX12_init_138 : decode cX12_init 138 = .ok (.newarray .int, 2) := by decide +kernel
theorem dX12_init_140 : decode cX12_init 140 = .ok (.putfield 64, 3) := by decide +kernel
theorem dX12_init_143 : decode cX12_init 143 = .ok (.aload_n 0, 1) := by decide +kernel
theorem dX12_init_144 : decode cX12_init 144 = .ok (.bipush 48, 2) := by decide +kernel
theorem dX12_init_146 : decode cX12_init 146 = .ok (.newarray .int, 2) := by decide +kernel
theorem dX12_init_148 : decode cX12_init 148 = .ok (.putfield 67, 3) := by decide +kernel
theorem dX12_init_151 : decode cX12_init 151 = .ok (.aload_n 0, 1) := by decide +kernel
theorem dX12_init_152 : decode cX12_init 152 = .ok (.bipush 48, 2) := by decide +kernel
theorem dX12_init_154 : decode cX12_init 154 = .ok (.newarray .int, 2) := by decide +kernel
theorem dX12_init_156 : decode cX12_init 156 = .ok (.putfield 70, 3) := by decide +kernel
theorem dX12_init_159 : decode cX12_init 159 = .ok (.aload_n 0, 1) := by decide +kernel
theorem dX12_init_160 : decode cX12_init 160 = .ok (.bipush 48, 2) := by decide +kernel
theorem dX12_init_162 : decode cX12_init 162 = .ok (.newarray .int, 2) := by decide +kernel
theorem dX12_init_164 : decode cX12_init 164 = .ok (.putfield 73, 3) := by decide +kernel
theorem dX12_init_167 : decode cX12_init 167 = .ok (.aload_n 0, 1) := by decide +kernel
theorem dX12_init_168 : decode cX12_init 168 = .ok (.bipush 32, 2) := by decide +kernel
theorem dX12_init_170 : decode cX12_init 170 = .ok (.newarray .int, 2) := by decide +kernel
theorem dX12_init_172 : decode cX12_init 172 = .ok (.putfield 76, 3) := by decide +kernel
theorem dX12_init_175 : decode cX12_init 175 = .ok (.aload_n 0, 1) := by decide +kernel
theorem dX12_init_176 : decode cX12_init 176 = .ok (.bipush 24, 2) := by decide +kernel
theorem dX12_init_178 : decode cX12_init 178 = .ok (.newarray .int, 2) := by decide +kernel
theorem dX12_init_180 : decode cX12_init 180 = .ok (.putfield 79, 3) := by decide +kernel
theorem dX12_init_183 : decode cX12_init 183 = .ok (.aload_n 0, 1) := by decide +kernel
theorem dX12_init_184 : decode cX12_init 184 = .ok (.bipush 24, 2) := by decide +kernel
theorem dX12_init_186 : decode cX12_init 186 = .ok (.newarray .int, 2) := by decide +kernel
theorem dX12_init_188 : decode cX12_init 188 = .ok (.putfield 82, 3) := by decide +kernel
theorem dX12_init_191 : decode cX12_init 191 = .ok (.aload_n 0, 1) := by decide +kernel
theorem dX12_init_192 : decode cX12_init 192 = .ok (.bipush 26, 2) := by decide +kernel
theorem dX12_init_194 : decode cX12_init 194 = .ok (.newarray .int, 2) := by decide +kernel
theorem dX12_init_196 : decode cX12_init 196 = .ok (.putfield 85, 3) := by decide +kernel
theorem dX12_init_199 : decode cX12_init 199 = .ok (.aload_n 0, 1) := by decide +kernel
theorem dX12_init_200 : decode cX12_init 200 = .ok (.sipush 160, 3) := by decide +kernel
theorem dX12_init_203 : decode cX12_init 203 = .ok (.newarray .int, 2) := by decide +kernel
theorem dX12_init_205 : decode cX12_init 205 = .ok (.putfield 88, 3) := by decide +kernel
theorem dX12_init_208 : decode cX12_init 208 = .ok (.aload_n 0, 1) := by decide +kernel
theorem dX12_init_209 : decode cX12_init 209 = .ok (.sipush 162, 3) := by decide +kernel
theorem dX12_init_212 : decode cX12_init 212 = .ok (.newarray .int, 2) := by decide +kernel
theorem dX12_init_214 : decode cX12_init 214 = .ok (.putfield 91, 3) := by decide +kernel
theorem dX12_init_217 : decode cX12_init 217 = .ok (.aload_n 0, 1) := by decide +kernel
theorem dX12_init_218 : decode cX12_init 218 = .ok (.sipush 162, 3) := by decide +kernel
theorem dX12_init_221 : decode cX12_init 221 = .ok (.newarray .int, 2) := by decide +kernel
theorem dX12_init_223 : decode cX12_init 223 = .ok (.putfield 94, 3) := by decide +kernel
theorem dX12_init_226 : decode cX12_init 226 = .ok (.aload_n 0, 1) := by decide +kernel
theorem dX12_init_227 : decode cX12_init 227 = .ok (.sipush 800, 3) := by decide +kernel
theorem dX12_init_230 : decode cX12_init 230 = .ok (.newarray .int, 2) := by decide +kernel
theorem dX12_init_232 : decode cX12_init 232 = .ok (.putfield 97, 3) := by decide +kernel
theorem dX12_init_235 : decode cX12_init 235 = .ok (.aload_n 0, 1) := by decide +kernel
theorem dX12_init_236 : decode cX12_init 236 = .ok (.sipush 800, 3) := by decide +kernel
theorem dX12_init_239 : decode cX12_init 239 = .ok (.newarray .int, 2) := by decide +kernel
theorem dX12_init_241 : decode cX12_init 241 = .ok (.putfield 100, 3) := by decide +kernel
theorem dX12_init_244 : decode cX12_init 244 = .ok (.aload_n 0, 1) := by decide +kernel
theorem dX12_init_245 : decode cX12_init 245 = .ok (.sipush 800, 3) := by decide +kernel
theorem dX12_init_248 : decode cX12_init 248 = .ok (.newarray .int, 2) := by decide +kernel
theorem dX12_init_250 : decode cX12_init 250 = .ok (.putfield 103, 3) := by decide +kernel
theorem dX12_init_253 : decode cX12_init 253 = .ok (.aload_n 0, 1) := by decide +kernel
theorem dX12_init_254 : decode cX12_init 254 = .ok (.sipush 800, 3) := by decide +kernel
theorem dX12_init_257 : decode cX12_init 257 = .ok (.newarray .int, 2) := by decide +kernel
theorem dX12_init_259 : decode cX12_init 259 = .ok (.putfield 106, 3) := by decide +kernel
theorem dX12_init_262 : decode cX12_init 262 = .ok (.aload_n 0, 1) := by decide +kernel
theorem dX12_init_263 : decode cX12_init 263 = .ok (.sipush 2000, 3) := by decide +kernel
theorem dX12_init_266 : decode cX12_init 266 = .ok (.newarray .int, 2) := by decide +kernel
theorem dX12_init_268 : decode cX12_init 268 = .ok (.putfield 109, 3) := by decide +kernel
theorem dX12_init_271 : decode cX12_init 271 = .ok (.aload_n 0, 1) := by decide +kernel
theorem dX12_init_272 : decode cX12_init 272 = .ok (.sipush 2000, 3) := by decide +kernel
theorem dX12_init_275 : decode cX12_init 275 = .ok (.newarray .int, 2) := by decide +kernel
theorem dX12_init_277 : decode cX12_init 277 = .ok (.putfield 112, 3) := by decide +kernel
theorem dX12_init_280 : decode cX12_init 280 = .ok (.aload_n 0, 1) := by decide +kernel
theorem dX12_init_281 : decode cX12_init 281 = .ok (.sipush 2000, 3) := by decide +kernel
theorem dX12_init_284 : decode cX12_init 284 = .ok (.newarray .int, 2) := by decide +kernel
theorem dX12_init_286 : decode cX12_init 286 = .ok (.putfield 115, 3) := by decide +kernel
theorem dX12_init_289 : decode cX12_init 289 = .ok (.aload_n 0, 1) := by decide +kernel
theorem dX12_init_290 : decode cX12_init 290 = .ok (.sipush 2000, 3) := by decide +kernel
theorem dX12_init_293 : decode cX12_init 293 = .ok (.newarray .int, 2) := by decide +kernel
theorem dX12_init_295 : decode cX12_init 295 = .ok (.putfield 118, 3) := by decide +kernel
theorem dX12_init_298 : decode cX12_init 298 = .ok (.aload_n 0, 1) := by decide +kernel
theorem dX12_init_299 : decode cX12_init 299 = .ok (.sipush 1000, 3) := by decide +kernel
theorem dX12_init_302 : decode cX12_init 302 = .ok (.newarray .int, 2) := by decide +kernel
theorem dX12_init_304 : decode cX12_init 304 = .ok (.putfield 121, 3) := by decide +kernel
theorem dX12_init_307 : decode cX12_init 307 = .ok (.aload_n 0, 1) := by decide +kernel
theorem dX12_init_308 : decode cX12_init 308 = .ok (.sipush 1000, 3) := by decide +kernel
theorem dX12_init_311 : decode cX12_init 311 = .ok (.newarray .int, 2) := by decide +kernel
theorem dX12_init_313 : decode cX12_init 313 = .ok (.putfield 124, 3) := by decide +kernel
theorem dX12_init_316 : decode cX12_init 316 = .ok (.aload_n 0, 1) := by decide +kernel
theorem dX12_init_317 : decode cX12_init 317 = .ok (.sipush 2400, 3) := by decide +kernel
theorem dX12_init_320 : decode cX12_init 320 = .ok (.newarray .int, 2) := by decide +kernel
theorem dX12_init_322 : decode cX12_init 322 = .ok (.putfield 127, 3) := by decide +kernel
theorem dX12_init_325 : decode cX12_init 325 = .ok (.aload_n 0, 1) := by decide +kernel
theorem dX12_init_326 : decode cX12_init 326 = .ok (.sipush 2400, 3) := by decide +kernel
theorem dX12_init_329 : decode cX12_init 329 = .ok (.newarray .int, 2) := by decide +kernel
theorem dX12_init_331 : decode cX12_init 331 = .ok (.putfield 130, 3) := by decide +kernel
theorem dX12_init_334 : decode cX12_init 334 = .ok (.aload_n 0, 1) := by decide +kernel
theorem dX12_init_335 : decode cX12_init 335 = .ok (.bipush 48, 2) := by decide +kernel
theorem dX12_init_337 : decode cX12_init 337 = .ok (.newarray .int, 2) := by decide +kernel
theorem dX12_init_339 : decode cX12_init 339 = .ok (.putfield 133, 3) := by decide +kernel
theorem dX12_init_342 : decode cX12_init 342 = .ok (.aload_n 0, 1) := by decide +kernel
theorem dX12_init_343 : decode cX12_init 343 = .ok (.sipush 200, 3) := by decide +kernel
theorem dX12_init_346 : decode cX12_init 346 = .ok (.newarray .int, 2) := by decide +kernel
theorem dX12_init_348 : decode cX12_init 348 = .ok (.putfield 136, 3) := by decide +kernel
theorem dX12_init_351 : decode cX12_init 351 = .ok (.aload_n 0, 1) := by decide +kernel
theorem dX12_init_352 : decode cX12_init 352 = .ok (.sipush 2000, 3) := by decide +kernel
theorem dX12_init_355 : decode cX12_init 355 = .ok (.newarray .int, 2) := by decide +kernel
theorem dX12_init_357 : decode cX12_init 357 = .ok (.putfield 139, 3) := by decide +kernel
theorem dX12_init_360 : decode cX12_init 360 = .ok (.aload_n 0, 1) := by decide +kernel
theorem dX12_init_361 : decode cX12_init 361 = .ok (.ldc 142, 2) := by decide +kernel
theorem dX12_init_363 : decode cX12_init 363 = .ok (.newarray .boolean, 2) := by decide +kernel
theorem dX12_init_365 : decode cX12_init 365 = .ok (.putfield 143, 3) := by decide +kernel
theorem dX12_init_368 : decode cX12_init 368 = .ok (.aload_n 0, 1) := by decide +kernel
theorem dX12_init_369 : decode cX12_init 369 = .ok (.bipush 16, 2) := by decide +kernel
theorem dX12_init_371 : decode cX12_init 371 = .ok (.newarray .int, 2) := by decide +kernel
theorem dX12_init_373 : decode cX12_init 373 = .ok (.putfield 147, 3) := by decide +kernel
theorem dX12_init_376 : decode cX12_init 376 = .ok (.aload_n 0, 1) := by decide +kernel
theorem dX12_init_377 : decode cX12_init 377 = .ok (.bipush 16, 2) := by decide +kernel
theorem dX12_init_379 : decode cX12_init 379 = .ok (.newarray .int, 2) := by decide +kernel
theorem dX12_init_381 : decode cX12_init 381 = .ok (.putfield 150, 3) := by decide +kernel
theorem dX12_init_384 : decode cX12_init 384 = .ok (.aload_n 0, 1) := by decide +kernel
theorem dX12_init_385 : decode cX12_init 385 = .ok (.bipush 16, 2) := by decide +kernel
theorem dX12_init_387 : decode cX12_init 387 = .ok (.newarray .int, 2) := by decide +kernel
theorem dX12_init_389 : decode cX12_init 389 = .ok (.putfield 153, 3) := by decide +kernel
theorem dX12_init_392 : decode cX12_init 392 = .ok (.aload_n 0, 1) := by decide +kernel
theorem dX12_init_393 : decode cX12_init 393 = .ok (.bipush 16, 2) := by decide +kernel
theorem dX12_init_395 : decode cX12_init 395 = .ok (.newarray .int, 2) := by decide +kernel
theorem dX12_init_397 : decode cX12_init 397 = .ok (.putfield 156, 3) := by decide +kernel
theorem dX12_init_400 : decode cX12_init 400 = .ok (.aload_n 0, 1) := by decide +kernel
theorem dX12_init_401 : decode cX12_init 401 = .ok (.bipush 16, 2) := by decide +kernel
theorem dX12_init_403 : decode cX12_init 403 = .ok (.newarray .boolean, 2) := by decide +kernel
theorem dX12_init_405 : decode cX12_init 405 = .ok (.putfield 159, 3) := by decide +kernel
theorem dX12_init_408 : decode cX12_init 408 = .ok (.aload_n 0, 1) := by decide +kernel
theorem dX12_init_409 : decode cX12_init 409 = .ok (.bipush 16, 2) := by decide +kernel
theorem dX12_init_411 : decode cX12_init 411 = .ok (.newarray .int, 2) := by decide +kernel
theorem dX12_init_413 : decode cX12_init 413 = .ok (.putfield 162, 3) := by decide +kernel
theorem dX12_init_416 : decode cX12_init 416 = .ok (.aload_n 0, 1) := by decide +kernel
theorem dX12_init_417 : decode cX12_init 417 = .ok (.bipush 12, 2) := by decide +kernel
theorem dX12_init_419 : decode cX12_init 419 = .ok (.newarray .boolean, 2) := by decide +kernel
theorem dX12_init_421 : decode cX12_init 421 = .ok (.putfield 165, 3) := by decide +kernel
theorem dX12_init_424 : decode cX12_init 424 = .ok (.aload_n 0, 1) := by decide +kernel
theorem dX12_init_425 : decode cX12_init 425 = .ok (.bipush 12, 2) := by decide +kernel
theorem dX12_init_427 : decode cX12_init 427 = .ok (.newarray .int, 2) := by decide +kernel
theorem dX12_init_429 : decode cX12_init 429 = .ok (.putfield 168, 3) := by decide +kernel
theorem dX12_init_432 : decode cX12_init 432 = .ok (.aload_n 0, 1) := by decide +kernel
theorem dX12_init_433 : decode cX12_init 433 = .ok (.bipush 12, 2) := by decide +kernel
theorem dX12_init_435 : decode cX12_init 435 = .ok (.newarray .int, 2) := by decide +kernel
theorem dX12_init_437 : decode cX12_init 437 = .ok (.putfield 171, 3) := by decide +kernel
theorem dX12_init_440 : decode cX12_init 440 = .ok (.aload_n 0, 1) := by decide +kernel
theorem dX12_init_441 : decode cX12_init 441 = .ok (.bipush 12, 2) := by decide +kernel
theorem dX12_init_443 : decode cX12_init 443 = .ok (.newarray .int, 2) := by decide +kernel
theorem dX12_init_445 : decode cX12_init 445 = .ok (.putfield 174, 3) := by decide +kernel
theorem dX12_init_448 : decode cX12_init 448 = .ok (.aload_n 0, 1) := by decide +kernel
theorem dX12_init_449 : decode cX12_init 449 = .ok (.bipush 8, 2) := by decide +kernel
theorem dX12_init_451 : decode cX12_init 451 = .ok (.newarray .int, 2) := by decide +kernel
theorem dX12_init_453 : decode cX12_init 453 = .ok (.putfield 177, 3) := by decide +kernel
theorem dX12_init_456 : decode cX12_init 456 = .ok (.aload_n 0, 1) := by decide +kernel
theorem dX12_init_457 : decode cX12_init 457 = .ok (.bipush 8, 2) := by decide +kernel
theorem dX12_init_459 : decode cX12_init 459 = .ok (.newarray .int, 2) := by decide +kernel
theorem dX12_init_461 : decode cX12_init 461 = .ok (.putfield 180, 3) := by decide +kernel
theorem dX12_init_464 : decode cX12_init 464 = .ok (.aload_n 0, 1) := by decide +kernel
theorem dX12_init_465 : decode cX12_init 465 = .ok (.bipush 8, 2) := by decide +kernel
theorem dX12_init_467 : decode cX12_init 467 = .ok (.newarray .int, 2) := by decide +kernel
theorem dX12_init_469 : decode cX12_init 469 = .ok (.putfield 183, 3) := by decide +kernel
theorem dX12_init_472 : decode cX12_init 472 = .ok (.aload_n 0, 1) := by decide +kernel
theorem dX12_init_473 : decode cX12_init 473 = .ok (.bipush 12, 2) := by decide +kernel
theorem dX12_init_475 : decode cX12_init 475 = .ok (.newarray .int, 2) := by decide +kernel
theorem dX12_init_477 : decode cX12_init 477 = .ok (.putfield 186, 3) := by decide +kernel
theorem dX12_init_480 : decode cX12_init 480 = .ok (.aload_n 0, 1) := by decide +kernel
theorem dX12_init_481 : decode cX12_init 481 = .ok (.bipush 12, 2) := by decide +kernel
theorem dX12_init_483 : decode cX12_init 483 = .ok (.newarray .int, 2) := by decide +kernel
theorem dX12_init_485 : decode cX12_init 485 = .ok (.putfield 189, 3) := by decide +kernel
theorem dX12_init_488 : decode cX12_init 488 = .ok (.aload_n 0, 1) := by decide +kernel
theorem dX12_init_489 : decode cX12_init 489 = .ok (.bipush 12, 2) := by decide +kernel
theorem dX12_init_491 : decode cX12_init 491 = .ok (.newarray .int, 2) := by decide +kernel
theorem dX12_init_493 : decode cX12_init 493 = .ok (.putfield 192, 3) := by decide +kernel
theorem dX12_init_496 : decode cX12_init 496 = .ok (.aload_n 0, 1) := by decide +kernel
theorem dX12_init_497 : decode cX12_init 497 = .ok (.bipush 12, 2) := by decide +kernel
theorem dX12_init_499 : decode cX12_init 499 = .ok (.newarray .int, 2) := by decide +kernel
theorem dX12_init_501 : decode cX12_init 501 = .ok (.putfield 195, 3) := by decide +kernel
theorem dX12_init_504 : decode cX12_init 504 = .ok (.aload_n 0, 1) := by decide +kernel
theorem dX12_init_505 : decode cX12_init 505 = .ok (.bipush 12, 2) := by decide +kernel
theorem dX12_init_507 : decode cX12_init 507 = .ok (.newarray .int, 2) := by decide +kernel
theorem dX12_init_509 : decode cX12_init 509 = .ok (.putfield 198, 3) := by decide +kernel
theorem dX12_init_512 : decode cX12_init 512 = .ok (.aload_n 0, 1) := by decide +kernel
theorem dX12_init_513 : decode cX12_init 513 = .ok (.bipush 12, 2) := by decide +kernel
theorem dX12_init_515 : decode cX12_init 515 = .ok (.newarray .int, 2) := by decide +kernel
theorem dX12_init_517 : decode cX12_init 517 = .ok (.putfield 201, 3) := by decide +kernel
theorem dX12_init_520 : decode cX12_init 520 = .ok (.aload_n 0, 1) := by decide +kernel
theorem dX12_init_521 : decode cX12_init 521 = .ok (.bipush 12, 2) := by decide +kernel
theorem dX12_init_523 : decode cX12_init 523 = .ok (.newarray .int, 2) := by decide +kernel
theorem dX12_init_525 : decode cX12_init 525 = .ok (.putfield 204, 3) := by decide +kernel
theorem dX12_init_528 : decode cX12_init 528 = .ok (.aload_n 0, 1) := by decide +kernel
theorem dX12_init_529 : decode cX12_init 529 = .ok (.sipush 1000, 3) := by decide +kernel
theorem dX12_init_532 : decode cX12_init 532 = .ok (.newarray .int, 2) := by decide +kernel
theorem dX12_init_534 : decode cX12_init 534 = .ok (.putfield 207, 3) := by decide +kernel
theorem dX12_init_537 : decode cX12_init 537 = .ok (.aload_n 0, 1) := by decide +kernel
theorem dX12_init_538 : decode cX12_init 538 = .ok (.bipush 12, 2) := by decide +kernel
theorem dX12_init_540 : decode cX12_init 540 = .ok (.newarray .boolean, 2) := by decide +kernel
theorem dX12_init_542 : decode cX12_init 542 = .ok (.putfield 210, 3) := by decide +kernel
theorem dX12_init_545 : decode cX12_init 545 = .ok (.aload_n 0, 1) := by decide +kernel
theorem dX12_init_546 : decode cX12_init 546 = .ok (.bipush 12, 2) := by decide +kernel
theorem dX12_init_548 : decode cX12_init 548 = .ok (.newarray .int, 2) := by decide +kernel
theorem dX12_init_550 : decode cX12_init 550 = .ok (.putfield 213, 3) := by decide +kernel
theorem dX12_init_553 : decode cX12_init 553 = .ok (.aload_n 0, 1) := by decide +kernel
theorem dX12_init_554 : decode cX12_init 554 = .ok (.bipush 24, 2) := by decide +kernel
theorem dX12_init_556 : decode cX12_init 556 = .ok (.newarray .boolean, 2) := by decide +kernel
theorem dX12_init_558 : decode cX12_init 558 = .ok (.putfield 216, 3) := by decide +kernel
theorem dX12_init_561 : decode cX12_init 561 = .ok (.aload_n 0, 1) := by decide +kernel
theorem dX12_init_562 : decode cX12_init 562 = .ok (.getfield 34, 3) := by decide +kernel
theorem dX12_init_565 : decode cX12_init 565 = .ok (.iconst 0, 1) := by decide +kernel
theorem dX12_init_566 : decode cX12_init 566 = .ok (.bipush 115, 2) := by decide +kernel
theorem dX12_init_568 : decode cX12_init 568 = .ok (.bipush 119, 2) := by decide +kernel
theorem dX12_init_570 : decode cX12_init 570 = .ok (.bipush 105, 2) := by decide +kernel
theorem dX12_init_572 : decode cX12_init 572 = .ok (.bipush 116, 2) := by decide +kernel
theorem dX12_init_574 : decode cX12_init 574 = .ok (.bipush 99, 2) := by decide +kernel
theorem dX12_init_576 : decode cX12_init 576 = .ok (.bipush 104, 2) := by decide +kernel
theorem dX12_init_578 : decode cX12_init 578 = .ok (.invokestatic 219, 3) := by decide +kernel
theorem dX12_init_581 : decode cX12_init 581 = .ok (.lastore, 1) := by decide +kernel
theorem dX12_init_582 : decode cX12_init 582 = .ok (.aload_n 0, 1) := by decide +kernel
theorem dX12_init_583 : decode cX12_init 583 = .ok (.getfield 34, 3) := by decide +kernel
theorem dX12_init_586 : decode cX12_init 586 = .ok (.iconst 1, 1) := by decide +kernel
theorem dX12_init_587 : decode cX12_init 587 = .ok (.bipush 99, 2) := by decide +kernel
theorem dX12_init_589 : decode cX12_init 589 = .ok (.bipush 111, 2) := by decide +kernel
theorem dX12_init_591 : decode cX12_init 591 = .ok (.bipush 105, 2) := by decide +kernel
theorem dX12_init_593 : decode cX12_init 593 = .ok (.bipush 108, 2) := by decide +kernel
theorem dX12_init_595 : decode cX12_init 595 = .ok (.iconst 0, 1) := by decide +kernel
theorem dX12_init_596 : decode cX12_init 596 = .ok (.iconst 0, 1) := by decide +kernel
theorem dX12_init_597 : decode cX12_init 597 = .ok (.invokestatic 219, 3) := by decide +kernel
theorem dX12_init_600 : decode cX12_init 600 = .ok (.lastore, 1) := by decide +kernel
theorem dX12_init_601 : decode cX12_init 601 = .ok (.aload_n 0, 1) := by decide +kernel
theorem dX12_init_602 : decode cX12_init 602 = .ok (.getfield 34, 3) := by decide +kernel
theorem dX12_init_605 : decode cX12_init 605 = .ok (.iconst 2, 1) := by decide +kernel
theorem dX12_init_606 : decode cX12_init 606 = .ok (.bipush 97, 2) := by decide +kernel
theorem dX12_init_608 : decode cX12_init 608 = .ok (.bipush 112, 2) := by decide +kernel
theorem dX12_init_610 : decode cX12_init 610 = .ok (.bipush 97, 2) := by decide +kernel
theorem dX12_init_612 : decode cX12_init 612 = .ok (.bipush 114, 2) := by decide +kernel
theorem dX12_init_614 : decode cX12_init 614 = .ok (.bipush 116, 2) := by decide +kernel
theorem dX12_init_616 : decode cX12_init 616 = .ok (.iconst 0, 1) := by decide +kernel
theorem dX12_init_617 : decode cX12_init 617 = .ok (.invokestatic 219, 3) := by decide +kernel
theorem dX12_init_620 : decode cX12_init 620 = .ok (.lastore, 1) := by decide +kernel
theorem dX12_init_621 : decode cX12_init 621 = .ok (.aload_n 0, 1) := by decide +kernel
theorem dX12_init_622 : decode cX12_init 622 = .ok (.getfield 34, 3) := by decide +kernel
theorem dX12_init_625 : decode cX12_init 625 = .ok (.iconst 3, 1) := by decide +kernel
theorem dX12_init_626 : decode cX12_init 626 = .ok (.bipush 108, 2) := by decide +kernel
theorem dX12_init_628 : decode cX12_init 628 = .ok (.bipush 97, 2) := by decide +kernel
theorem dX12_init_630 : decode cX12_init 630 = .ok (.bipush 109, 2) := by decide +kernel
theorem dX12_init_632 : decode cX12_init 632 = .ok (.bipush 112, 2) := by decide +kernel
theorem dX12_init_634 : decode cX12_init 634 = .ok (.iconst 0, 1) := by decide +kernel
theorem dX12_init_635 : decode cX12_init 635 = .ok (.iconst 0, 1) := by decide +kernel
theorem dX12_init_636 : decode cX12_init 636 = .ok (.invokestatic 219, 3) := by decide +kernel
theorem dX12_init_639 : decode cX12_init 639 = .ok (.lastore, 1) := by decide +kernel
theorem dX12_init_640 : decode cX12_init 640 = .ok (.aload_n 0, 1) := by decide +kernel
theorem dX12_init_641 : decode cX12_init 641 = .ok (.getfield 34, 3) := by decide +kernel
theorem dX12_init_644 : decode cX12_init 644 = .ok (.iconst 4, 1) := by decide +kernel
theorem dX12_init_645 : decode cX12_init 645 = .ok (.bipush 112, 2) := by decide +kernel
theorem dX12_init_647 : decode cX12_init 647 = .ok (.bipush 108, 2) := by decide +kernel
theorem dX12_init_649 : decode cX12_init 649 = .ok (.bipush 97, 2) := by decide +kernel
theorem dX12_init_651 : decode cX12_init 651 = .ok (.bipush 99, 2) := by decide +kernel
theorem dX12_init_653 : decode cX12_init 653 = .ok (.bipush 101, 2) := by decide +kernel
theorem dX12_init_655 : decode cX12_init 655 = .ok (.iconst 0, 1) := by decide +kernel
theorem dX12_init_656 : decode cX12_init 656 = .ok (.invokestatic 219, 3) := by decide +kernel
theorem dX12_init_659 : decode cX12_init 659 = .ok (.lastore, 1) := by decide +kernel
theorem dX12_init_660 : decode cX12_init 660 = .ok (.aload_n 0, 1) := by decide +kernel
theorem dX12_init_661 : decode cX12_init 661 = .ok (.getfield 34, 3) := by decide +kernel
theorem dX12_init_664 : decode cX12_init 664 = .ok (.iconst 5, 1) := by decide +kernel
theorem dX12_init_665 : decode cX12_init 665 = .ok (.bipush 119, 2) := by decide +kernel
theorem dX12_init_667 : decode cX12_init 667 = .ok (.bipush 97, 2) := by decide +kernel
theorem dX12_init_669 : decode cX12_init 669 = .ok (.bipush 121, 2) := by decide +kernel
theorem dX12_init_671 : decode cX12_init 671 = .ok (.iconst 0, 1) := by decide +kernel
theorem dX12_init_672 : decode cX12_init 672 = .ok (.iconst 0, 1) := by decide +kernel
theorem dX12_init_673 : decode cX12_init 673 = .ok (.iconst 0, 1) := by decide +kernel
theorem dX12_init_674 : decode cX12_init 674 = .ok (.invokestatic 219, 3) := by decide +kernel
theorem dX12_init_677 : decode cX12_init 677 = .ok (.lastore, 1) := by decide +kernel
theorem dX12_init_678 : decode cX12_init 678 = .ok (.aload_n 0, 1) := by decide +kernel
theorem dX12_init_679 : decode cX12_init 679 = .ok (.getfield 34, 3) := by decide +kernel
theorem dX12_init_682 : decode cX12_init 682 = .ok (.bipush 6, 2) := by decide +kernel
theorem dX12_init_684 : decode cX12_init 684 = .ok (.bipush 98, 2) := by decide +kernel
theorem dX12_init_686 : decode cX12_init 686 = .ok (.bipush 121, 2) := by decide +kernel
theorem dX12_init_688 : decode cX12_init 688 = .ok (.iconst 0, 1) := by decide +kernel
theorem dX12_init_689 : decode cX12_init 689 = .ok (.iconst 0, 1) := by decide +kernel
theorem dX12_init_690 : decode cX12_init 690 = .ok (.iconst 0, 1) := by decide +kernel
theorem dX12_init_691 : decode cX12_init 691 = .ok (.iconst 0, 1) := by decide +kernel
theorem dX12_init_692 : decode cX12_init 692 = .ok (.invokestatic 219, 3) := by decide +kernel
theorem dX12_init_695 : decode cX12_init 695 = .ok (.lastore, 1) := by decide +kernel
theorem dX12_init_696 : decode cX12_init 696 = .ok (.aload_n 0, 1) := by decide +kernel
theorem dX12_init_697 : decode cX12_init 697 = .ok (.getfield 34, 3) := by decide +kernel
theorem dX12_init_700 : decode cX12_init 700 = .ok (.bipush 7, 2) := by decide +kernel
theorem dX12_init_702 : decode cX12_init 702 = .ok (.bipush 118, 2) := by decide +kernel
theorem dX12_init_704 : decode cX12_init 704 = .ok (.bipush 97, 2) := by decide +kernel
theorem dX12_init_706 : decode cX12_init 706 = .ok (.bipush 114, 2) := by decide +kernel
theorem dX12_init_708 : decode cX12_init 708 = .ok (.iconst 0, 1) := by decide +kernel
theorem dX12_init_709 : decode cX12_init 709 = .ok (.iconst 0, 1) := by decide +kernel
theorem dX12_init_710 : decode cX12_init 710 = .ok (.iconst 0, 1) := by decide +kernel
theorem dX12_init_711 : decode cX12_init 711 = .ok (.invokestatic 219, 3) := by decide +kernel
theorem dX12_init_714 : decode cX12_init 714 = .ok (.lastore, 1) := by decide +kernel
theorem dX12_init_715 : decode cX12_init 715 = .ok (.aload_n 0, 1) := by decide +kernel
theorem dX12_init_716 : decode cX12_init 716 = .ok (.getfield 34, 3) := by decide +kernel
theorem dX12_init_719 : decode cX12_init 719 = .ok (.bipush 8, 2) := by decide +kernel
theorem dX12_init_721 : decode cX12_init 721 = .ok (.bipush 109, 2) := by decide +kernel
theorem dX12_init_723 : decode cX12_init 723 = .ok (.bipush 111, 2) := by decide +kernel
theorem dX12_init_725 : decode cX12_init 725 = .ok (.bipush 100, 2) := by decide +kernel
theorem dX12_init_727 : decode cX12_init 727 = .ok (.bipush 101, 2) := by decide +kernel
theorem dX12_init_729 : decode cX12_init 729 = .ok (.iconst 0, 1) := by decide +kernel
theorem dX12_init_730 : decode cX12_init 730 = .ok (.iconst 0, 1) := by decide +kernel
theorem dX12_init_731 : decode cX12_init 731 = .ok (.invokestatic 219, 3) := by decide +kernel
theorem dX12_init_734 : decode cX12_init 734 = .ok (.lastore, 1) := by decide +kernel
theorem dX12_init_735 : decode cX12_init 735 = .ok (.aload_n 0, 1) := by decide +kernel
theorem dX12_init_736 : decode cX12_init 736 = .ok (.getfield 34, 3) := by decide +kernel
theorem dX12_init_739 : decode cX12_init 739 = .ok (.bipush 9, 2) := by decide +kernel
theorem dX12_init_741 : decode cX12_init 741 = .ok (.bipush 116, 2) := by decide +kernel
theorem dX12_init_743 : decode cX12_init 743 = .ok (.bipush 105, 2) := by decide +kernel
theorem dX12_init_745 : decode cX12_init 745 = .ok (.bipush 109, 2) := by decide +kernel
theorem dX12_init_747 : decode cX12_init 747 = .ok (.bipush 101, 2) := by decide +kernel
theorem dX12_init_749 : decode cX12_init 749 = .ok (.iconst 0, 1) := by decide +kernel
theorem dX12_init_750 : decode cX12_init 750 = .ok (.iconst 0, 1) := by decide +kernel
theorem dX12_init_751 : decode cX12_init 751 = .ok (.invokestatic 219, 3) := by decide +kernel
theorem dX12_init_754 : decode cX12_init 754 = .ok (.lastore, 1) := by decide +kernel
theorem dX12_init_755 : decode cX12_init 755 = .ok (.aload_n 0, 1) := by decide +kernel
theorem dX12_init_756 : decode cX12_init 756 = .ok (.getfield 34, 3) := by decide +kernel
theorem dX12_init_759 : decode cX12_init 759 = .ok (.bipush 10, 2) := by decide +kernel
theorem dX12_init_761 : decode cX12_init 761 = .ok (.bipush 101, 2) := by decide +kernel
theorem dX12_init_763 : decode cX12_init 763 = .ok (.bipush 110, 2) := by decide +kernel
theorem dX12_init_765 : decode cX12_init 765 = .ok (.bipush 100, 2) := by decide +kernel
theorem dX12_init_767 : decode cX12_init 767 = .ok (.iconst 0, 1) := by decide +kernel
theorem dX12_init_768 : decode cX12_init 768 = .ok (.iconst 0, 1) := by decide +kernel
theorem dX12_init_769 : decode cX12_init 769 = .ok (.iconst 0, 1) := by decide +kernel
theorem dX12_init_770 : decode cX12_init 770 = .ok (.invokestatic 219, 3) := by decide +kernel
theorem dX12_init_773 : decode cX12_init 773 = .ok (.lastore, 1) := by decide +kernel
theorem dX12_init_774 : decode cX12_init 774 = .ok (.aload_n 0, 1) := by decide +kernel
theorem dX12_init_775 : decode cX12_init 775 = .ok (.getfield 34, 3) := by decide +kernel
theorem dX12_init_778 : decode cX12_init 778 = .ok (.bipush 11, 2) := by decide +kernel
theorem dX12_init_780 : decode cX12_init 780 = .ok (.bipush 111, 2) := by decide +kernel
theorem dX12_init_782 : decode cX12_init 782 = .ok (.bipush 110, 2) := by decide +kernel
theorem dX12_init_784 : decode cX12_init 784 = .ok (.iconst 0, 1) := by decide +kernel
theorem dX12_init_785 : decode cX12_init 785 = .ok (.iconst 0, 1) := by decide +kernel
theorem dX12_init_786 : decode cX12_init 786 = .ok (.iconst 0, 1) := by decide +kernel
theorem dX12_init_787 : decode cX12_init 787 = .ok (.iconst 0, 1) := by decide +kernel
theorem dX12_init_788 : decode cX12_init 788 = .ok (.invokestatic 219, 3) := by decide +kernel
theorem dX12_init_791 : decode cX12_init 791 = .ok (.lastore, 1) := by decide +kernel
theorem dX12_init_792 : decode cX12_init 792 = .ok (.aload_n 0, 1) := by decide +kernel
theorem dX12_init_793 : decode cX12_init 793 = .ok (.getfield 34, 3) := by decide +kernel
theorem dX12_init_796 : decode cX12_init 796 = .ok (.bipush 12, 2) := by decide +kernel
theorem dX12_init_798 : decode cX12_init 798 = .ok (.bipush 98, 2) := by decide +kernel
theorem dX12_init_800 : decode cX12_init 800 = .ok (.bipush 101, 2) := by decide +kernel
theorem dX12_init_802 : decode cX12_init 802 = .ok (.bipush 103, 2) := by decide +kernel
theorem dX12_init_804 : decode cX12_init 804 = .ok (.bipush 105, 2) := by decide +kernel
theorem dX12_init_806 : decode cX12_init 806 = .ok (.bipush 110, 2) := by decide +kernel
theorem dX12_init_808 : decode cX12_init 808 = .ok (.iconst 0, 1) := by decide +kernel
theorem dX12_init_809 : decode cX12_init 809 = .ok (.invokestatic 219, 3) := by decide +kernel
theorem dX12_init_812 : decode cX12_init 812 = .ok (.lastore, 1) := by decide +kernel
theorem dX12_init_813 : decode cX12_init 813 = .ok (.aload_n 0, 1) := by decide +kernel
theorem dX12_init_814 : decode cX12_init 814 = .ok (.getfield 34, 3) := by decide +kernel
theorem dX12_init_817 : decode cX12_init 817 = .ok (.bipush 13, 2) := by decide +kernel
theorem dX12_init_819 : decode cX12_init 819 = .ok (.bipush 115, 2) := by decide +kernel
theorem dX12_init_821 : decode cX12_init 821 = .ok (.bipush 116, 2) := by decide +kernel
theorem dX12_init_823 : decode cX12_init 823 = .ok (.bipush 111, 2) := by decide +kernel
theorem dX12_init_825 : decode cX12_init 825 = .ok (.bipush 112, 2) := by decide +kernel
theorem dX12_init_827 : decode cX12_init 827 = .ok (.iconst 0, 1) := by decide +kernel
theorem dX12_init_828 : decode cX12_init 828 = .ok (.iconst 0, 1) := by decide +kernel
theorem dX12_init_829 : decode cX12_init 829 = .ok (.invokestatic 219, 3) := by decide +kernel
theorem dX12_init_832 : decode cX12_init 832 = .ok (.lastore, 1) := by decide +kernel
theorem dX12_init_833 : decode cX12_init 833 = .ok (.aload_n 0, 1) := by decide +kernel
theorem dX12_init_834 : decode cX12_init 834 = .ok (.getfield 34, 3) := by decide +kernel
theorem dX12_init_837 : decode cX12_init 837 = .ok (.bipush 14, 2) := by decide +kernel
theorem dX12_init_839 : decode cX12_init 839 = .ok (.bipush 105, 2) := by decide +kernel
theorem dX12_init_841 : decode cX12_init 841 = .ok (.bipush 102, 2) := by decide +kernel
theorem dX12_init_843 : decode cX12_init 843 = .ok (.iconst 0, 1) := by decide +kernel
theorem dX12_init_844 : decode cX12_init 844 = .ok (.iconst 0, 1) := by decide +kernel
theorem dX12_init_845 : decode cX12_init 845 = .ok (.iconst 0, 1) := by decide +kernel
theorem dX12_init_846 : decode cX12_init 846 = .ok (.iconst 0, 1) := by decide +kernel
theorem dX12_init_847 : decode cX12_init 847 = .ok (.invokestatic 219, 3) := by decide +kernel
theorem dX12_init_850 : decode cX12_init 850 = .ok (.lastore, 1) := by decide +kernel
theorem dX12_init_851 : decode cX12_init 851 = .ok (.aload_n 0, 1) := by decide +kernel
theorem dX12_init_852 : decode cX12_init 852 = .ok (.getfield 34, 3) := by decide +kernel
theorem dX12_init_855 : decode cX12_init 855 = .ok (.bipush 15, 2) := by decide +kernel
theorem dX12_init_857 : decode cX12_init 857 = .ok (.bipush 115, 2) := by decide +kernel
theorem dX12_init_859 : decode cX12_init 859 = .ok (.bipush 99, 2) := by decide +kernel
theorem dX12_init_861 : decode cX12_init 861 = .ok (.bipush 111, 2) := by decide +kernel
theorem dX12_init_863 : decode cX12_init 863 = .ok (.bipush 114, 2) := by decide +kernel
theorem dX12_init_865 : decode cX12_init 865 = .ok (.bipush 101, 2) := by decide +kernel
theorem dX12_init_867 : decode cX12_init 867 = .ok (.iconst 0, 1) := by decide +kernel
theorem dX12_init_868 : decode cX12_init 868 = .ok (.invokestatic 219, 3) := by decide +kernel
theorem dX12_init_871 : decode cX12_init 871 = .ok (.lastore, 1) := by decide +kernel
theorem dX12_init_872 : decode cX12_init 872 = .ok (.aload_n 0, 1) := by decide +kernel
theorem dX12_init_873 : decode cX12_init 873 = .ok (.getfield 34, 3) := by decide +kernel
theorem dX12_init_876 : decode cX12_init 876 = .ok (.bipush 16, 2) := by decide +kernel
theorem dX12_init_878 : decode cX12_init 878 = .ok (.bipush 115, 2) := by decide +kernel
theorem dX12_init_880 : decode cX12_init 880 = .ok (.bipush 101, 2) := by decide +kernel
theorem dX12_init_882 : decode cX12_init 882 = .ok (.bipush 116, 2) := by decide +kernel
theorem dX12_init_884 : decode cX12_init 884 = .ok (.iconst 0, 1) := by decide +kernel
theorem dX12_init_885 : decode cX12_init 885 = .ok (.iconst 0, 1) := by decide +kernel
theorem dX12_init_886 : decode cX12_init 886 = .ok (.iconst 0, 1) := by decide +kernel
theorem dX12_init_887 : decode cX12_init 887 = .ok (.invokestatic 219, 3) := by decide +kernel
theorem dX12_init_890 : decode cX12_init 890 = .ok (.lastore, 1) := by decide +kernel
theorem dX12_init_891 : decode cX12_init 891 = .ok (.aload_n 0, 1) := by decide +kernel
theorem dX12_init_892 : decode cX12_init 892 = .ok (.getfield 34, 3) := by decide +kernel
theorem dX12_init_895 : decode cX12_init 895 = .ok (.bipush 17, 2) := by decide +kernel
theorem dX12_init_897 : decode cX12_init 897 = .ok (.bipush 115, 2) := by decide +kernel
theorem dX12_init_899 : decode cX12_init 899 = .ok (.bipush 116, 2) := by decide +kernel
theorem dX12_init_901 : decode cX12_init 901 = .ok (.bipush 97, 2) := by decide +kernel
theorem dX12_init_903 : decode cX12_init 903 = .ok (.bipush 114, 2) := by decide +kernel
theorem dX12_init_905 : decode cX12_init 905 = .ok (.bipush 116, 2) := by decide +kernel
theorem dX12_init_907 : decode cX12_init 907 = .ok (.iconst 0, 1) := by decide +kernel
theorem dX12_init_908 : decode cX12_init 908 = .ok (.invokestatic 219, 3) := by decide +kernel
theorem dX12_init_911 : decode cX12_init 911 = .ok (.lastore, 1) := by decide +kernel
theorem dX12_init_912 : decode cX12_init 912 = .ok (.aload_n 0, 1) := by decide +kernel
theorem dX12_init_913 : decode cX12_init 913 = .ok (.getfield 34, 3) := by decide +kernel
theorem dX12_init_916 : decode cX12_init 916 = .ok (.bipush 18, 2) := by decide +kernel
theorem dX12_init_918 : decode cX12_init 918 = .ok (.bipush 108, 2) := by decide +kernel
theorem dX12_init_920 : decode cX12_init 920 = .ok (.bipush 101, 2) := by decide +kernel
theorem dX12_init_922 : decode cX12_init 922 = .ok (.bipush 97, 2) := by decide +kernel
theorem dX12_init_924 : decode cX12_init 924 = .ok (.bipush 118, 2) := by decide +kernel
theorem dX12_init_926 : decode cX12_init 926 = .ok (.bipush 101, 2) := by decide +kernel
theorem dX12_init_928 : decode cX12_init 928 = .ok (.iconst 0, 1) := by decide +kernel
theorem dX12_init_929 : decode cX12_init 929 = .ok (.invokestatic 219, 3) := by decide +kernel
theorem dX12_init_932 : decode cX12_init 932 = .ok (.lastore, 1) := by decide +kernel
theorem dX12_init_933 : decode cX12_init 933 = .ok (.aload_n 0, 1) := by decide +kernel
theorem dX12_init_934 : decode cX12_init 934 = .ok (.getfield 34, 3) := by decide +kernel
theorem dX12_init_937 : decode cX12_init 937 = .ok (.bipush 19, 2) := by decide +kernel
theorem dX12_init_939 : decode cX12_init 939 = .ok (.bipush 102, 2) := by decide +kernel
theorem dX12_init_941 : decode cX12_init 941 = .ok (.bipush 105, 2) := by decide +kernel
theorem dX12_init_943 : decode cX12_init 943 = .ok (.bipush 114, 2) := by decide +kernel
theorem dX12_init_945 : decode cX12_init 945 = .ok (.bipush 101, 2) := by decide +kernel
theorem dX12_init_947 : decode cX12_init 947 = .ok (.iconst 0, 1) := by decide +kernel
theorem dX12_init_948 : decode cX12_init 948 = .ok (.iconst 0, 1) := by decide +kernel
theorem dX12_init_949 : decode cX12_init 949 = .ok (.invokestatic 219, 3) := by decide +kernel
theorem dX12_init_952 : decode cX12_init 952 = .ok (.lastore, 1) := by decide +kernel
theorem dX12_init_953 : decode cX12_init 953 = .ok (.aload_n 0, 1) := by decide +kernel
theorem dX12_init_954 : decode cX12_init 954 = .ok (.getfield 34, 3) := by decide +kernel
theorem dX12_init_957 : decode cX12_init 957 = .ok (.bipush 20, 2) := by decide +kernel
theorem dX12_init_959 : decode cX12_init 959 = .ok (.bipush 104, 2) := by decide +kernel
theorem dX12_init_961 : decode cX12_init 961 = .ok (.bipush 111, 2) := by decide +kernel
theorem dX12_init_963 : decode cX12_init 963 = .ok (.bipush 108, 2) := by decide +kernel
theorem dX12_init_965 : decode cX12_init 965 = .ok (.bipush 100, 2) := by decide +kernel
theorem dX12_init_967 : decode cX12_init 967 = .ok (.iconst 0, 1) := by decide +kernel
theorem dX12_init_968 : decode cX12_init 968 = .ok (.iconst 0, 1) := by decide +kernel
theorem dX12_init_969 : decode cX12_init 969 = .ok (.invokestatic 219, 3) := by decide +kernel
theorem dX12_init_972 : decode cX12_init 972 = .ok (.lastore, 1) := by decide +kernel
theorem dX12_init_973 : decode cX12_init 973 = .ok (.aload_n 0, 1) := by decide +kernel
theorem dX12_init_974 : decode cX12_init 974 = .ok (.getfield 34, 3) := by decide +kernel
theorem dX12_init_977 : decode cX12_init 977 = .ok (.bipush 21, 2) := by decide +kernel
theorem dX12_init_979 : decode cX12_init 979 = .ok (.bipush 100, 2) := by decide +kernel
theorem dX12_init_981 : decode cX12_init 981 = .ok (.bipush 114, 2) := by decide +kernel
theorem dX12_init_983 : decode cX12_init 983 = .ok (.bipush 97, 2) := by decide +kernel
theorem dX12_init_985 : decode cX12_init 985 = .ok (.bipush 105, 2) := by decide +kernel
theorem dX12_init_987 : decode cX12_init 987 = .ok (.bipush 110, 2) := by decide +kernel
theorem dX12_init_989 : decode cX12_init 989 = .ok (.iconst 0, 1) := by decide +kernel
theorem dX12_init_990 : decode cX12_init 990 = .ok (.invokestatic 219, 3) := by decide +kernel
theorem dX12_init_993 : decode cX12_init 993 = .ok (.lastore, 1) := by decide +kernel
theorem dX12_init_994 : decode cX12_init 994 = .ok (.aload_n 0, 1) := by decide +kernel
theorem dX12_init_995 : decode cX12_init 995 = .ok (.getfield 34, 3) := by decide +kernel
theorem dX12_init_998 : decode cX12_init 998 = .ok (.bipush 22, 2) := by decide +kernel
theorem dX12_init_1000 : decode cX12_init 1000 = .ok (.bipush 115, 2) := by decide +kernel
theorem dX12_init_1002 : decode cX12_init 1002 = .ok (.bipush 101, 2) := by decide +kernel
theorem dX12_init_1004 : decode cX12_init 1004 = .ok (.bipush 114, 2) := by decide +kernel
theorem dX12_init_1006 : decode cX12_init 1006 = .ok (.bipush 118, 2) := by decide +kernel
theorem dX12_init_1008 : decode cX12_init 1008 = .ok (.bipush 101, 2) := by decide +kernel
theorem dX12_init_1010 : decode cX12_init 1010 = .ok (.iconst 0, 1) := by decide +kernel
theorem dX12_init_1011 : decode cX12_init 1011 = .ok (.invokestatic 219, 3) := by decide +kernel
theorem dX12_init_1014 : decode cX12_init 1014 = .ok (.lastore, 1) := by decide +kernel
theorem dX12_init_1015 : decode cX12_init 1015 = .ok (.aload_n 0, 1) := by decide +kernel
theorem dX12_init_1016 : decode cX12_init 1016 = .ok (.getfield 34, 3) := by decide +kernel
theorem dX12_init_1019 : decode cX12_init 1019 = .ok (.bipush 23, 2) := by decide +kernel
theorem dX12_init_1021 : decode cX12_init 1021 = .ok (.bipush 116, 2) := by decide +kernel
theorem dX12_init_1023 : decode cX12_init 1023 = .ok (.bipush 105, 2) := by decide +kernel
theorem dX12_init_1025 : decode cX12_init 1025 = .ok (.bipush 108, 2) := by decide +kernel
theorem dX12_init_1027 : decode cX12_init 1027 = .ok (.bipush 116, 2) := by decide +kernel
theorem dX12_init_1029 : decode cX12_init 1029 = .ok (.iconst 0, 1) := by decide +kernel
theorem dX12_init_1030 : decode cX12_init 1030 = .ok (.iconst 0, 1) := by decide +kernel
theorem dX12_init_1031 : decode cX12_init 1031 = .ok (.invokestatic 219, 3) := by decide +kernel
theorem dX12_init_1034 : decode cX12_init 1034 = .ok (.lastore, 1) := by decide +kernel
theorem dX12_init_1035 : decode cX12_init 1035 = .ok (.aload_n 0, 1) := by decide +kernel
theorem dX12_init_1036 : decode cX12_init 1036 = .ok (.getfield 34, 3) := by decide +kernel
theorem dX12_init_1039 : decode cX12_init 1039 = .ok (.bipush 24, 2) := by decide +kernel
theorem dX12_init_1041 : decode cX12_init 1041 = .ok (.bipush 97, 2) := by decide +kernel
theorem dX12_init_1043 : decode cX12_init 1043 = .ok (.bipush 110, 2) := by decide +kernel
theorem dX12_init_1045 : decode cX12_init 1045 = .ok (.bipush 100, 2) := by decide +kernel
theorem dX12_init_1047 : decode cX12_init 1047 = .ok (.iconst 0, 1) := by decide +kernel
theorem dX12_init_1048 : decode cX12_init 1048 = .ok (.iconst 0, 1) := by decide +kernel
theorem dX12_init_1049 : decode cX12_init 1049 = .ok (.iconst 0, 1) := by decide +kernel
theorem dX12_init_1050 : decode cX12_init 1050 = .ok (.invokestatic 219, 3) := by decide +kernel
theorem dX12_init_1053 : decode cX12_init 1053 = .ok (.lastore, 1) := by decide +kernel
theorem dX12_init_1054 : decode cX12_init 1054 = .ok (.aload_n 0, 1) := by decide +kernel
theorem dX12_init_1055 : decode cX12_init 1055 = .ok (.getfield 34, 3) := by decide +kernel
theorem dX12_init_1058 : decode cX12_init 1058 = .ok (.bipush 25, 2) := by decide +kernel
theorem dX12_init_1060 : decode cX12_init 1060 = .ok (.bipush 108, 2) := by decide +kernel
theorem dX12_init_1062 : decode cX12_init 1062 = .ok (.bipush 101, 2) := by decide +kernel
theorem dX12_init_1064 : decode cX12_init 1064 = .ok (.bipush 102, 2) := by decide +kernel
theorem dX12_init_1066 : decode cX12_init 1066 = .ok (.bipush 116, 2) := by decide +kernel
theorem dX12_init_1068 : decode cX12_init 1068 = .ok (.iconst 0, 1) := by decide +kernel
theorem dX12_init_1069 : decode cX12_init 1069 = .ok (.iconst 0, 1) := by decide +kernel
theorem dX12_init_1070 : decode cX12_init 1070 = .ok (.invokestatic 219, 3) := by decide +kernel
theorem dX12_init_1073 : decode cX12_init 1073 = .ok (.lastore, 1) := by decide +kernel
theorem dX12_init_1074 : decode cX12_init 1074 = .ok (.aload_n 0, 1) := by decide +kernel
theorem dX12_init_1075 : decode cX12_init 1075 = .ok (.getfield 34, 3) := by decide +kernel
theorem dX12_init_1078 : decode cX12_init 1078 = .ok (.bipush 26, 2) := by decide +kernel
theorem dX12_init_1080 : decode cX12_init 1080 = .ok (.bipush 98, 2) := by decide +kernel
theorem dX12_init_1082 : decode cX12_init 1082 = .ok (.bipush 97, 2) := by decide +kernel
theorem dX12_init_1084 : decode cX12_init 1084 = .ok (.bipush 108, 2) := by decide +kernel
theorem dX12_init_1086 : decode cX12_init 1086 = .ok (.bipush 108, 2) := by decide +kernel
theorem dX12_init_1088 : decode cX12_init 1088 = .ok (.bipush 115, 2) := by decide +kernel
theorem dX12_init_1090 : decode cX12_init 1090 = .ok (.iconst 0, 1) := by decide +kernel
theorem dX12_init_1091 : decode cX12_init 1091 = .ok (.invokestatic 219, 3) := by decide +kernel
theorem dX12_init_1094 : decode cX12_init 1094 = .ok (.lastore, 1) := by decide +kernel
theorem dX12_init_1095 : decode cX12_init 1095 = .ok (.return_, 1) := by decide +kernel
theorem dX12_feed_0 : decode cX12_feed 0 = .ok (.aload_n 0, 1) := by decide +kernel
theorem dX12_feed_1 : decode cX12_feed 1 = .ok (.getfield 223, 3) := by decide +kernel
theorem dX12_feed_4 : decode cX12_feed 4 = .ok (.bipush 20, 2) := by decide +kernel
theorem dX12_feed_6 : decode cX12_feed 6 = .ok (.iadd, 1) := by decide +kernel
theorem dX12_feed_7 : decode cX12_feed 7 = .ok (.sipush 4000, 3) := by decide +kernel
theorem dX12_feed_10 : decode cX12_feed 10 = .ok (.if_icmp .le 5, 3) := by decide +kernel
theorem dX12_feed_13 : decode cX12_feed 13 = .ok (.iconst (-1), 1) := by decide +kernel
theorem dX12_feed_14 : decode cX12_feed 14 = .ok (.ireturn, 1) := by decide +kernel
theorem dX12_feed_15 : decode cX12_feed 15 = .ok (.aload_n 0, 1) := by decide +kernel
theorem dX12_feed_16 : decode cX12_feed 16 = .ok (.iload_n 1, 1) := by decide +kernel
theorem dX12_feed_17 : decode cX12_feed 17 = .ok (.invokevirtual 226, 3) := by decide +kernel
theorem dX12_feed_20 : decode cX12_feed 20 = .ok (.aload_n 0, 1) := by decide +kernel
theorem dX12_feed_21 : decode cX12_feed 21 = .ok (.iload_n 2, 1) := by decide +kernel
theorem dX12_feed_22 : decode cX12_feed 22 = .ok (.invokevirtual 226, 3) := by decide +kernel
theorem dX12_feed_25 : decode cX12_feed 25 = .ok (.aload_n 0, 1) := by decide +kernel
theorem dX12_feed_26 : decode cX12_feed 26 = .ok (.iload_n 3, 1) := by decide +kernel
theorem dX12_feed_27 : decode cX12_feed 27 = .ok (.invokevirtual 226, 3) := by decide +kernel
theorem dX12_feed_30 : decode cX12_feed 30 = .ok (.aload_n 0, 1) := by decide +kernel
theorem dX12_feed_31 : decode cX12_feed 31 = .ok (.iload 4, 2) := by decide +kernel
theorem dX12_feed_33 : decode cX12_feed 33 = .ok (.invokevirtual 226, 3) := by decide +kernel
theorem dX12_feed_36 : decode cX12_feed 36 = .ok (.aload_n 0, 1) := by decide +kernel
theorem dX12_feed_37 : decode cX12_feed 37 = .ok (.iload 5, 2) := by decide +kernel
theorem dX12_feed_39 : decode cX12_feed 39 = .ok (.invokevirtual 226, 3) := by decide +kernel
theorem dX12_feed_42 : decode cX12_feed 42 = .ok (.aload_n 0, 1) := by decide +kernel
theorem dX12_feed_43 : decode cX12_feed 43 = .ok (.getfield 223, 3) := by decide +kernel
theorem dX12_feed_46 : decode cX12_feed 46 = .ok (.ireturn, 1) := by decide +kernel
theorem dX12_put_0 : decode cX12_put 0 = .ok (.bipush 24, 2) := by decide +kernel
theorem dX12_put_2 : decode cX12_put 2 = .ok (.istore_n 2, 1) := by decide +kernel
theorem dX12_put_3 : decode cX12_put 3 = .ok (.iload_n 2, 1) := by decide +kernel
theorem dX12_put_4 : decode cX12_put 4 = .ok (.ifCond .lt 32, 3) := by decide +kernel
theorem dX12_put_7 : decode cX12_put 7 = .ok (.aload_n 0, 1) := by decide +kernel
theorem dX12_put_8 : decode cX12_put 8 = .ok (.getfield 13, 3) := by decide +kernel
theorem dX12_put_11 : decode cX12_put 11 = .ok (.aload_n 0, 1) := by decide +kernel
theorem dX12_put_12 : decode cX12_put 12 = .ok (.getfield 223, 3) := by decide +kernel
theorem dX12_put_15 : decode cX12_put 15 = .ok (.iload_n 1, 1) := by decide +kernel
theorem dX12_put_16 : decode cX12_put 16 = .ok (.iload_n 2, 1) := by decide +kernel
theorem dX12_put_17 : decode cX12_put 17 = .ok (.ishr, 1) := by decide +kernel
theorem dX12_put_18 : decode cX12_put 18 = .ok (.i2b, 1) := by decide +kernel
theorem dX12_put_19 : decode cX12_put 19 = .ok (.bastore, 1) := by decide +kernel
theorem dX12_put_20 : decode cX12_put 20 = .ok (.aload_n 0, 1) := by decide +kernel
theorem dX12_put_21 : decode cX12_put 21 = .ok (.dup, 1) := by decide +kernel
theorem dX12_put_22 : decode cX12_put 22 = .ok (.getfield 223, 3) := by decide +kernel
theorem dX12_put_25 : decode cX12_put 25 = .ok (.iconst 1, 1) := by decide +kernel
theorem dX12_put_26 : decode cX12_put 26 = .ok (.iadd, 1) := by decide +kernel
theorem dX12_put_27 : decode cX12_put 27 = .ok (.putfield 223, 3) := by decide +kernel
theorem dX12_put_30 : decode cX12_put 30 = .ok (.iinc 2 (-8), 3) := by decide +kernel
theorem dX12_put_33 : decode cX12_put 33 = .ok (.goto (-30), 3) := by decide +kernel
theorem dX12_put_36 : decode cX12_put 36 = .ok (.return_, 1) := by decide +kernel
theorem dX12_back_0 : decode cX12_back 0 = .ok (.iload_n 1, 1) := by decide +kernel
theorem dX12_back_1 : decode cX12_back 1 = .ok (.ifCond .lt 11, 3) := by decide +kernel
theorem dX12_back_4 : decode cX12_back 4 = .ok (.iload_n 1, 1) := by decide +kernel
theorem dX12_back_5 : decode cX12_back 5 = .ok (.aload_n 0, 1) := by decide +kernel
theorem dX12_back_6 : decode cX12_back 6 = .ok (.getfield 223, 3) := by decide +kernel
theorem dX12_back_9 : decode cX12_back 9 = .ok (.if_icmp .le 5, 3) := by decide +kernel
theorem dX12_back_12 : decode cX12_back 12 = .ok (.iconst (-1), 1) := by decide +kernel
theorem dX12_back_13 : decode cX12_back 13 = .ok (.ireturn, 1) := by decide +kernel
theorem dX12_back_14 : decode cX12_back 14 = .ok (.aload_n 0, 1) := by decide +kernel
theorem dX12_back_15 : decode cX12_back 15 = .ok (.dup, 1) := by decide +kernel
theorem dX12_back_16 : decode cX12_back 16 = .ok (.getfield 223, 3) := by decide +kernel
theorem dX12_back_19 : decode cX12_back 19 = .ok (.iload_n 1, 1) := by decide +kernel
theorem dX12_back_20 : decode cX12_back 20 = .ok (.isub, 1) := by decide +kernel
theorem dX12_back_21 : decode cX12_back 21 = .ok (.putfield 223, 3) := by decide +kernel
theorem dX12_back_24 : decode cX12_back 24 = .ok (.aload_n 0, 1) := by decide +kernel
theorem dX12_back_25 : decode cX12_back 25 = .ok (.getfield 223, 3) := by decide +kernel
theorem dX12_back_28 : decode cX12_back 28 = .ok (.ireturn, 1) := by decide +kernel
theorem dX12_at_0 : decode cX12_at 0 = .ok (.iload_n 1, 1) := by decide +kernel
theorem dX12_at_1 : decode cX12_at 1 = .ok (.aload_n 0, 1) := by decide +kernel
theorem dX12_at_2 : decode cX12_at 2 = .ok (.getfield 230, 3) := by decide +kernel
theorem dX12_at_5 : decode cX12_at 5 = .ok (.if_icmp .ge 16, 3) := by decide +kernel
theorem dX12_at_8 : decode cX12_at 8 = .ok (.aload_n 0, 1) := by decide +kernel
theorem dX12_at_9 : decode cX12_at 9 = .ok (.getfield 17, 3) := by decide +kernel
theorem dX12_at_12 : decode cX12_at 12 = .ok (.iload_n 1, 1) := by decide +kernel
theorem dX12_at_13 : decode cX12_at 13 = .ok (.baload, 1) := by decide +kernel
theorem dX12_at_14 : decode cX12_at 14 = .ok (.sipush 255, 3) := by decide +kernel
theorem dX12_at_17 : decode cX12_at 17 = .ok (.iand, 1) := by decide +kernel
theorem dX12_at_18 : decode cX12_at 18 = .ok (.goto 4, 3) := by decide +kernel
theorem dX12_at_21 : decode cX12_at 21 = .ok (.iconst 0, 1) := by decide +kernel
theorem dX12_at_22 : decode cX12_at 22 = .ok (.ireturn, 1) := by decide +kernel
theorem dX12_isDigit_0 : decode cX12_isDigit 0 = .ok (.iload_n 0, 1) := by decide +kernel
theorem dX12_isDigit_1 : decode cX12_isDigit 1 = .ok (.bipush 48, 2) := by decide +kernel
theorem dX12_isDigit_3 : decode cX12_isDigit 3 = .ok (.if_icmp .lt 13, 3) := by decide +kernel
theorem dX12_isDigit_6 : decode cX12_isDigit 6 = .ok (.iload_n 0, 1) := by decide +kernel
theorem dX12_isDigit_7 : decode cX12_isDigit 7 = .ok (.bipush 57, 2) := by decide +kernel
theorem dX12_isDigit_9 : decode cX12_isDigit 9 = .ok (.if_icmp .gt 7, 3) := by decide +kernel
theorem dX12_isDigit_12 : decode cX12_isDigit 12 = .ok (.iconst 1, 1) := by decide +kernel
theorem dX12_isDigit_13 : decode cX12_isDigit 13 = .ok (.goto 4, 3) := by decide +kernel
theorem dX12_isDigit_16 : decode cX12_isDigit 16 = .ok (.iconst 0, 1) := by decide +kernel
theorem dX12_isDigit_17 : decode cX12_isDigit 17 = .ok (.ireturn, 1) := by decide +kernel
theorem dX12_isLetter_0 : decode cX12_isLetter 0 = .ok (.iload_n 0, 1) := by decide +kernel
theorem dX12_isLetter_1 : decode cX12_isLetter 1 = .ok (.bipush 97, 2) := by decide +kernel
theorem dX12_isLetter_3 : decode cX12_isLetter 3 = .ok (.if_icmp .lt 13, 3) := by decide +kernel
theorem dX12_isLetter_6 : decode cX12_isLetter 6 = .ok (.iload_n 0, 1) := by decide +kernel
theorem dX12_isLetter_7 : decode cX12_isLetter 7 = .ok (.bipush 122, 2) := by decide +kernel
theorem dX12_isLetter_9 : decode cX12_isLetter 9 = .ok (.if_icmp .gt 7, 3) := by decide +kernel
theorem dX12_isLetter_12 : decode cX12_isLetter 12 = .ok (.iconst 1, 1) := by decide +kernel
theorem dX12_isLetter_13 : decode cX12_isLetter 13 = .ok (.goto 4, 3) := by decide +kernel
theorem dX12_isLetter_16 : decode cX12_isLetter 16 = .ok (.iconst 0, 1) := by decide +kernel
theorem dX12_isLetter_17 : decode cX12_isLetter 17 = .ok (.ireturn, 1) := by decide +kernel
theorem dX12_more_0 : decode cX12_more 0 = .ok (.iload_n 2, 1) := by decide +kernel
theorem dX12_more_1 : decode cX12_more 1 = .ok (.ifCond .ne 7, 3) := by decide +kernel
theorem dX12_more_4 : decode cX12_more 4 = .ok (.lload_n 0, 1) := by decide +kernel
theorem dX12_more_5 : decode cX12_more 5 = .ok (.goto 33, 3) := by decide +kernel
theorem dX12_more_8 : decode cX12_more 8 = .ok (.ldc2_w 233, 3) := by decide +kernel
theorem dX12_more_11 : decode cX12_more 11 = .ok (.lload_n 0, 1) := by decide +kernel
theorem dX12_more_12 : decode cX12_more 12 = .ok (.lmul, 1) := by decide +kernel
theorem dX12_more_13 : decode cX12_more 13 = .ok (.iload_n 2, 1) := by decide +kernel
theorem dX12_more_14 : decode cX12_more 14 = .ok (.invokestatic 235, 3) := by decide +kernel
theorem dX12_more_17 : decode cX12_more 17 = .ok (.ifCond .eq 13, 3) := by decide +kernel
theorem dX12_more_20 : decode cX12_more 20 = .ok (.iload_n 2, 1) := by decide +kernel
theorem dX12_more_21 : decode cX12_more 21 = .ok (.bipush 48, 2) := by decide +kernel
theorem dX12_more_23 : decode cX12_more 23 = .ok (.isub, 1) := by decide +kernel
theorem dX12_more_24 : decode cX12_more 24 = .ok (.bipush 27, 2) := by decide +kernel
theorem dX12_more_26 : decode cX12_more 26 = .ok (.iadd, 1) := by decide +kernel
theorem dX12_more_27 : decode cX12_more 27 = .ok (.goto 9, 3) := by decide +kernel
theorem dX12_more_30 : decode cX12_more 30 = .ok (.iload_n 2, 1) := by decide +kernel
theorem dX12_more_31 : decode cX12_more 31 = .ok (.bipush 97, 2) := by decide +kernel
theorem dX12_more_33 : decode cX12_more 33 = .ok (.isub, 1) := by decide +kernel
theorem dX12_more_34 : decode cX12_more 34 = .ok (.iconst 1, 1) := by decide +kernel
theorem dX12_more_35 : decode cX12_more 35 = .ok (.iadd, 1) := by decide +kernel
theorem dX12_more_36 : decode cX12_more 36 = .ok (.i2l, 1) := by decide +kernel
theorem dX12_more_37 : decode cX12_more 37 = .ok (.ladd, 1) := by decide +kernel
theorem dX12_more_38 : decode cX12_more 38 = .ok (.lreturn, 1) := by decide +kernel
theorem dX12_word_0 : decode cX12_word 0 = .ok (.lconst 0, 1) := by decide +kernel
theorem dX12_word_1 : decode cX12_word 1 = .ok (.iload_n 0, 1) := by decide +kernel
theorem dX12_word_2 : decode cX12_word 2 = .ok (.invokestatic 239, 3) := by decide +kernel
theorem dX12_word_5 : decode cX12_word 5 = .ok (.iload_n 1, 1) := by decide +kernel
theorem dX12_word_6 : decode cX12_word 6 = .ok (.invokestatic 239, 3) := by decide +kernel
theorem dX12_word_9 : decode cX12_word 9 = .ok (.iload_n 2, 1) := by decide +kernel
theorem dX12_word_10 : decode cX12_word 10 = .ok (.invokestatic 239, 3) := by decide +kernel
theorem dX12_word_13 : decode cX12_word 13 = .ok (.iload_n 3, 1) := by decide +kernel
theorem dX12_word_14 : decode cX12_word 14 = .ok (.invokestatic 239, 3) := by decide +kernel
theorem dX12_word_17 : decode cX12_word 17 = .ok (.iload 4, 2) := by decide +kernel
theorem dX12_word_19 : decode cX12_word 19 = .ok (.invokestatic 239, 3) := by decide +kernel
theorem dX12_word_22 : decode cX12_word 22 = .ok (.iload 5, 2) := by decide +kernel
theorem dX12_word_24 : decode cX12_word 24 = .ok (.invokestatic 239, 3) := by decide +kernel
theorem dX12_word_27 : decode cX12_word 27 = .ok (.lreturn, 1) := by decide +kernel
theorem dX12_token_0 : decode cX12_token 0 = .ok (.aload_n 0, 1) := by decide +kernel
theorem dX12_token_1 : decode cX12_token 1 = .ok (.getfield 20, 3) := by decide +kernel
theorem dX12_token_4 : decode cX12_token 4 = .ok (.aload_n 0, 1) := by decide +kernel
theorem dX12_token_5 : decode cX12_token 5 = .ok (.getfield 243, 3) := by decide +kernel
theorem dX12_token_8 : decode cX12_token 8 = .ok (.iload_n 1, 1) := by decide +kernel
theorem dX12_token_9 : decode cX12_token 9 = .ok (.iastore, 1) := by decide +kernel
theorem dX12_token_10 : decode cX12_token 10 = .ok (.aload_n 0, 1) := by decide +kernel
theorem dX12_token_11 : decode cX12_token 11 = .ok (.getfield 24, 3) := by decide +kernel
theorem dX12_token_14 : decode cX12_token 14 = .ok (.aload_n 0, 1) := by decide +kernel
theorem dX12_token_15 : decode cX12_token 15 = .ok (.getfield 243, 3) := by decide +kernel
theorem dX12_token_18 : decode cX12_token 18 = .ok (.iload_n 2, 1) := by decide +kernel
theorem dX12_token_19 : decode cX12_token 19 = .ok (.iastore, 1) := by decide +kernel
theorem dX12_token_20 : decode cX12_token 20 = .ok (.aload_n 0, 1) := by decide +kernel
theorem dX12_token_21 : decode cX12_token 21 = .ok (.getfield 27, 3) := by decide +kernel
theorem dX12_token_24 : decode cX12_token 24 = .ok (.aload_n 0, 1) := by decide +kernel
theorem dX12_token_25 : decode cX12_token 25 = .ok (.getfield 243, 3) := by decide +kernel
theorem dX12_token_28 : decode cX12_token 28 = .ok (.iload_n 3, 1) := by decide +kernel
theorem dX12_token_29 : decode cX12_token 29 = .ok (.iastore, 1) := by decide +kernel
theorem dX12_token_30 : decode cX12_token 30 = .ok (.aload_n 0, 1) := by decide +kernel
theorem dX12_token_31 : decode cX12_token 31 = .ok (.getfield 30, 3) := by decide +kernel
theorem dX12_token_34 : decode cX12_token 34 = .ok (.aload_n 0, 1) := by decide +kernel
theorem dX12_token_35 : decode cX12_token 35 = .ok (.getfield 243, 3) := by decide +kernel
theorem dX12_token_38 : decode cX12_token 38 = .ok (.lload 4, 2) := by decide +kernel
theorem dX12_token_40 : decode cX12_token 40 = .ok (.lastore, 1) := by decide +kernel
theorem dX12_token_41 : decode cX12_token 41 = .ok (.aload_n 0, 1) := by decide +kernel
theorem dX12_token_42 : decode cX12_token 42 = .ok (.dup, 1) := by decide +kernel
theorem dX12_token_43 : decode cX12_token 43 = .ok (.getfield 243, 3) := by decide +kernel
theorem dX12_token_46 : decode cX12_token 46 = .ok (.iconst 1, 1) := by decide +kernel
theorem dX12_token_47 : decode cX12_token 47 = .ok (.iadd, 1) := by decide +kernel
theorem dX12_token_48 : decode cX12_token 48 = .ok (.putfield 243, 3) := by decide +kernel
theorem dX12_token_51 : decode cX12_token 51 = .ok (.return_, 1) := by decide +kernel
theorem dX12_cut_0 : decode cX12_cut 0 = .ok (.aload_n 0, 1) := by decide +kernel
theorem dX12_cut_1 : decode cX12_cut 1 = .ok (.iconst 0, 1) := by decide +kernel
theorem dX12_cut_2 : decode cX12_cut 2 = .ok (.putfield 243, 3) := by decide +kernel
theorem dX12_cut_5 : decode cX12_cut 5 = .ok (.iconst 0, 1) := by decide +kernel
theorem dX12_cut_6 : decode cX12_cut 6 = .ok (.istore_n 1, 1) := by decide +kernel
theorem dX12_cut_7 : decode cX12_cut 7 = .ok (.aload_n 0, 1) := by decide +kernel
theorem dX12_cut_8 : decode cX12_cut 8 = .ok (.getfield 243, 3) := by decide +kernel
theorem dX12_cut_11 : decode cX12_cut 11 = .ok (.sipush 1000, 3) := by decide +kernel
theorem dX12_cut_14 : decode cX12_cut 14 = .ok (.if_icmp .gt 293, 3) := by decide +kernel
theorem dX12_cut_17 : decode cX12_cut 17 = .ok (.aload_n 0, 1) := by decide +kernel
theorem dX12_cut_18 : decode cX12_cut 18 = .ok (.iload_n 1, 1) := by decide +kernel
theorem dX12_cut_19 : decode cX12_cut 19 = .ok (.invokevirtual 246, 3) := by decide +kernel
theorem dX12_cut_22 : decode cX12_cut 22 = .ok (.istore_n 2, 1) := by decide +kernel
theorem dX12_cut_23 : decode cX12_cut 23 = .ok (.iload_n 1, 1) := by decide +kernel
theorem dX12_cut_24 : decode cX12_cut 24 = .ok (.aload_n 0, 1) := by decide +kernel
theorem dX12_cut_25 : decode cX12_cut 25 = .ok (.getfield 230, 3) := by decide +kernel
theorem dX12_cut_28 : decode cX12_cut 28 = .ok (.if_icmp .lt 15, 3) := by decide +kernel
theorem dX12_cut_31 : decode cX12_cut 31 = .ok (.aload_n 0, 1) := by decide +kernel
theorem dX12_cut_32 : decode cX12_cut 32 = .ok (.iconst 0, 1) := by decide +kernel
theorem dX12_cut_33 : decode cX12_cut 33 = .ok (.aload_n 0, 1) := by decide +kernel
theorem dX12_cut_34 : decode cX12_cut 34 = .ok (.getfield 230, 3) := by decide +kernel
theorem dX12_cut_37 : decode cX12_cut 37 = .ok (.iconst 0, 1) := by decide +kernel
theorem dX12_cut_38 : decode cX12_cut 38 = .ok (.lconst 0, 1) := by decide +kernel
theorem dX12_cut_39 : decode cX12_cut 39 = .ok (.invokevirtual 250, 3) := by decide +kernel
theorem dX12_cut_42 : decode cX12_cut 42 = .ok (.return_, 1) := by decide +kernel
theorem dX12_cut_43 : decode cX12_cut 43 = .ok (.iload_n 2, 1) := by decide +kernel
theorem dX12_cut_44 : decode cX12_cut 44 = .ok (.bipush 9, 2) := by decide +kernel
theorem dX12_cut_46 : decode cX12_cut 46 = .ok (.if_icmp .eq 21, 3) := by decide +kernel
theorem dX12_cut_49 : decode cX12_cut 49 = .ok (.iload_n 2, 1) := by decide +kernel
theorem dX12_cut_50 : decode cX12_cut 50 = .ok (.bipush 10, 2) := by decide +kernel
theorem dX12_cut_52 : decode cX12_cut 52 = .ok (.if_icmp .eq 15, 3) := by decide +kernel
theorem dX12_cut_55 : decode cX12_cut 55 = .ok (.iload_n 2, 1) := by decide +kernel
theorem dX12_cut_56 : decode cX12_cut 56 = .ok (.bipush 13, 2) := by decide +kernel
theorem dX12_cut_58 : decode cX12_cut 58 = .ok (.if_icmp .eq 9, 3) := by decide +kernel
theorem dX12_cut_61 : decode cX12_cut 61 = .ok (.iload_n 2, 1) := by decide +kernel
theorem dX12_cut_62 : decode cX12_cut 62 = .ok (.bipush 32, 2) := by decide +kernel
theorem dX12_cut_64 : decode cX12_cut 64 = .ok (.if_icmp .ne 9, 3) := by decide +kernel
theorem dX12_cut_67 : decode cX12_cut 67 = .ok (.iinc 1 1, 3) := by decide +kernel
theorem dX12_cut_70 : decode cX12_cut 70 = .ok (.goto 234, 3) := by decide +kernel
theorem dX12_cut_73 : decode cX12_cut 73 = .ok (.iload_n 2, 1) := by decide +kernel
theorem dX12_cut_74 : decode cX12_cut 74 = .ok (.invokestatic 254, 3) := by decide +kernel
theorem dX12_cut_77 : decode cX12_cut 77 = .ok (.ifCond .eq 132, 3) := by decide +kernel
theorem dX12_cut_80 : decode cX12_cut 80 = .ok (.iconst 0, 1) := by decide +kernel
theorem dX12_cut_81 : decode cX12_cut 81 = .ok (.istore_n 3, 1) := by decide +kernel
theorem dX12_cut_82 : decode cX12_cut 82 = .ok (.lconst 0, 1) := by decide +kernel
theorem dX12_cut_83 : decode cX12_cut 83 = .ok (.lstore 4, 2) := by decide +kernel
theorem dX12_cut_85 : decode cX12_cut 85 = .ok (.aload_n 0, 1) := by decide +kernel
theorem dX12_cut_86 : decode cX12_cut 86 = .ok (.iload_n 1, 1) := by decide +kernel
theorem dX12_cut_87 : decode cX12_cut 87 = .ok (.iload_n 3, 1) := by decide +kernel
theorem dX12_cut_88 : decode cX12_cut 88 = .ok (.iadd, 1) := by decide +kernel
theorem dX12_cut_89 : decode cX12_cut 89 = .ok (.invokevirtual 246, 3) := by decide +kernel
theorem dX12_cut_92 : decode cX12_cut 92 = .ok (.invokestatic 254, 3) := by decide +kernel
theorem dX12_cut_95 : decode cX12_cut 95 = .ok (.ifCond .ne 16, 3) := by decide +kernel
theorem dX12_cut_98 : decode cX12_cut 98 = .ok (.aload_n 0, 1) := by decide +kernel
theorem dX12_cut_99 : decode cX12_cut 99 = .ok (.iload_n 1, 1) := by decide +kernel
theorem dX12_cut_100 : decode cX12_cut 100 = .ok (.iload_n 3, 1) := by decide +kernel
theorem dX12_cut_101 : decode cX12_cut 101 = .ok (.iadd, 1) := by decide +kernel
theorem dX12_cut_102 : decode cX12_cut 102 = .ok (.invokevirtual 246, 3) := by decide +kernel
theorem dX12_cut_105 : decode cX12_cut 105 = .ok (.invokestatic 235, 3) := by decide +kernel
theorem dX12_cut_108 : decode cX12_cut 108 = .ok (.ifCond .eq 29, 3) := by decide +kernel
theorem dX12_cut_111 : decode cX12_cut 111 = .ok (.iload_n 3, 1) := by decide +kernel
theorem dX12_cut_112 : decode cX12_cut 112 = .ok (.bipush 8, 2) := by decide +kernel
theorem dX12_cut_114 : decode cX12_cut 114 = .ok (.if_icmp .ge 17, 3) := by decide +kernel
theorem dX12_cut_117 : decode cX12_cut 117 = .ok (.lload 4, 2) := by decide +kernel
theorem dX12_cut_119 : decode cX12_cut 119 = .ok (.aload_n 0, 1) := by decide +kernel
theorem dX12_cut_120 : decode cX12_cut 120 = .ok (.iload_n 1, 1) := by decide +kernel
theorem dX12_cut_121 : decode cX12_cut 121 = .ok (.iload_n 3, 1) := by decide +kernel
theorem dX12_cut_122 : decode cX12_cut 122 = .ok (.iadd, 1) := by decide +kernel
theorem dX12_cut_123 : decode cX12_cut 123 = .ok (.invokevirtual 246, 3) := by decide +kernel
theorem dX12_cut_126 : decode cX12_cut 126 = .ok (.invokestatic 239, 3) := by decide +kernel
theorem dX12_cut_129 : decode cX12_cut 129 = .ok (.lstore 4, 2) := by decide +kernel
theorem dX12_cut_131 : decode cX12_cut 131 = .ok (.iinc 3 1, 3) := by decide +kernel
theorem dX12_cut_134 : decode cX12_cut 134 = .ok (.goto (-49), 3) := by decide +kernel
theorem dX12_cut_137 : decode cX12_cut 137 = .ok (.iload_n 3, 1) := by decide +kernel
theorem dX12_cut_138 : decode cX12_cut 138 = .ok (.bipush 8, 2) := by decide +kernel
theorem dX12_cut_140 : decode cX12_cut 140 = .ok (.if_icmp .le 7, 3) := by decide +kernel
theorem dX12_cut_143 : decode cX12_cut 143 = .ok (.iconst 3, 1) := by decide +kernel
theorem dX12_cut_144 : decode cX12_cut 144 = .ok (.goto 4, 3) := by decide +kernel
theorem dX12_cut_147 : decode cX12_cut 147 = .ok (.iconst 1, 1) := by decide +kernel
theorem dX12_cut_148 : decode cX12_cut 148 = .ok (.istore 6, 2) := by decide +kernel
theorem dX12_cut_150 : decode cX12_cut 150 = .ok (.iload_n 3, 1) := by decide +kernel
theorem dX12_cut_151 : decode cX12_cut 151 = .ok (.bipush 6, 2) := by decide +kernel
theorem dX12_cut_153 : decode cX12_cut 153 = .ok (.if_icmp .gt 39, 3) := by decide +kernel
theorem dX12_cut_156 : decode cX12_cut 156 = .ok (.iconst 0, 1) := by decide +kernel
theorem dX12_cut_157 : decode cX12_cut 157 = .ok (.istore 7, 2) := by decide +kernel
theorem dX12_cut_159 : decode cX12_cut 159 = .ok (.iload 7, 2) := by decide +kernel
theorem dX12_cut_161 : decode cX12_cut 161 = .ok (.bipush 27, 2) := by decide +kernel
theorem dX12_cut_163 : decode cX12_cut 163 = .ok (.if_icmp .ge 29, 3) := by decide +kernel
theorem dX12_cut_166 : decode cX12_cut 166 = .ok (.aload_n 0, 1) := by decide +kernel
theorem dX12_cut_167 : decode cX12_cut 167 = .ok (.getfield 34, 3) := by decide +kernel
theorem dX12_cut_170 : decode cX12_cut 170 = .ok (.iload 7, 2) := by decide +kernel
theorem dX12_cut_172 : decode cX12_cut 172 = .ok (.laload, 1) := by decide +kernel
theorem dX12_cut_173 : decode cX12_cut 173 = .ok (.lload 4, 2) := by decide +kernel
theorem dX12_cut_175 : decode cX12_cut 175 = .ok (.lcmp, 1) := by decide +kernel
theorem dX12_cut_176 : decode cX12_cut 176 = .ok (.ifCond .ne 10, 3) := by decide +kernel
theorem dX12_cut_179 : decode cX12_cut 179 = .ok (.bipush 20, 2) := by decide +kernel
theorem dX12_cut_181 : decode cX12_cut 181 = .ok (.iload 7, 2) := by decide +kernel
theorem dX12_cut_183 : decode cX12_cut 183 = .ok (.iadd, 1) := by decide +kernel
theorem dX12_cut_184 : decode cX12_cut 184 = .ok (.istore 6, 2) := by decide +kernel
theorem dX12_cut_186 : decode cX12_cut 186 = .ok (.iinc 7 1, 3) := by decide +kernel
theorem dX12_cut_189 : decode cX12_cut 189 = .ok (.goto (-30), 3) := by decide +kernel
theorem dX12_cut_192 : decode cX12_cut 192 = .ok (.aload_n 0, 1) := by decide +kernel
theorem dX12_cut_193 : decode cX12_cut 193 = .ok (.iload 6, 2) := by decide +kernel
theorem dX12_cut_195 : decode cX12_cut 195 = .ok (.iload_n 1, 1) := by decide +kernel
theorem dX12_cut_196 : decode cX12_cut 196 = .ok (.iconst 0, 1) := by decide +kernel
theorem dX12_cut_197 : decode cX12_cut 197 = .ok (.lload 4, 2) := by decide +kernel
theorem dX12_cut_199 : decode cX12_cut 199 = .ok (.invokevirtual 250, 3) := by decide +kernel
theorem dX12_cut_202 : decode cX12_cut 202 = .ok (.iload_n 1, 1) := by decide +kernel
theorem dX12_cut_203 : decode cX12_cut 203 = .ok (.iload_n 3, 1) := by decide +kernel
theorem dX12_cut_204 : decode cX12_cut 204 = .ok (.iadd, 1) := by decide +kernel
theorem dX12_cut_205 : decode cX12_cut 205 = .ok (.istore_n 1, 1) := by decide +kernel
theorem dX12_cut_206 : decode cX12_cut 206 = .ok (.goto 98, 3) := by decide +kernel
theorem dX12_cut_209 : decode cX12_cut 209 = .ok (.iload_n 2, 1) := by decide +kernel
theorem dX12_cut_210 : decode cX12_cut 210 = .ok (.invokestatic 235, 3) := by decide +kernel
theorem dX12_cut_213 : decode cX12_cut 213 = .ok (.ifCond .eq 75, 3) := by decide +kernel
theorem dX12_cut_216 : decode cX12_cut 216 = .ok (.iconst 0, 1) := by decide +kernel
theorem dX12_cut_217 : decode cX12_cut 217 = .ok (.istore_n 3, 1) := by decide +kernel
theorem dX12_cut_218 : decode cX12_cut 218 = .ok (.iconst 0, 1) := by decide +kernel
theorem dX12_cut_219 : decode cX12_cut 219 = .ok (.istore 4, 2) := by decide +kernel
theorem dX12_cut_221 : decode cX12_cut 221 = .ok (.aload_n 0, 1) := by decide +kernel
theorem dX12_cut_222 : decode cX12_cut 222 = .ok (.iload_n 1, 1) := by decide +kernel
theorem dX12_cut_223 : decode cX12_cut 223 = .ok (.iload_n 3, 1) := by decide +kernel
theorem dX12_cut_224 : decode cX12_cut 224 = .ok (.iadd, 1) := by decide +kernel
theorem dX12_cut_225 : decode cX12_cut 225 = .ok (.invokevirtual 246, 3) := by decide +kernel
theorem dX12_cut_228 : decode cX12_cut 228 = .ok (.invokestatic 235, 3) := by decide +kernel
theorem dX12_cut_231 : decode cX12_cut 231 = .ok (.ifCond .eq 32, 3) := by decide +kernel
theorem dX12_cut_234 : decode cX12_cut 234 = .ok (.iload_n 3, 1) := by decide +kernel
theorem dX12_cut_235 : decode cX12_cut 235 = .ok (.iconst 5, 1) := by decide +kernel
theorem dX12_cut_236 : decode cX12_cut 236 = .ok (.if_icmp .ge 21, 3) := by decide +kernel
theorem dX12_cut_239 : decode cX12_cut 239 = .ok (.bipush 10, 2) := by decide +kernel
theorem dX12_cut_241 : decode cX12_cut 241 = .ok (.iload 4, 2) := by decide +kernel
theorem dX12_cut_243 : decode cX12_cut 243 = .ok (.imul, 1) := by decide +kernel
theorem dX12_cut_244 : decode cX12_cut 244 = .ok (.aload_n 0, 1) := by decide +kernel
theorem dX12_cut_245 : decode cX12_cut 245 = .ok (.iload_n 1, 1) := by decide +kernel
theorem dX12_cut_246 : decode cX12_cut 246 = .ok (.iload_n 3, 1) := by decide +kernel
theorem dX12_cut_247 : decode cX12_cut 247 = .ok (.iadd, 1) := by decide +kernel
theorem dX12_cut_248 : decode cX12_cut 248 = .ok (.invokevirtual 246, 3) := by decide +kernel
theorem dX12_cut_251 : decode cX12_cut 251 = .ok (.iadd, 1) := by decide +kernel
theorem dX12_cut_252 : decode cX12_cut 252 = .ok (.bipush 48, 2) := by decide +kernel
theorem dX12_cut_254 : decode cX12_cut 254 = .ok (.isub, 1) := by decide +kernel
theorem dX12_cut_255 : decode cX12_cut 255 = .ok (.istore 4, 2) := by decide +kernel
theorem dX12_cut_257 : decode cX12_cut 257 = .ok (.iinc 3 1, 3) := by decide +kernel
theorem dX12_cut_260 : decode cX12_cut 260 = .ok (.goto (-39), 3) := by decide +kernel
theorem dX12_cut_263 : decode cX12_cut 263 = .ok (.aload_n 0, 1) := by decide +kernel
theorem dX12_cut_264 : decode cX12_cut 264 = .ok (.iload_n 3, 1) := by decide +kernel
theorem dX12_cut_265 : decode cX12_cut 265 = .ok (.iconst 5, 1) := by decide +kernel
theorem dX12_cut_266 : decode cX12_cut 266 = .ok (.if_icmp .le 7, 3) := by decide +kernel
theorem dX12_cut_269 : decode cX12_cut 269 = .ok (.iconst 3, 1) := by decide +kernel
theorem dX12_cut_270 : decode cX12_cut 270 = .ok (.goto 4, 3) := by decide +kernel
theorem dX12_cut_273 : decode cX12_cut 273 = .ok (.iconst 2, 1) := by decide +kernel
theorem dX12_cut_274 : decode cX12_cut 274 = .ok (.iload_n 1, 1) := by decide +kernel
theorem dX12_cut_275 : decode cX12_cut 275 = .ok (.iload 4, 2) := by decide +kernel
theorem dX12_cut_277 : decode cX12_cut 277 = .ok (.lconst 0, 1) := by decide +kernel
theorem dX12_cut_278 : decode cX12_cut 278 = .ok (.invokevirtual 250, 3) := by decide +kernel
theorem dX12_cut_281 : decode cX12_cut 281 = .ok (.iload_n 1, 1) := by decide +kernel
theorem dX12_cut_282 : decode cX12_cut 282 = .ok (.iload_n 3, 1) := by decide +kernel
theorem dX12_cut_283 : decode cX12_cut 283 = .ok (.iadd, 1) := by decide +kernel
theorem dX12_cut_284 : decode cX12_cut 284 = .ok (.istore_n 1, 1) := by decide +kernel
theorem dX12_cut_285 : decode cX12_cut 285 = .ok (.goto 19, 3) := by decide +kernel
theorem dX12_cut_288 : decode cX12_cut 288 = .ok (.iload_n 1, 1) := by decide +kernel
theorem dX12_cut_289 : decode cX12_cut 289 = .ok (.aload_n 0, 1) := by decide +kernel
theorem dX12_cut_290 : decode cX12_cut 290 = .ok (.iload_n 1, 1) := by decide +kernel
theorem dX12_cut_291 : decode cX12_cut 291 = .ok (.iload_n 2, 1) := by decide +kernel
theorem dX12_cut_292 : decode cX12_cut 292 = .ok (.aload_n 0, 1) := by decide +kernel
theorem dX12_cut_293 : decode cX12_cut 293 = .ok (.iload_n 1, 1) := by decide +kernel
theorem dX12_cut_294 : decode cX12_cut 294 = .ok (.iconst 1, 1) := by decide +kernel
theorem dX12_cut_295 : decode cX12_cut 295 = .ok (.iadd, 1) := by decide +kernel
theorem dX12_cut_296 : decode cX12_cut 296 = .ok (.invokevirtual 246, 3) := by decide +kernel
theorem dX12_cut_299 : decode cX12_cut 299 = .ok (.invokevirtual 257, 3) := by decide +kernel
theorem dX12_cut_302 : decode cX12_cut 302 = .ok (.iadd, 1) := by decide +kernel
theorem dX12_cut_303 : decode cX12_cut 303 = .ok (.istore_n 1, 1) := by decide +kernel
theorem dX12_cut_304 : decode cX12_cut 304 = .ok (.goto (-297), 3) := by decide +kernel
theorem dX12_cut_307 : decode cX12_cut 307 = .ok (.return_, 1) := by decide +kernel
theorem dX12_sign_0 : decode cX12_sign 0 = .ok (.iload_n 3, 1) := by decide +kernel
theorem dX12_sign_1 : decode cX12_sign 1 = .ok (.bipush 61, 2) := by decide +kernel
theorem dX12_sign_3 : decode cX12_sign 3 = .ok (.if_icmp .eq 7, 3) := by decide +kernel
theorem dX12_sign_6 : decode cX12_sign 6 = .ok (.iconst 0, 1) := by decide +kernel
theorem dX12_sign_7 : decode cX12_sign 7 = .ok (.goto 37, 3) := by decide +kernel
theorem dX12_sign_10 : decode cX12_sign 10 = .ok (.iload_n 2, 1) := by decide +kernel
theorem dX12_sign_11 : decode cX12_sign 11 = .ok (.bipush 61, 2) := by decide +kernel
theorem dX12_sign_13 : decode cX12_sign 13 = .ok (.if_icmp .ne 8, 3) := by decide +kernel
theorem dX12_sign_16 : decode cX12_sign 16 = .ok (.bipush 12, 2) := by decide +kernel
theorem dX12_sign_18 : decode cX12_sign 18 = .ok (.goto 26, 3) := by decide +kernel
theorem dX12_sign_21 : decode cX12_sign 21 = .ok (.iload_n 2, 1) := by decide +kernel
theorem dX12_sign_22 : decode cX12_sign 22 = .ok (.bipush 33, 2) := by decide +kernel
theorem dX12_sign_24 : decode cX12_sign 24 = .ok (.if_icmp .ne 8, 3) := by decide +kernel
theorem dX12_sign_27 : decode cX12_sign 27 = .ok (.bipush 13, 2) := by decide +kernel
theorem dX12_sign_29 : decode cX12_sign 29 = .ok (.goto 15, 3) := by decide +kernel
theorem dX12_sign_32 : decode cX12_sign 32 = .ok (.iload_n 2, 1) := by decide +kernel
theorem dX12_sign_33 : decode cX12_sign 33 = .ok (.bipush 60, 2) := by decide +kernel
theorem dX12_sign_35 : decode cX12_sign 35 = .ok (.if_icmp .ne 8, 3) := by decide +kernel
theorem dX12_sign_38 : decode cX12_sign 38 = .ok (.bipush 15, 2) := by decide +kernel
theorem dX12_sign_40 : decode cX12_sign 40 = .ok (.goto 4, 3) := by decide +kernel
theorem dX12_sign_43 : decode cX12_sign 43 = .ok (.iconst 0, 1) := by decide +kernel
theorem dX12_sign_44 : decode cX12_sign 44 = .ok (.istore 4, 2) := by decide +kernel
