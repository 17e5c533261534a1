theorem dX12_sign_46 : decode cX12_sign 46 = .ok (.iconst 3, 1) := by decide +kernel
theorem dX12_sign_47 : decode cX12_sign 47 = .ok (.istore 5, 2) := by decide +kernel
theorem dX12_sign_49 : decode cX12_sign 49 = .ok (.iload 4, 2) := by decide +kernel
theorem dX12_sign_51 : decode cX12_sign 51 = .ok (.ifCond .le 10, 3) := by decide +kernel
theorem dX12_sign_54 : decode cX12_sign 54 = .ok (.iload 4, 2) := by decide +kernel
theorem dX12_sign_56 : decode cX12_sign 56 = .ok (.istore 5, 2) := by decide +kernel
theorem dX12_sign_58 : decode cX12_sign 58 = .ok (.goto 115, 3) := by decide +kernel
theorem dX12_sign_61 : decode cX12_sign 61 = .ok (.iload_n 2, 1) := by decide +kernel
theorem dX12_sign_62 : decode cX12_sign 62 = .ok (.bipush 59, 2) := by decide +kernel
theorem dX12_sign_64 : decode cX12_sign 64 = .ok (.if_icmp .ne 9, 3) := by decide +kernel
theorem dX12_sign_67 : decode cX12_sign 67 = .ok (.iconst 4, 1) := by decide +kernel
theorem dX12_sign_68 : decode cX12_sign 68 = .ok (.istore 5, 2) := by decide +kernel
theorem dX12_sign_70 : decode cX12_sign 70 = .ok (.goto 103, 3) := by decide +kernel
theorem dX12_sign_73 : decode cX12_sign 73 = .ok (.iload_n 2, 1) := by decide +kernel
theorem dX12_sign_74 : decode cX12_sign 74 = .ok (.bipush 58, 2) := by decide +kernel
theorem dX12_sign_76 : decode cX12_sign 76 = .ok (.if_icmp .ne 9, 3) := by decide +kernel
theorem dX12_sign_79 : decode cX12_sign 79 = .ok (.iconst 5, 1) := by decide +kernel
theorem dX12_sign_80 : decode cX12_sign 80 = .ok (.istore 5, 2) := by decide +kernel
theorem dX12_sign_82 : decode cX12_sign 82 = .ok (.goto 91, 3) := by decide +kernel
theorem dX12_sign_85 : decode cX12_sign 85 = .ok (.iload_n 2, 1) := by decide +kernel
theorem dX12_sign_86 : decode cX12_sign 86 = .ok (.bipush 44, 2) := by decide +kernel
theorem dX12_sign_88 : decode cX12_sign 88 = .ok (.if_icmp .ne 10, 3) := by decide +kernel
theorem dX12_sign_91 : decode cX12_sign 91 = .ok (.bipush 6, 2) := by decide +kernel
theorem dX12_sign_93 : decode cX12_sign 93 = .ok (.istore 5, 2) := by decide +kernel
theorem dX12_sign_95 : decode cX12_sign 95 = .ok (.goto 78, 3) := by decide +kernel
theorem dX12_sign_98 : decode cX12_sign 98 = .ok (.iload_n 2, 1) := by decide +kernel
theorem dX12_sign_99 : decode cX12_sign 99 = .ok (.bipush 40, 2) := by decide +kernel
theorem dX12_sign_101 : decode cX12_sign 101 = .ok (.if_icmp .ne 10, 3) := by decide +kernel
theorem dX12_sign_104 : decode cX12_sign 104 = .ok (.bipush 7, 2) := by decide +kernel
theorem dX12_sign_106 : decode cX12_sign 106 = .ok (.istore 5, 2) := by decide +kernel
theorem dX12_sign_108 : decode cX12_sign 108 = .ok (.goto 65, 3) := by decide +kernel
theorem dX12_sign_111 : decode cX12_sign 111 = .ok (.iload_n 2, 1) := by decide +kernel
theorem dX12_sign_112 : decode cX12_sign 112 = .ok (.bipush 41, 2) := by decide +kernel
theorem dX12_sign_114 : decode cX12_sign 114 = .ok (.if_icmp .ne 10, 3) := by decide +kernel
theorem dX12_sign_117 : decode cX12_sign 117 = .ok (.bipush 8, 2) := by decide +kernel
theorem dX12_sign_119 : decode cX12_sign 119 = .ok (.istore 5, 2) := by decide +kernel
theorem dX12_sign_121 : decode cX12_sign 121 = .ok (.goto 52, 3) := by decide +kernel
theorem dX12_sign_124 : decode cX12_sign 124 = .ok (.iload_n 2, 1) := by decide +kernel
theorem dX12_sign_125 : decode cX12_sign 125 = .ok (.bipush 43, 2) := by decide +kernel
theorem dX12_sign_127 : decode cX12_sign 127 = .ok (.if_icmp .ne 10, 3) := by decide +kernel
theorem dX12_sign_130 : decode cX12_sign 130 = .ok (.bipush 9, 2) := by decide +kernel
theorem dX12_sign_132 : decode cX12_sign 132 = .ok (.istore 5, 2) := by decide +kernel
theorem dX12_sign_134 : decode cX12_sign 134 = .ok (.goto 39, 3) := by decide +kernel
theorem dX12_sign_137 : decode cX12_sign 137 = .ok (.iload_n 2, 1) := by decide +kernel
theorem dX12_sign_138 : decode cX12_sign 138 = .ok (.bipush 45, 2) := by decide +kernel
theorem dX12_sign_140 : decode cX12_sign 140 = .ok (.if_icmp .ne 10, 3) := by decide +kernel
theorem dX12_sign_143 : decode cX12_sign 143 = .ok (.bipush 10, 2) := by decide +kernel
theorem dX12_sign_145 : decode cX12_sign 145 = .ok (.istore 5, 2) := by decide +kernel
theorem dX12_sign_147 : decode cX12_sign 147 = .ok (.goto 26, 3) := by decide +kernel
theorem dX12_sign_150 : decode cX12_sign 150 = .ok (.iload_n 2, 1) := by decide +kernel
theorem dX12_sign_151 : decode cX12_sign 151 = .ok (.bipush 42, 2) := by decide +kernel
theorem dX12_sign_153 : decode cX12_sign 153 = .ok (.if_icmp .ne 10, 3) := by decide +kernel
theorem dX12_sign_156 : decode cX12_sign 156 = .ok (.bipush 11, 2) := by decide +kernel
theorem dX12_sign_158 : decode cX12_sign 158 = .ok (.istore 5, 2) := by decide +kernel
theorem dX12_sign_160 : decode cX12_sign 160 = .ok (.goto 13, 3) := by decide +kernel
theorem dX12_sign_163 : decode cX12_sign 163 = .ok (.iload_n 2, 1) := by decide +kernel
theorem dX12_sign_164 : decode cX12_sign 164 = .ok (.bipush 60, 2) := by decide +kernel
theorem dX12_sign_166 : decode cX12_sign 166 = .ok (.if_icmp .ne 7, 3) := by decide +kernel
theorem dX12_sign_169 : decode cX12_sign 169 = .ok (.bipush 14, 2) := by decide +kernel
theorem dX12_sign_171 : decode cX12_sign 171 = .ok (.istore 5, 2) := by decide +kernel
theorem dX12_sign_173 : decode cX12_sign 173 = .ok (.aload_n 0, 1) := by decide +kernel
theorem dX12_sign_174 : decode cX12_sign 174 = .ok (.iload 5, 2) := by decide +kernel
theorem dX12_sign_176 : decode cX12_sign 176 = .ok (.iload_n 1, 1) := by decide +kernel
theorem dX12_sign_177 : decode cX12_sign 177 = .ok (.iconst 0, 1) := by decide +kernel
theorem dX12_sign_178 : decode cX12_sign 178 = .ok (.lconst 0, 1) := by decide +kernel
theorem dX12_sign_179 : decode cX12_sign 179 = .ok (.invokevirtual 250, 3) := by decide +kernel
theorem dX12_sign_182 : decode cX12_sign 182 = .ok (.iload 4, 2) := by decide +kernel
theorem dX12_sign_184 : decode cX12_sign 184 = .ok (.ifCond .le 7, 3) := by decide +kernel
theorem dX12_sign_187 : decode cX12_sign 187 = .ok (.iconst 2, 1) := by decide +kernel
theorem dX12_sign_188 : decode cX12_sign 188 = .ok (.goto 4, 3) := by decide +kernel
theorem dX12_sign_191 : decode cX12_sign 191 = .ok (.iconst 1, 1) := by decide +kernel
theorem dX12_sign_192 : decode cX12_sign 192 = .ok (.ireturn, 1) := by decide +kernel
theorem dX12_is_0 : decode cX12_is 0 = .ok (.aload_n 0, 1) := by decide +kernel
theorem dX12_is_1 : decode cX12_is 1 = .ok (.getfield 261, 3) := by decide +kernel
theorem dX12_is_4 : decode cX12_is 4 = .ok (.ifCond .ne 20, 3) := by decide +kernel
theorem dX12_is_7 : decode cX12_is 7 = .ok (.aload_n 0, 1) := by decide +kernel
theorem dX12_is_8 : decode cX12_is 8 = .ok (.getfield 20, 3) := by decide +kernel
theorem dX12_is_11 : decode cX12_is 11 = .ok (.aload_n 0, 1) := by decide +kernel
theorem dX12_is_12 : decode cX12_is 12 = .ok (.getfield 264, 3) := by decide +kernel
theorem dX12_is_15 : decode cX12_is 15 = .ok (.iaload, 1) := by decide +kernel
theorem dX12_is_16 : decode cX12_is 16 = .ok (.iload_n 1, 1) := by decide +kernel
theorem dX12_is_17 : decode cX12_is 17 = .ok (.if_icmp .ne 7, 3) := by decide +kernel
theorem dX12_is_20 : decode cX12_is 20 = .ok (.iconst 1, 1) := by decide +kernel
theorem dX12_is_21 : decode cX12_is 21 = .ok (.goto 4, 3) := by decide +kernel
theorem dX12_is_24 : decode cX12_is 24 = .ok (.iconst 0, 1) := by decide +kernel
theorem dX12_is_25 : decode cX12_is 25 = .ok (.ireturn, 1) := by decide +kernel
theorem dX12_fail_0 : decode cX12_fail 0 = .ok (.aload_n 0, 1) := by decide +kernel
theorem dX12_fail_1 : decode cX12_fail 1 = .ok (.getfield 261, 3) := by decide +kernel
theorem dX12_fail_4 : decode cX12_fail 4 = .ok (.ifCond .le 4, 3) := by decide +kernel
theorem dX12_fail_7 : decode cX12_fail 7 = .ok (.return_, 1) := by decide +kernel
theorem dX12_fail_8 : decode cX12_fail 8 = .ok (.aload_n 0, 1) := by decide +kernel
theorem dX12_fail_9 : decode cX12_fail 9 = .ok (.iload_n 1, 1) := by decide +kernel
theorem dX12_fail_10 : decode cX12_fail 10 = .ok (.putfield 261, 3) := by decide +kernel
theorem dX12_fail_13 : decode cX12_fail 13 = .ok (.aload_n 0, 1) := by decide +kernel
theorem dX12_fail_14 : decode cX12_fail 14 = .ok (.aload_n 0, 1) := by decide +kernel
theorem dX12_fail_15 : decode cX12_fail 15 = .ok (.getfield 24, 3) := by decide +kernel
theorem dX12_fail_18 : decode cX12_fail 18 = .ok (.aload_n 0, 1) := by decide +kernel
theorem dX12_fail_19 : decode cX12_fail 19 = .ok (.getfield 264, 3) := by decide +kernel
theorem dX12_fail_22 : decode cX12_fail 22 = .ok (.iaload, 1) := by decide +kernel
theorem dX12_fail_23 : decode cX12_fail 23 = .ok (.putfield 267, 3) := by decide +kernel
theorem dX12_fail_26 : decode cX12_fail 26 = .ok (.return_, 1) := by decide +kernel
theorem dX12_wrong_0 : decode cX12_wrong 0 = .ok (.aload_n 0, 1) := by decide +kernel
theorem dX12_wrong_1 : decode cX12_wrong 1 = .ok (.getfield 24, 3) := by decide +kernel
theorem dX12_wrong_4 : decode cX12_wrong 4 = .ok (.iload_n 2, 1) := by decide +kernel
theorem dX12_wrong_5 : decode cX12_wrong 5 = .ok (.iaload, 1) := by decide +kernel
theorem dX12_wrong_6 : decode cX12_wrong 6 = .ok (.istore_n 3, 1) := by decide +kernel
theorem dX12_wrong_7 : decode cX12_wrong 7 = .ok (.aload_n 0, 1) := by decide +kernel
theorem dX12_wrong_8 : decode cX12_wrong 8 = .ok (.getfield 261, 3) := by decide +kernel
theorem dX12_wrong_11 : decode cX12_wrong 11 = .ok (.ifCond .gt 34, 3) := by decide +kernel
theorem dX12_wrong_14 : decode cX12_wrong 14 = .ok (.aload_n 0, 1) := by decide +kernel
theorem dX12_wrong_15 : decode cX12_wrong 15 = .ok (.getfield 270, 3) := by decide +kernel
theorem dX12_wrong_18 : decode cX12_wrong 18 = .ok (.ifCond .eq 28, 3) := by decide +kernel
theorem dX12_wrong_21 : decode cX12_wrong 21 = .ok (.iload_n 3, 1) := by decide +kernel
theorem dX12_wrong_22 : decode cX12_wrong 22 = .ok (.aload_n 0, 1) := by decide +kernel
theorem dX12_wrong_23 : decode cX12_wrong 23 = .ok (.getfield 273, 3) := by decide +kernel
theorem dX12_wrong_26 : decode cX12_wrong 26 = .ok (.if_icmp .gt 19, 3) := by decide +kernel
theorem dX12_wrong_29 : decode cX12_wrong 29 = .ok (.iload_n 3, 1) := by decide +kernel
theorem dX12_wrong_30 : decode cX12_wrong 30 = .ok (.aload_n 0, 1) := by decide +kernel
theorem dX12_wrong_31 : decode cX12_wrong 31 = .ok (.getfield 273, 3) := by decide +kernel
theorem dX12_wrong_34 : decode cX12_wrong 34 = .ok (.if_icmp .ne 12, 3) := by decide +kernel
theorem dX12_wrong_37 : decode cX12_wrong 37 = .ok (.iload_n 1, 1) := by decide +kernel
theorem dX12_wrong_38 : decode cX12_wrong 38 = .ok (.aload_n 0, 1) := by decide +kernel
theorem dX12_wrong_39 : decode cX12_wrong 39 = .ok (.getfield 270, 3) := by decide +kernel
theorem dX12_wrong_42 : decode cX12_wrong 42 = .ok (.if_icmp .lt 4, 3) := by decide +kernel
theorem dX12_wrong_45 : decode cX12_wrong 45 = .ok (.return_, 1) := by decide +kernel
theorem dX12_wrong_46 : decode cX12_wrong 46 = .ok (.aload_n 0, 1) := by decide +kernel
theorem dX12_wrong_47 : decode cX12_wrong 47 = .ok (.iload_n 1, 1) := by decide +kernel
theorem dX12_wrong_48 : decode cX12_wrong 48 = .ok (.putfield 270, 3) := by decide +kernel
theorem dX12_wrong_51 : decode cX12_wrong 51 = .ok (.aload_n 0, 1) := by decide +kernel
theorem dX12_wrong_52 : decode cX12_wrong 52 = .ok (.iload_n 3, 1) := by decide +kernel
theorem dX12_wrong_53 : decode cX12_wrong 53 = .ok (.putfield 273, 3) := by decide +kernel
theorem dX12_wrong_56 : decode cX12_wrong 56 = .ok (.return_, 1) := by decide +kernel
theorem dX12_next_0 : decode cX12_next 0 = .ok (.aload_n 0, 1) := by decide +kernel
theorem dX12_next_1 : decode cX12_next 1 = .ok (.getfield 264, 3) := by decide +kernel
theorem dX12_next_4 : decode cX12_next 4 = .ok (.sipush 1000, 3) := by decide +kernel
theorem dX12_next_7 : decode cX12_next 7 = .ok (.if_icmp .ne 11, 3) := by decide +kernel
theorem dX12_next_10 : decode cX12_next 10 = .ok (.aload_n 0, 1) := by decide +kernel
theorem dX12_next_11 : decode cX12_next 11 = .ok (.iconst 2, 1) := by decide +kernel
theorem dX12_next_12 : decode cX12_next 12 = .ok (.invokevirtual 276, 3) := by decide +kernel
theorem dX12_next_15 : decode cX12_next 15 = .ok (.goto 13, 3) := by decide +kernel
theorem dX12_next_18 : decode cX12_next 18 = .ok (.aload_n 0, 1) := by decide +kernel
theorem dX12_next_19 : decode cX12_next 19 = .ok (.dup, 1) := by decide +kernel
theorem dX12_next_20 : decode cX12_next 20 = .ok (.getfield 264, 3) := by decide +kernel
theorem dX12_next_23 : decode cX12_next 23 = .ok (.iconst 1, 1) := by decide +kernel
theorem dX12_next_24 : decode cX12_next 24 = .ok (.iadd, 1) := by decide +kernel
theorem dX12_next_25 : decode cX12_next 25 = .ok (.putfield 264, 3) := by decide +kernel
theorem dX12_next_28 : decode cX12_next 28 = .ok (.return_, 1) := by decide +kernel
theorem dX12_must_0 : decode cX12_must 0 = .ok (.aload_n 0, 1) := by decide +kernel
theorem dX12_must_1 : decode cX12_must 1 = .ok (.iload_n 1, 1) := by decide +kernel
theorem dX12_must_2 : decode cX12_must 2 = .ok (.invokevirtual 279, 3) := by decide +kernel
theorem dX12_must_5 : decode cX12_must 5 = .ok (.ifCond .eq 10, 3) := by decide +kernel
theorem dX12_must_8 : decode cX12_must 8 = .ok (.aload_n 0, 1) := by decide +kernel
theorem dX12_must_9 : decode cX12_must 9 = .ok (.invokevirtual 282, 3) := by decide +kernel
theorem dX12_must_12 : decode cX12_must 12 = .ok (.goto 8, 3) := by decide +kernel
theorem dX12_must_15 : decode cX12_must 15 = .ok (.aload_n 0, 1) := by decide +kernel
theorem dX12_must_16 : decode cX12_must 16 = .ok (.iconst 1, 1) := by decide +kernel
theorem dX12_must_17 : decode cX12_must 17 = .ok (.invokevirtual 276, 3) := by decide +kernel
theorem dX12_must_20 : decode cX12_must 20 = .ok (.return_, 1) := by decide +kernel
theorem dX12_named_0 : decode cX12_named 0 = .ok (.iconst 0, 1) := by decide +kernel
theorem dX12_named_1 : decode cX12_named 1 = .ok (.istore_n 3, 1) := by decide +kernel
theorem dX12_named_2 : decode cX12_named 2 = .ok (.iload_n 3, 1) := by decide +kernel
theorem dX12_named_3 : decode cX12_named 3 = .ok (.aload_n 0, 1) := by decide +kernel
theorem dX12_named_4 : decode cX12_named 4 = .ok (.getfield 285, 3) := by decide +kernel
theorem dX12_named_7 : decode cX12_named 7 = .ok (.if_icmp .ge 42, 3) := by decide +kernel
theorem dX12_named_10 : decode cX12_named 10 = .ok (.aload_n 0, 1) := by decide +kernel
theorem dX12_named_11 : decode cX12_named 11 = .ok (.getfield 43, 3) := by decide +kernel
theorem dX12_named_14 : decode cX12_named 14 = .ok (.iload_n 3, 1) := by decide +kernel
theorem dX12_named_15 : decode cX12_named 15 = .ok (.laload, 1) := by decide +kernel
theorem dX12_named_16 : decode cX12_named 16 = .ok (.aload_n 0, 1) := by decide +kernel
theorem dX12_named_17 : decode cX12_named 17 = .ok (.getfield 30, 3) := by decide +kernel
theorem dX12_named_20 : decode cX12_named 20 = .ok (.iload_n 1, 1) := by decide +kernel
theorem dX12_named_21 : decode cX12_named 21 = .ok (.laload, 1) := by decide +kernel
theorem dX12_named_22 : decode cX12_named 22 = .ok (.lcmp, 1) := by decide +kernel
theorem dX12_named_23 : decode cX12_named 23 = .ok (.ifCond .ne 20, 3) := by decide +kernel
theorem dX12_named_26 : decode cX12_named 26 = .ok (.aload_n 0, 1) := by decide +kernel
theorem dX12_named_27 : decode cX12_named 27 = .ok (.getfield 46, 3) := by decide +kernel
theorem dX12_named_30 : decode cX12_named 30 = .ok (.iload_n 3, 1) := by decide +kernel
theorem dX12_named_31 : decode cX12_named 31 = .ok (.iaload, 1) := by decide +kernel
theorem dX12_named_32 : decode cX12_named 32 = .ok (.iload_n 2, 1) := by decide +kernel
theorem dX12_named_33 : decode cX12_named 33 = .ok (.if_icmp .ne 10, 3) := by decide +kernel
theorem dX12_named_36 : decode cX12_named 36 = .ok (.aload_n 0, 1) := by decide +kernel
theorem dX12_named_37 : decode cX12_named 37 = .ok (.getfield 49, 3) := by decide +kernel
theorem dX12_named_40 : decode cX12_named 40 = .ok (.iload_n 3, 1) := by decide +kernel
theorem dX12_named_41 : decode cX12_named 41 = .ok (.iaload, 1) := by decide +kernel
theorem dX12_named_42 : decode cX12_named 42 = .ok (.ireturn, 1) := by decide +kernel
theorem dX12_named_43 : decode cX12_named 43 = .ok (.iinc 3 1, 3) := by decide +kernel
theorem dX12_named_46 : decode cX12_named 46 = .ok (.goto (-44), 3) := by decide +kernel
theorem dX12_named_49 : decode cX12_named 49 = .ok (.aload_n 0, 1) := by decide +kernel
theorem dX12_named_50 : decode cX12_named 50 = .ok (.iconst 4, 1) := by decide +kernel
theorem dX12_named_51 : decode cX12_named 51 = .ok (.iload_n 1, 1) := by decide +kernel
theorem dX12_named_52 : decode cX12_named 52 = .ok (.invokevirtual 288, 3) := by decide +kernel
theorem dX12_named_55 : decode cX12_named 55 = .ok (.iconst 0, 1) := by decide +kernel
theorem dX12_named_56 : decode cX12_named 56 = .ok (.ireturn, 1) := by decide +kernel
theorem dX12_namedNext_0 : decode cX12_namedNext 0 = .ok (.aload_n 0, 1) := by decide +kernel
theorem dX12_namedNext_1 : decode cX12_namedNext 1 = .ok (.getfield 264, 3) := by decide +kernel
theorem dX12_namedNext_4 : decode cX12_namedNext 4 = .ok (.istore_n 2, 1) := by decide +kernel
theorem dX12_namedNext_5 : decode cX12_namedNext 5 = .ok (.aload_n 0, 1) := by decide +kernel
theorem dX12_namedNext_6 : decode cX12_namedNext 6 = .ok (.iconst 1, 1) := by decide +kernel
theorem dX12_namedNext_7 : decode cX12_namedNext 7 = .ok (.invokevirtual 292, 3) := by decide +kernel
theorem dX12_namedNext_10 : decode cX12_namedNext 10 = .ok (.aload_n 0, 1) := by decide +kernel
theorem dX12_namedNext_11 : decode cX12_namedNext 11 = .ok (.getfield 261, 3) := by decide +kernel
theorem dX12_namedNext_14 : decode cX12_namedNext 14 = .ok (.ifCond .le 7, 3) := by decide +kernel
theorem dX12_namedNext_17 : decode cX12_namedNext 17 = .ok (.iconst 0, 1) := by decide +kernel
theorem dX12_namedNext_18 : decode cX12_namedNext 18 = .ok (.goto 9, 3) := by decide +kernel
theorem dX12_namedNext_21 : decode cX12_namedNext 21 = .ok (.aload_n 0, 1) := by decide +kernel
theorem dX12_namedNext_22 : decode cX12_namedNext 22 = .ok (.iload_n 2, 1) := by decide +kernel
theorem dX12_namedNext_23 : decode cX12_namedNext 23 = .ok (.iload_n 1, 1) := by decide +kernel
theorem dX12_namedNext_24 : decode cX12_namedNext 24 = .ok (.invokevirtual 295, 3) := by decide +kernel
theorem dX12_namedNext_27 : decode cX12_namedNext 27 = .ok (.ireturn, 1) := by decide +kernel
theorem dX12_tells_0 : decode cX12_tells 0 = .ok (.iconst 0, 1) := by decide +kernel
theorem dX12_tells_1 : decode cX12_tells 1 = .ok (.istore_n 3, 1) := by decide +kernel
theorem dX12_tells_2 : decode cX12_tells 2 = .ok (.iconst 0, 1) := by decide +kernel
theorem dX12_tells_3 : decode cX12_tells 3 = .ok (.istore 4, 2) := by decide +kernel
theorem dX12_tells_5 : decode cX12_tells 5 = .ok (.iload 4, 2) := by decide +kernel
theorem dX12_tells_7 : decode cX12_tells 7 = .ok (.aload_n 0, 1) := by decide +kernel
theorem dX12_tells_8 : decode cX12_tells 8 = .ok (.getfield 285, 3) := by decide +kernel
theorem dX12_tells_11 : decode cX12_tells 11 = .ok (.if_icmp .ge 36, 3) := by decide +kernel
theorem dX12_tells_14 : decode cX12_tells 14 = .ok (.iload_n 3, 1) := by decide +kernel
theorem dX12_tells_15 : decode cX12_tells 15 = .ok (.ifCond .ne 20, 3) := by decide +kernel
theorem dX12_tells_18 : decode cX12_tells 18 = .ok (.aload_n 0, 1) := by decide +kernel
theorem dX12_tells_19 : decode cX12_tells 19 = .ok (.getfield 43, 3) := by decide +kernel
theorem dX12_tells_22 : decode cX12_tells 22 = .ok (.iload 4, 2) := by decide +kernel
theorem dX12_tells_24 : decode cX12_tells 24 = .ok (.laload, 1) := by decide +kernel
theorem dX12_tells_25 : decode cX12_tells 25 = .ok (.aload_n 0, 1) := by decide +kernel
theorem dX12_tells_26 : decode cX12_tells 26 = .ok (.getfield 30, 3) := by decide +kernel
theorem dX12_tells_29 : decode cX12_tells 29 = .ok (.iload_n 1, 1) := by decide +kernel
theorem dX12_tells_30 : decode cX12_tells 30 = .ok (.laload, 1) := by decide +kernel
theorem dX12_tells_31 : decode cX12_tells 31 = .ok (.lcmp, 1) := by decide +kernel
theorem dX12_tells_32 : decode cX12_tells 32 = .ok (.ifCond .ne 7, 3) := by decide +kernel
theorem dX12_tells_35 : decode cX12_tells 35 = .ok (.iconst 1, 1) := by decide +kernel
theorem dX12_tells_36 : decode cX12_tells 36 = .ok (.goto 4, 3) := by decide +kernel
theorem dX12_tells_39 : decode cX12_tells 39 = .ok (.iconst 0, 1) := by decide +kernel
theorem dX12_tells_40 : decode cX12_tells 40 = .ok (.istore_n 3, 1) := by decide +kernel
theorem dX12_tells_41 : decode cX12_tells 41 = .ok (.iinc 4 1, 3) := by decide +kernel
theorem dX12_tells_44 : decode cX12_tells 44 = .ok (.goto (-39), 3) := by decide +kernel
theorem dX12_tells_47 : decode cX12_tells 47 = .ok (.iload_n 3, 1) := by decide +kernel
theorem dX12_tells_48 : decode cX12_tells 48 = .ok (.ifCond .eq 10, 3) := by decide +kernel
theorem dX12_tells_51 : decode cX12_tells 51 = .ok (.aload_n 0, 1) := by decide +kernel
theorem dX12_tells_52 : decode cX12_tells 52 = .ok (.iconst 3, 1) := by decide +kernel
theorem dX12_tells_53 : decode cX12_tells 53 = .ok (.iload_n 1, 1) := by decide +kernel
theorem dX12_tells_54 : decode cX12_tells 54 = .ok (.invokevirtual 288, 3) := by decide +kernel
theorem dX12_tells_57 : decode cX12_tells 57 = .ok (.return_, 1) := by decide +kernel
theorem dX12_tells_58 : decode cX12_tells 58 = .ok (.aload_n 0, 1) := by decide +kernel
theorem dX12_tells_59 : decode cX12_tells 59 = .ok (.getfield 43, 3) := by decide +kernel
theorem dX12_tells_62 : decode cX12_tells 62 = .ok (.aload_n 0, 1) := by decide +kernel
theorem dX12_tells_63 : decode cX12_tells 63 = .ok (.getfield 285, 3) := by decide +kernel
theorem dX12_tells_66 : decode cX12_tells 66 = .ok (.aload_n 0, 1) := by decide +kernel
theorem dX12_tells_67 : decode cX12_tells 67 = .ok (.getfield 30, 3) := by decide +kernel
theorem dX12_tells_70 : decode cX12_tells 70 = .ok (.iload_n 1, 1) := by decide +kernel
theorem dX12_tells_71 : decode cX12_tells 71 = .ok (.laload, 1) := by decide +kernel
theorem dX12_tells_72 : decode cX12_tells 72 = .ok (.lastore, 1) := by decide +kernel
theorem dX12_tells_73 : decode cX12_tells 73 = .ok (.aload_n 0, 1) := by decide +kernel
theorem dX12_tells_74 : decode cX12_tells 74 = .ok (.getfield 46, 3) := by decide +kernel
theorem dX12_tells_77 : decode cX12_tells 77 = .ok (.aload_n 0, 1) := by decide +kernel
theorem dX12_tells_78 : decode cX12_tells 78 = .ok (.getfield 285, 3) := by decide +kernel
theorem dX12_tells_81 : decode cX12_tells 81 = .ok (.iload_n 2, 1) := by decide +kernel
theorem dX12_tells_82 : decode cX12_tells 82 = .ok (.iastore, 1) := by decide +kernel
theorem dX12_tells_83 : decode cX12_tells 83 = .ok (.aload_n 0, 1) := by decide +kernel
theorem dX12_tells_84 : decode cX12_tells 84 = .ok (.getfield 49, 3) := by decide +kernel
theorem dX12_tells_87 : decode cX12_tells 87 = .ok (.aload_n 0, 1) := by decide +kernel
theorem dX12_tells_88 : decode cX12_tells 88 = .ok (.getfield 285, 3) := by decide +kernel
theorem dX12_tells_91 : decode cX12_tells 91 = .ok (.aload_n 0, 1) := by decide +kernel
theorem dX12_tells_92 : decode cX12_tells 92 = .ok (.getfield 40, 3) := by decide +kernel
theorem dX12_tells_95 : decode cX12_tells 95 = .ok (.bipush 9, 2) := by decide +kernel
theorem dX12_tells_97 : decode cX12_tells 97 = .ok (.aload_n 0, 1) := by decide +kernel
theorem dX12_tells_98 : decode cX12_tells 98 = .ok (.getfield 299, 3) := by decide +kernel
theorem dX12_tells_101 : decode cX12_tells 101 = .ok (.imul, 1) := by decide +kernel
theorem dX12_tells_102 : decode cX12_tells 102 = .ok (.iload_n 2, 1) := by decide +kernel
theorem dX12_tells_103 : decode cX12_tells 103 = .ok (.iadd, 1) := by decide +kernel
theorem dX12_tells_104 : decode cX12_tells 104 = .ok (.iaload, 1) := by decide +kernel
theorem dX12_tells_105 : decode cX12_tells 105 = .ok (.iastore, 1) := by decide +kernel
theorem dX12_tells_106 : decode cX12_tells 106 = .ok (.aload_n 0, 1) := by decide +kernel
theorem dX12_tells_107 : decode cX12_tells 107 = .ok (.dup, 1) := by decide +kernel
theorem dX12_tells_108 : decode cX12_tells 108 = .ok (.getfield 285, 3) := by decide +kernel
theorem dX12_tells_111 : decode cX12_tells 111 = .ok (.iconst 1, 1) := by decide +kernel
theorem dX12_tells_112 : decode cX12_tells 112 = .ok (.iadd, 1) := by decide +kernel
theorem dX12_tells_113 : decode cX12_tells 113 = .ok (.putfield 285, 3) := by decide +kernel
theorem dX12_tells_116 : decode cX12_tells 116 = .ok (.return_, 1) := by decide +kernel
theorem dX12_isFull_0 : decode cX12_isFull 0 = .ok (.aload_n 0, 1) := by decide +kernel
theorem dX12_isFull_1 : decode cX12_isFull 1 = .ok (.getfield 40, 3) := by decide +kernel
theorem dX12_isFull_4 : decode cX12_isFull 4 = .ok (.bipush 9, 2) := by decide +kernel
theorem dX12_isFull_6 : decode cX12_isFull 6 = .ok (.aload_n 0, 1) := by decide +kernel
theorem dX12_isFull_7 : decode cX12_isFull 7 = .ok (.getfield 299, 3) := by decide +kernel
theorem dX12_isFull_10 : decode cX12_isFull 10 = .ok (.imul, 1) := by decide +kernel
theorem dX12_isFull_11 : decode cX12_isFull 11 = .ok (.iload_n 1, 1) := by decide +kernel
theorem dX12_isFull_12 : decode cX12_isFull 12 = .ok (.iadd, 1) := by decide +kernel
theorem dX12_isFull_13 : decode cX12_isFull 13 = .ok (.iaload, 1) := by decide +kernel
theorem dX12_isFull_14 : decode cX12_isFull 14 = .ok (.istore_n 2, 1) := by decide +kernel
theorem dX12_isFull_15 : decode cX12_isFull 15 = .ok (.iload_n 1, 1) := by decide +kernel
theorem dX12_isFull_16 : decode cX12_isFull 16 = .ok (.ifCond .eq 14, 3) := by decide +kernel
theorem dX12_isFull_19 : decode cX12_isFull 19 = .ok (.iload_n 1, 1) := by decide +kernel
theorem dX12_isFull_20 : decode cX12_isFull 20 = .ok (.iconst 3, 1) := by decide +kernel
theorem dX12_isFull_21 : decode cX12_isFull 21 = .ok (.if_icmp .eq 9, 3) := by decide +kernel
theorem dX12_isFull_24 : decode cX12_isFull 24 = .ok (.iload_n 1, 1) := by decide +kernel
theorem dX12_isFull_25 : decode cX12_isFull 25 = .ok (.bipush 6, 2) := by decide +kernel
theorem dX12_isFull_27 : decode cX12_isFull 27 = .ok (.if_icmp .ne 8, 3) := by decide +kernel
theorem dX12_isFull_30 : decode cX12_isFull 30 = .ok (.bipush 16, 2) := by decide +kernel
theorem dX12_isFull_32 : decode cX12_isFull 32 = .ok (.goto 46, 3) := by decide +kernel
theorem dX12_isFull_35 : decode cX12_isFull 35 = .ok (.iload_n 1, 1) := by decide +kernel
theorem dX12_isFull_36 : decode cX12_isFull 36 = .ok (.iconst 1, 1) := by decide +kernel
theorem dX12_isFull_37 : decode cX12_isFull 37 = .ok (.if_icmp .eq 13, 3) := by decide +kernel
theorem dX12_isFull_40 : decode cX12_isFull 40 = .ok (.iload_n 1, 1) := by decide +kernel
theorem dX12_isFull_41 : decode cX12_isFull 41 = .ok (.iconst 2, 1) := by decide +kernel
theorem dX12_isFull_42 : decode cX12_isFull 42 = .ok (.if_icmp .eq 8, 3) := by decide +kernel
theorem dX12_isFull_45 : decode cX12_isFull 45 = .ok (.iload_n 1, 1) := by decide +kernel
theorem dX12_isFull_46 : decode cX12_isFull 46 = .ok (.iconst 4, 1) := by decide +kernel
theorem dX12_isFull_47 : decode cX12_isFull 47 = .ok (.if_icmp .ne 8, 3) := by decide +kernel
theorem dX12_isFull_50 : decode cX12_isFull 50 = .ok (.bipush 8, 2) := by decide +kernel
theorem dX12_isFull_52 : decode cX12_isFull 52 = .ok (.goto 26, 3) := by decide +kernel
theorem dX12_isFull_55 : decode cX12_isFull 55 = .ok (.iload_n 1, 1) := by decide +kernel
theorem dX12_isFull_56 : decode cX12_isFull 56 = .ok (.iconst 5, 1) := by decide +kernel
theorem dX12_isFull_57 : decode cX12_isFull 57 = .ok (.if_icmp .ne 8, 3) := by decide +kernel
theorem dX12_isFull_60 : decode cX12_isFull 60 = .ok (.bipush 24, 2) := by decide +kernel
theorem dX12_isFull_62 : decode cX12_isFull 62 = .ok (.goto 16, 3) := by decide +kernel
theorem dX12_isFull_65 : decode cX12_isFull 65 = .ok (.iload_n 1, 1) := by decide +kernel
theorem dX12_isFull_66 : decode cX12_isFull 66 = .ok (.bipush 7, 2) := by decide +kernel
theorem dX12_isFull_68 : decode cX12_isFull 68 = .ok (.if_icmp .ne 8, 3) := by decide +kernel
theorem dX12_isFull_71 : decode cX12_isFull 71 = .ok (.bipush 12, 2) := by decide +kernel
theorem dX12_isFull_73 : decode cX12_isFull 73 = .ok (.goto 5, 3) := by decide +kernel
theorem dX12_isFull_76 : decode cX12_isFull 76 = .ok (.bipush 80, 2) := by decide +kernel
theorem dX12_isFull_78 : decode cX12_isFull 78 = .ok (.istore_n 3, 1) := by decide +kernel
theorem dX12_isFull_79 : decode cX12_isFull 79 = .ok (.iload_n 2, 1) := by decide +kernel
theorem dX12_isFull_80 : decode cX12_isFull 80 = .ok (.iload_n 3, 1) := by decide +kernel
theorem dX12_isFull_81 : decode cX12_isFull 81 = .ok (.if_icmp .ne 7, 3) := by decide +kernel
theorem dX12_isFull_84 : decode cX12_isFull 84 = .ok (.iconst 1, 1) := by decide +kernel
theorem dX12_isFull_85 : decode cX12_isFull 85 = .ok (.goto 4, 3) := by decide +kernel
theorem dX12_isFull_88 : decode cX12_isFull 88 = .ok (.iconst 0, 1) := by decide +kernel
theorem dX12_isFull_89 : decode cX12_isFull 89 = .ok (.ireturn, 1) := by decide +kernel
theorem dX12_read_0 : decode cX12_read 0 = .ok (.aload_n 0, 1) := by decide +kernel
theorem dX12_read_1 : decode cX12_read 1 = .ok (.aload_n 0, 1) := by decide +kernel
theorem dX12_read_2 : decode cX12_read 2 = .ok (.getfield 223, 3) := by decide +kernel
theorem dX12_read_5 : decode cX12_read 5 = .ok (.putfield 230, 3) := by decide +kernel
theorem dX12_read_8 : decode cX12_read 8 = .ok (.iconst 0, 1) := by decide +kernel
theorem dX12_read_9 : decode cX12_read 9 = .ok (.istore_n 1, 1) := by decide +kernel
theorem dX12_read_10 : decode cX12_read 10 = .ok (.iload_n 1, 1) := by decide +kernel
theorem dX12_read_11 : decode cX12_read 11 = .ok (.aload_n 0, 1) := by decide +kernel
theorem dX12_read_12 : decode cX12_read 12 = .ok (.getfield 230, 3) := by decide +kernel
theorem dX12_read_15 : decode cX12_read 15 = .ok (.if_icmp .ge 21, 3) := by decide +kernel
theorem dX12_read_18 : decode cX12_read 18 = .ok (.aload_n 0, 1) := by decide +kernel
theorem dX12_read_19 : decode cX12_read 19 = .ok (.getfield 17, 3) := by decide +kernel
theorem dX12_read_22 : decode cX12_read 22 = .ok (.iload_n 1, 1) := by decide +kernel
theorem dX12_read_23 : decode cX12_read 23 = .ok (.aload_n 0, 1) := by decide +kernel
theorem dX12_read_24 : decode cX12_read 24 = .ok (.getfield 13, 3) := by decide +kernel
theorem dX12_read_27 : decode cX12_read 27 = .ok (.iload_n 1, 1) := by decide +kernel
theorem dX12_read_28 : decode cX12_read 28 = .ok (.baload, 1) := by decide +kernel
theorem dX12_read_29 : decode cX12_read 29 = .ok (.bastore, 1) := by decide +kernel
theorem dX12_read_30 : decode cX12_read 30 = .ok (.iinc 1 1, 3) := by decide +kernel
theorem dX12_read_33 : decode cX12_read 33 = .ok (.goto (-23), 3) := by decide +kernel
theorem dX12_read_36 : decode cX12_read 36 = .ok (.aload_n 0, 1) := by decide +kernel
theorem dX12_read_37 : decode cX12_read 37 = .ok (.iconst 0, 1) := by decide +kernel
theorem dX12_read_38 : decode cX12_read 38 = .ok (.putfield 223, 3) := by decide +kernel
theorem dX12_read_41 : decode cX12_read 41 = .ok (.aload_n 0, 1) := by decide +kernel
theorem dX12_read_42 : decode cX12_read 42 = .ok (.invokevirtual 302, 3) := by decide +kernel
theorem dX12_read_45 : decode cX12_read 45 = .ok (.aload_n 0, 1) := by decide +kernel
theorem dX12_read_46 : decode cX12_read 46 = .ok (.iconst 0, 1) := by decide +kernel
theorem dX12_read_47 : decode cX12_read 47 = .ok (.putfield 264, 3) := by decide +kernel
theorem dX12_read_50 : decode cX12_read 50 = .ok (.aload_n 0, 1) := by decide +kernel
theorem dX12_read_51 : decode cX12_read 51 = .ok (.iconst 0, 1) := by decide +kernel
theorem dX12_read_52 : decode cX12_read 52 = .ok (.putfield 305, 3) := by decide +kernel
theorem dX12_read_55 : decode cX12_read 55 = .ok (.aload_n 0, 1) := by decide +kernel
theorem dX12_read_56 : decode cX12_read 56 = .ok (.iconst 0, 1) := by decide +kernel
theorem dX12_read_57 : decode cX12_read 57 = .ok (.putfield 261, 3) := by decide +kernel
theorem dX12_read_60 : decode cX12_read 60 = .ok (.aload_n 0, 1) := by decide +kernel
theorem dX12_read_61 : decode cX12_read 61 = .ok (.iconst 0, 1) := by decide +kernel
theorem dX12_read_62 : decode cX12_read 62 = .ok (.putfield 270, 3) := by decide +kernel
theorem dX12_read_65 : decode cX12_read 65 = .ok (.aload_n 0, 1) := by decide +kernel
theorem dX12_read_66 : decode cX12_read 66 = .ok (.iconst 1, 1) := by decide +kernel
theorem dX12_read_67 : decode cX12_read 67 = .ok (.aload_n 0, 1) := by decide +kernel
theorem dX12_read_68 : decode cX12_read 68 = .ok (.getfield 308, 3) := by decide +kernel
theorem dX12_read_71 : decode cX12_read 71 = .ok (.isub, 1) := by decide +kernel
theorem dX12_read_72 : decode cX12_read 72 = .ok (.putfield 299, 3) := by decide +kernel
theorem dX12_read_75 : decode cX12_read 75 = .ok (.iconst 0, 1) := by decide +kernel
theorem dX12_read_76 : decode cX12_read 76 = .ok (.istore_n 1, 1) := by decide +kernel
theorem dX12_read_77 : decode cX12_read 77 = .ok (.iload_n 1, 1) := by decide +kernel
theorem dX12_read_78 : decode cX12_read 78 = .ok (.bipush 9, 2) := by decide +kernel
theorem dX12_read_80 : decode cX12_read 80 = .ok (.if_icmp .ge 24, 3) := by decide +kernel
theorem dX12_read_83 : decode cX12_read 83 = .ok (.aload_n 0, 1) := by decide +kernel
theorem dX12_read_84 : decode cX12_read 84 = .ok (.getfield 40, 3) := by decide +kernel
theorem dX12_read_87 : decode cX12_read 87 = .ok (.bipush 9, 2) := by decide +kernel
theorem dX12_read_89 : decode cX12_read 89 = .ok (.aload_n 0, 1) := by decide +kernel
theorem dX12_read_90 : decode cX12_read 90 = .ok (.getfield 299, 3) := by decide +kernel
theorem dX12_read_93 : decode cX12_read 93 = .ok (.imul, 1) := by decide +kernel
theorem dX12_read_94 : decode cX12_read 94 = .ok (.iload_n 1, 1) := by decide +kernel
theorem dX12_read_95 : decode cX12_read 95 = .ok (.iadd, 1) := by decide +kernel
theorem dX12_read_96 : decode cX12_read 96 = .ok (.iconst 0, 1) := by decide +kernel
theorem dX12_read_97 : decode cX12_read 97 = .ok (.iastore, 1) := by decide +kernel
theorem dX12_read_98 : decode cX12_read 98 = .ok (.iinc 1 1, 3) := by decide +kernel
theorem dX12_read_101 : decode cX12_read 101 = .ok (.goto (-24), 3) := by decide +kernel
theorem dX12_read_104 : decode cX12_read 104 = .ok (.aload_n 0, 1) := by decide +kernel
theorem dX12_read_105 : decode cX12_read 105 = .ok (.iconst 0, 1) := by decide +kernel
theorem dX12_read_106 : decode cX12_read 106 = .ok (.putfield 285, 3) := by decide +kernel
theorem dX12_read_109 : decode cX12_read 109 = .ok (.aload_n 0, 1) := by decide +kernel
theorem dX12_read_110 : decode cX12_read 110 = .ok (.sipush 400, 3) := by decide +kernel
theorem dX12_read_113 : decode cX12_read 113 = .ok (.aload_n 0, 1) := by decide +kernel
theorem dX12_read_114 : decode cX12_read 114 = .ok (.getfield 299, 3) := by decide +kernel
theorem dX12_read_117 : decode cX12_read 117 = .ok (.imul, 1) := by decide +kernel
theorem dX12_read_118 : decode cX12_read 118 = .ok (.putfield 311, 3) := by decide +kernel
theorem dX12_read_121 : decode cX12_read 121 = .ok (.aload_n 0, 1) := by decide +kernel
theorem dX12_read_122 : decode cX12_read 122 = .ok (.sipush 1000, 3) := by decide +kernel
theorem dX12_read_125 : decode cX12_read 125 = .ok (.aload_n 0, 1) := by decide +kernel
theorem dX12_read_126 : decode cX12_read 126 = .ok (.getfield 299, 3) := by decide +kernel
theorem dX12_read_129 : decode cX12_read 129 = .ok (.imul, 1) := by decide +kernel
theorem dX12_read_130 : decode cX12_read 130 = .ok (.putfield 314, 3) := by decide +kernel
theorem dX12_read_133 : decode cX12_read 133 = .ok (.aload_n 0, 1) := by decide +kernel
theorem dX12_read_134 : decode cX12_read 134 = .ok (.sipush 1200, 3) := by decide +kernel
theorem dX12_read_137 : decode cX12_read 137 = .ok (.aload_n 0, 1) := by decide +kernel
theorem dX12_read_138 : decode cX12_read 138 = .ok (.getfield 299, 3) := by decide +kernel
theorem dX12_read_141 : decode cX12_read 141 = .ok (.imul, 1) := by decide +kernel
theorem dX12_read_142 : decode cX12_read 142 = .ok (.putfield 317, 3) := by decide +kernel
theorem dX12_read_145 : decode cX12_read 145 = .ok (.aload_n 0, 1) := by decide +kernel
theorem dX12_read_146 : decode cX12_read 146 = .ok (.iconst 0, 1) := by decide +kernel
theorem dX12_read_147 : decode cX12_read 147 = .ok (.putfield 320, 3) := by decide +kernel
theorem dX12_read_150 : decode cX12_read 150 = .ok (.aload_n 0, 1) := by decide +kernel
theorem dX12_read_151 : decode cX12_read 151 = .ok (.getfield 261, 3) := by decide +kernel
theorem dX12_read_154 : decode cX12_read 154 = .ok (.ifCond .ne 52, 3) := by decide +kernel
theorem dX12_read_157 : decode cX12_read 157 = .ok (.aload_n 0, 1) := by decide +kernel
theorem dX12_read_158 : decode cX12_read 158 = .ok (.getfield 20, 3) := by decide +kernel
theorem dX12_read_161 : decode cX12_read 161 = .ok (.aload_n 0, 1) := by decide +kernel
theorem dX12_read_162 : decode cX12_read 162 = .ok (.getfield 264, 3) := by decide +kernel
theorem dX12_read_165 : decode cX12_read 165 = .ok (.iaload, 1) := by decide +kernel
theorem dX12_read_166 : decode cX12_read 166 = .ok (.bipush 20, 2) := by decide +kernel
theorem dX12_read_168 : decode cX12_read 168 = .ok (.if_icmp .lt 38, 3) := by decide +kernel
theorem dX12_read_171 : decode cX12_read 171 = .ok (.aload_n 0, 1) := by decide +kernel
theorem dX12_read_172 : decode cX12_read 172 = .ok (.getfield 20, 3) := by decide +kernel
theorem dX12_read_175 : decode cX12_read 175 = .ok (.aload_n 0, 1) := by decide +kernel
theorem dX12_read_176 : decode cX12_read 176 = .ok (.getfield 264, 3) := by decide +kernel
theorem dX12_read_179 : decode cX12_read 179 = .ok (.iaload, 1) := by decide +kernel
theorem dX12_read_180 : decode cX12_read 180 = .ok (.bipush 27, 2) := by decide +kernel
theorem dX12_read_182 : decode cX12_read 182 = .ok (.if_icmp .gt 24, 3) := by decide +kernel
theorem dX12_read_185 : decode cX12_read 185 = .ok (.aload_n 0, 1) := by decide +kernel
theorem dX12_read_186 : decode cX12_read 186 = .ok (.getfield 20, 3) := by decide +kernel
theorem dX12_read_189 : decode cX12_read 189 = .ok (.aload_n 0, 1) := by decide +kernel
theorem dX12_read_190 : decode cX12_read 190 = .ok (.getfield 264, 3) := by decide +kernel
theorem dX12_read_193 : decode cX12_read 193 = .ok (.iaload, 1) := by decide +kernel
theorem dX12_read_194 : decode cX12_read 194 = .ok (.bipush 26, 2) := by decide +kernel
theorem dX12_read_196 : decode cX12_read 196 = .ok (.if_icmp .eq 10, 3) := by decide +kernel
theorem dX12_read_199 : decode cX12_read 199 = .ok (.aload_n 0, 1) := by decide +kernel
theorem dX12_read_200 : decode cX12_read 200 = .ok (.invokevirtual 323, 3) := by decide +kernel
theorem dX12_read_203 : decode cX12_read 203 = .ok (.goto (-53), 3) := by decide +kernel
theorem dX12_read_206 : decode cX12_read 206 = .ok (.aload_n 0, 1) := by decide +kernel
theorem dX12_read_207 : decode cX12_read 207 = .ok (.getfield 261, 3) := by decide +kernel
theorem dX12_read_210 : decode cX12_read 210 = .ok (.ifCond .ne 18, 3) := by decide +kernel
theorem dX12_read_213 : decode cX12_read 213 = .ok (.aload_n 0, 1) := by decide +kernel
theorem dX12_read_214 : decode cX12_read 214 = .ok (.iconst 0, 1) := by decide +kernel
theorem dX12_read_215 : decode cX12_read 215 = .ok (.invokevirtual 279, 3) := by decide +kernel
theorem dX12_read_218 : decode cX12_read 218 = .ok (.ifCond .ne 10, 3) := by decide +kernel
theorem dX12_read_221 : decode cX12_read 221 = .ok (.aload_n 0, 1) := by decide +kernel
theorem dX12_read_222 : decode cX12_read 222 = .ok (.invokevirtual 326, 3) := by decide +kernel
theorem dX12_read_225 : decode cX12_read 225 = .ok (.goto (-19), 3) := by decide +kernel
theorem dX12_read_228 : decode cX12_read 228 = .ok (.aload_n 0, 1) := by decide +kernel
theorem dX12_read_229 : decode cX12_read 229 = .ok (.getfield 261, 3) := by decide +kernel
theorem dX12_read_232 : decode cX12_read 232 = .ok (.ifCond .ne 42, 3) := by decide +kernel
theorem dX12_read_235 : decode cX12_read 235 = .ok (.iconst 0, 1) := by decide +kernel
theorem dX12_read_236 : decode cX12_read 236 = .ok (.istore_n 1, 1) := by decide +kernel
theorem dX12_read_237 : decode cX12_read 237 = .ok (.iload_n 1, 1) := by decide +kernel
theorem dX12_read_238 : decode cX12_read 238 = .ok (.aload_n 0, 1) := by decide +kernel
theorem dX12_read_239 : decode cX12_read 239 = .ok (.getfield 320, 3) := by decide +kernel
theorem dX12_read_242 : decode cX12_read 242 = .ok (.if_icmp .ge 32, 3) := by decide +kernel
theorem dX12_read_245 : decode cX12_read 245 = .ok (.aload_n 0, 1) := by decide +kernel
theorem dX12_read_246 : decode cX12_read 246 = .ok (.getfield 112, 3) := by decide +kernel
theorem dX12_read_249 : decode cX12_read 249 = .ok (.aload_n 0, 1) := by decide +kernel
theorem dX12_read_250 : decode cX12_read 250 = .ok (.getfield 121, 3) := by decide +kernel
theorem dX12_read_253 : decode cX12_read 253 = .ok (.iload_n 1, 1) := by decide +kernel
theorem dX12_read_254 : decode cX12_read 254 = .ok (.iaload, 1) := by decide +kernel
theorem dX12_read_255 : decode cX12_read 255 = .ok (.aload_n 0, 1) := by decide +kernel
theorem dX12_read_256 : decode cX12_read 256 = .ok (.aload_n 0, 1) := by decide +kernel
theorem dX12_read_257 : decode cX12_read 257 = .ok (.getfield 124, 3) := by decide +kernel
theorem dX12_read_260 : decode cX12_read 260 = .ok (.iload_n 1, 1) := by decide +kernel
theorem dX12_read_261 : decode cX12_read 261 = .ok (.iaload, 1) := by decide +kernel
theorem dX12_read_262 : decode cX12_read 262 = .ok (.bipush 7, 2) := by decide +kernel
theorem dX12_read_264 : decode cX12_read 264 = .ok (.invokevirtual 295, 3) := by decide +kernel
theorem dX12_read_267 : decode cX12_read 267 = .ok (.iastore, 1) := by decide +kernel
theorem dX12_read_268 : decode cX12_read 268 = .ok (.iinc 1 1, 3) := by decide +kernel
theorem dX12_read_271 : decode cX12_read 271 = .ok (.goto (-34), 3) := by decide +kernel
theorem dX12_read_274 : decode cX12_read 274 = .ok (.aload_n 0, 1) := by decide +kernel
theorem dX12_read_275 : decode cX12_read 275 = .ok (.aload_n 0, 1) := by decide +kernel
theorem dX12_read_276 : decode cX12_read 276 = .ok (.getfield 261, 3) := by decide +kernel
theorem dX12_read_279 : decode cX12_read 279 = .ok (.ifCond .le 10, 3) := by decide +kernel
theorem dX12_read_282 : decode cX12_read 282 = .ok (.aload_n 0, 1) := by decide +kernel
theorem dX12_read_283 : decode cX12_read 283 = .ok (.getfield 267, 3) := by decide +kernel
theorem dX12_read_286 : decode cX12_read 286 = .ok (.goto 18, 3) := by decide +kernel
theorem dX12_read_289 : decode cX12_read 289 = .ok (.aload_n 0, 1) := by decide +kernel
theorem dX12_read_290 : decode cX12_read 290 = .ok (.getfield 270, 3) := by decide +kernel
theorem dX12_read_293 : decode cX12_read 293 = .ok (.ifCond .le 10, 3) := by decide +kernel
theorem dX12_read_296 : decode cX12_read 296 = .ok (.aload_n 0, 1) := by decide +kernel
theorem dX12_read_297 : decode cX12_read 297 = .ok (.getfield 273, 3) := by decide +kernel
theorem dX12_read_300 : decode cX12_read 300 = .ok (.goto 4, 3) := by decide +kernel
theorem dX12_read_303 : decode cX12_read 303 = .ok (.iconst (-1), 1) := by decide +kernel
theorem dX12_read_304 : decode cX12_read 304 = .ok (.putfield 37, 3) := by decide +kernel
theorem dX12_read_307 : decode cX12_read 307 = .ok (.aload_n 0, 1) := by decide +kernel
theorem dX12_read_308 : decode cX12_read 308 = .ok (.getfield 261, 3) := by decide +kernel
theorem dX12_read_311 : decode cX12_read 311 = .ok (.ifCond .le 8, 3) := by decide +kernel
theorem dX12_read_314 : decode cX12_read 314 = .ok (.aload_n 0, 1) := by decide +kernel
theorem dX12_read_315 : decode cX12_read 315 = .ok (.getfield 261, 3) := by decide +kernel
theorem dX12_read_318 : decode cX12_read 318 = .ok (.ireturn, 1) := by decide +kernel
theorem dX12_read_319 : decode cX12_read 319 = .ok (.aload_n 0, 1) := by decide +kernel
theorem dX12_read_320 : decode cX12_read 320 = .ok (.getfield 270, 3) := by decide +kernel
theorem dX12_read_323 : decode cX12_read 323 = .ok (.ifCond .le 8, 3) := by decide +kernel
theorem dX12_read_326 : decode cX12_read 326 = .ok (.aload_n 0, 1) := by decide +kernel
theorem dX12_read_327 : decode cX12_read 327 = .ok (.getfield 270, 3) := by decide +kernel
theorem dX12_read_330 : decode cX12_read 330 = .ok (.ireturn, 1) := by decide +kernel
theorem dX12_read_331 : decode cX12_read 331 = .ok (.aload_n 0, 1) := by decide +kernel
theorem dX12_read_332 : decode cX12_read 332 = .ok (.aload_n 0, 1) := by decide +kernel
theorem dX12_read_333 : decode cX12_read 333 = .ok (.getfield 299, 3) := by decide +kernel
theorem dX12_read_336 : decode cX12_read 336 = .ok (.putfield 308, 3) := by decide +kernel
theorem dX12_read_339 : decode cX12_read 339 = .ok (.aload_n 0, 1) := by decide +kernel
theorem dX12_read_340 : decode cX12_read 340 = .ok (.iconst 1, 1) := by decide +kernel
theorem dX12_read_341 : decode cX12_read 341 = .ok (.putfield 329, 3) := by decide +kernel
theorem dX12_read_344 : decode cX12_read 344 = .ok (.aload_n 0, 1) := by decide +kernel
theorem dX12_read_345 : decode cX12_read 345 = .ok (.iconst 0, 1) := by decide +kernel
theorem dX12_read_346 : decode cX12_read 346 = .ok (.putfield 333, 3) := by decide +kernel
theorem dX12_read_349 : decode cX12_read 349 = .ok (.iconst 0, 1) := by decide +kernel
theorem dX12_read_350 : decode cX12_read 350 = .ok (.ireturn, 1) := by decide +kernel
theorem dX12_place_0 : decode cX12_place 0 = .ok (.aload_n 0, 1) := by decide +kernel
theorem dX12_place_1 : decode cX12_place 1 = .ok (.getfield 37, 3) := by decide +kernel
theorem dX12_place_4 : decode cX12_place 4 = .ok (.ireturn, 1) := by decide +kernel
theorem dX12_tellPart_0 : decode cX12_tellPart 0 = .ok (.aload_n 0, 1) := by decide +kernel
theorem dX12_tellPart_1 : decode cX12_tellPart 1 = .ok (.getfield 20, 3) := by decide +kernel
theorem dX12_tellPart_4 : decode cX12_tellPart 4 = .ok (.aload_n 0, 1) := by decide +kernel
theorem dX12_tellPart_5 : decode cX12_tellPart 5 = .ok (.getfield 264, 3) := by decide +kernel
theorem dX12_tellPart_8 : decode cX12_tellPart 8 = .ok (.iaload, 1) := by decide +kernel
theorem dX12_tellPart_9 : decode cX12_tellPart 9 = .ok (.bipush 27, 2) := by decide +kernel
theorem dX12_tellPart_11 : decode cX12_tellPart 11 = .ok (.if_icmp .ne 8, 3) := by decide +kernel
theorem dX12_tellPart_14 : decode cX12_tellPart 14 = .ok (.bipush 6, 2) := by decide +kernel
theorem dX12_tellPart_16 : decode cX12_tellPart 16 = .ok (.goto 15, 3) := by decide +kernel
theorem dX12_tellPart_19 : decode cX12_tellPart 19 = .ok (.aload_n 0, 1) := by decide +kernel
theorem dX12_tellPart_20 : decode cX12_tellPart 20 = .ok (.getfield 20, 3) := by decide +kernel
theorem dX12_tellPart_23 : decode cX12_tellPart 23 = .ok (.aload_n 0, 1) := by decide +kernel
theorem dX12_tellPart_24 : decode cX12_tellPart 24 = .ok (.getfield 264, 3) := by decide +kernel
theorem dX12_tellPart_27 : decode cX12_tellPart 27 = .ok (.iaload, 1) := by decide +kernel
theorem dX12_tellPart_28 : decode cX12_tellPart 28 = .ok (.bipush 20, 2) := by decide +kernel
theorem dX12_tellPart_30 : decode cX12_tellPart 30 = .ok (.isub, 1) := by decide +kernel
theorem dX12_tellPart_31 : decode cX12_tellPart 31 = .ok (.istore_n 1, 1) := by decide +kernel
theorem dX12_tellPart_32 : decode cX12_tellPart 32 = .ok (.aload_n 0, 1) := by decide +kernel
theorem dX12_tellPart_33 : decode cX12_tellPart 33 = .ok (.iload_n 1, 1) := by decide +kernel
theorem dX12_tellPart_34 : decode cX12_tellPart 34 = .ok (.invokevirtual 336, 3) := by decide +kernel
theorem dX12_tellPart_37 : decode cX12_tellPart 37 = .ok (.ifCond .eq 8, 3) := by decide +kernel
theorem dX12_tellPart_40 : decode cX12_tellPart 40 = .ok (.aload_n 0, 1) := by decide +kernel
theorem dX12_tellPart_41 : decode cX12_tellPart 41 = .ok (.iconst 2, 1) := by decide +kernel
theorem dX12_tellPart_42 : decode cX12_tellPart 42 = .ok (.invokevirtual 276, 3) := by decide +kernel
theorem dX12_tellPart_45 : decode cX12_tellPart 45 = .ok (.aload_n 0, 1) := by decide +kernel
theorem dX12_tellPart_46 : decode cX12_tellPart 46 = .ok (.invokevirtual 282, 3) := by decide +kernel
theorem dX12_tellPart_49 : decode cX12_tellPart 49 = .ok (.aload_n 0, 1) := by decide +kernel
theorem dX12_tellPart_50 : decode cX12_tellPart 50 = .ok (.getfield 261, 3) := by decide +kernel
theorem dX12_tellPart_53 : decode cX12_tellPart 53 = .ok (.ifCond .le 4, 3) := by decide +kernel
theorem dX12_tellPart_56 : decode cX12_tellPart 56 = .ok (.return_, 1) := by decide +kernel
theorem dX12_tellPart_57 : decode cX12_tellPart 57 = .ok (.aload_n 0, 1) := by decide +kernel
theorem dX12_tellPart_58 : decode cX12_tellPart 58 = .ok (.getfield 40, 3) := by decide +kernel
theorem dX12_tellPart_61 : decode cX12_tellPart 61 = .ok (.bipush 9, 2) := by decide +kernel
theorem dX12_tellPart_63 : decode cX12_tellPart 63 = .ok (.aload_n 0, 1) := by decide +kernel
theorem dX12_tellPart_64 : decode cX12_tellPart 64 = .ok (.getfield 299, 3) := by decide +kernel
theorem dX12_tellPart_67 : decode cX12_tellPart 67 = .ok (.imul, 1) := by decide +kernel
theorem dX12_tellPart_68 : decode cX12_tellPart 68 = .ok (.iload_n 1, 1) := by decide +kernel
theorem dX12_tellPart_69 : decode cX12_tellPart 69 = .ok (.iadd, 1) := by decide +kernel
theorem dX12_tellPart_70 : decode cX12_tellPart 70 = .ok (.iaload, 1) := by decide +kernel
theorem dX12_tellPart_71 : decode cX12_tellPart 71 = .ok (.istore_n 2, 1) := by decide +kernel
theorem dX12_tellPart_72 : decode cX12_tellPart 72 = .ok (.aload_n 0, 1) := by decide +kernel
theorem dX12_tellPart_73 : decode cX12_tellPart 73 = .ok (.getfield 264, 3) := by decide +kernel
theorem dX12_tellPart_76 : decode cX12_tellPart 76 = .ok (.istore_n 3, 1) := by decide +kernel
theorem dX12_tellPart_77 : decode cX12_tellPart 77 = .ok (.iload_n 1, 1) := by decide +kernel
theorem dX12_tellPart_78 : decode cX12_tellPart 78 = .ok (.tableswitch 327 0 6 #[42, 42, 158, 250, 300, 327, 42], 42) := by decide +kernel
theorem dX12_tellPart_120 : decode cX12_tellPart 120 = .ok (.aload_n 0, 1) := by decide +kernel
theorem dX12_tellPart_121 : decode cX12_tellPart 121 = .ok (.iconst 1, 1) := by decide +kernel
theorem dX12_tellPart_122 : decode cX12_tellPart 122 = .ok (.invokevirtual 292, 3) := by decide +kernel
theorem dX12_tellPart_125 : decode cX12_tellPart 125 = .ok (.aload_n 0, 1) := by decide +kernel
theorem dX12_tellPart_126 : decode cX12_tellPart 126 = .ok (.getfield 264, 3) := by decide +kernel
theorem dX12_tellPart_129 : decode cX12_tellPart 129 = .ok (.istore 4, 2) := by decide +kernel
theorem dX12_tellPart_131 : decode cX12_tellPart 131 = .ok (.aload_n 0, 1) := by decide +kernel
theorem dX12_tellPart_132 : decode cX12_tellPart 132 = .ok (.iconst 2, 1) := by decide +kernel
theorem dX12_tellPart_133 : decode cX12_tellPart 133 = .ok (.invokevirtual 292, 3) := by decide +kernel
theorem dX12_tellPart_136 : decode cX12_tellPart 136 = .ok (.aload_n 0, 1) := by decide +kernel
theorem dX12_tellPart_137 : decode cX12_tellPart 137 = .ok (.iconst 4, 1) := by decide +kernel
theorem dX12_tellPart_138 : decode cX12_tellPart 138 = .ok (.invokevirtual 292, 3) := by decide +kernel
theorem dX12_tellPart_141 : decode cX12_tellPart 141 = .ok (.aload_n 0, 1) := by decide +kernel
theorem dX12_tellPart_142 : decode cX12_tellPart 142 = .ok (.getfield 261, 3) := by decide +kernel
theorem dX12_tellPart_145 : decode cX12_tellPart 145 = .ok (.ifCond .le 4, 3) := by decide +kernel
theorem dX12_tellPart_148 : decode cX12_tellPart 148 = .ok (.return_, 1) := by decide +kernel
theorem dX12_tellPart_149 : decode cX12_tellPart 149 = .ok (.aload_n 0, 1) := by decide +kernel
theorem dX12_tellPart_150 : decode cX12_tellPart 150 = .ok (.iload_n 3, 1) := by decide +kernel
theorem dX12_tellPart_151 : decode cX12_tellPart 151 = .ok (.iload_n 1, 1) := by decide +kernel
theorem dX12_tellPart_152 : decode cX12_tellPart 152 = .ok (.invokevirtual 339, 3) := by decide +kernel
theorem dX12_tellPart_155 : decode cX12_tellPart 155 = .ok (.iload_n 1, 1) := by decide +kernel
theorem dX12_tellPart_156 : decode cX12_tellPart 156 = .ok (.ifCond .ne 24, 3) := by decide +kernel
theorem dX12_tellPart_159 : decode cX12_tellPart 159 = .ok (.aload_n 0, 1) := by decide +kernel
theorem dX12_tellPart_160 : decode cX12_tellPart 160 = .ok (.getfield 52, 3) := by decide +kernel
theorem dX12_tellPart_163 : decode cX12_tellPart 163 = .ok (.bipush 16, 2) := by decide +kernel
theorem dX12_tellPart_165 : decode cX12_tellPart 165 = .ok (.aload_n 0, 1) := by decide +kernel
theorem dX12_tellPart_166 : decode cX12_tellPart 166 = .ok (.getfield 299, 3) := by decide +kernel
theorem dX12_tellPart_169 : decode cX12_tellPart 169 = .ok (.imul, 1) := by decide +kernel
theorem dX12_tellPart_170 : decode cX12_tellPart 170 = .ok (.iload_n 2, 1) := by decide +kernel
theorem dX12_tellPart_171 : decode cX12_tellPart 171 = .ok (.iadd, 1) := by decide +kernel
theorem dX12_tellPart_172 : decode cX12_tellPart 172 = .ok (.aload_n 0, 1) := by decide +kernel
theorem dX12_tellPart_173 : decode cX12_tellPart 173 = .ok (.getfield 27, 3) := by decide +kernel
theorem dX12_tellPart_176 : decode cX12_tellPart 176 = .ok (.iload 4, 2) := by decide +kernel
theorem dX12_tellPart_178 : decode cX12_tellPart 178 = .ok (.iaload, 1) := by decide +kernel
theorem dX12_tellPart_179 : decode cX12_tellPart 179 = .ok (.iastore, 1) := by decide +kernel
theorem dX12_tellPart_180 : decode cX12_tellPart 180 = .ok (.iload_n 1, 1) := by decide +kernel
theorem dX12_tellPart_181 : decode cX12_tellPart 181 = .ok (.iconst 1, 1) := by decide +kernel
theorem dX12_tellPart_182 : decode cX12_tellPart 182 = .ok (.if_icmp .ne 24, 3) := by decide +kernel
theorem dX12_tellPart_185 : decode cX12_tellPart 185 = .ok (.aload_n 0, 1) := by decide +kernel
theorem dX12_tellPart_186 : decode cX12_tellPart 186 = .ok (.getfield 55, 3) := by decide +kernel
theorem dX12_tellPart_189 : decode cX12_tellPart 189 = .ok (.bipush 8, 2) := by decide +kernel
theorem dX12_tellPart_191 : decode cX12_tellPart 191 = .ok (.aload_n 0, 1) := by decide +kernel
theorem dX12_tellPart_192 : decode cX12_tellPart 192 = .ok (.getfield 299, 3) := by decide +kernel
theorem dX12_tellPart_195 : decode cX12_tellPart 195 = .ok (.imul, 1) := by decide +kernel
theorem dX12_tellPart_196 : decode cX12_tellPart 196 = .ok (.iload_n 2, 1) := by decide +kernel
theorem dX12_tellPart_197 : decode cX12_tellPart 197 = .ok (.iadd, 1) := by decide +kernel
theorem dX12_tellPart_198 : decode cX12_tellPart 198 = .ok (.aload_n 0, 1) := by decide +kernel
theorem dX12_tellPart_199 : decode cX12_tellPart 199 = .ok (.getfield 27, 3) := by decide +kernel
theorem dX12_tellPart_202 : decode cX12_tellPart 202 = .ok (.iload 4, 2) := by decide +kernel
theorem dX12_tellPart_204 : decode cX12_tellPart 204 = .ok (.iaload, 1) := by decide +kernel
theorem dX12_tellPart_205 : decode cX12_tellPart 205 = .ok (.iastore, 1) := by decide +kernel
theorem dX12_tellPart_206 : decode cX12_tellPart 206 = .ok (.iload_n 1, 1) := by decide +kernel
theorem dX12_tellPart_207 : decode cX12_tellPart 207 = .ok (.bipush 6, 2) := by decide +kernel
theorem dX12_tellPart_209 : decode cX12_tellPart 209 = .ok (.if_icmp .ne 324, 3) := by decide +kernel
theorem dX12_tellPart_212 : decode cX12_tellPart 212 = .ok (.aload_n 0, 1) := by decide +kernel
theorem dX12_tellPart_213 : decode cX12_tellPart 213 = .ok (.getfield 76, 3) := by decide +kernel
theorem dX12_tellPart_216 : decode cX12_tellPart 216 = .ok (.bipush 16, 2) := by decide +kernel
theorem dX12_tellPart_218 : decode cX12_tellPart 218 = .ok (.aload_n 0, 1) := by decide +kernel
theorem dX12_tellPart_219 : decode cX12_tellPart 219 = .ok (.getfield 299, 3) := by decide +kernel
theorem dX12_tellPart_222 : decode cX12_tellPart 222 = .ok (.imul, 1) := by decide +kernel
theorem dX12_tellPart_223 : decode cX12_tellPart 223 = .ok (.iload_n 2, 1) := by decide +kernel
theorem dX12_tellPart_224 : decode cX12_tellPart 224 = .ok (.iadd, 1) := by decide +kernel
theorem dX12_tellPart_225 : decode cX12_tellPart 225 = .ok (.aload_n 0, 1) := by decide +kernel
theorem dX12_tellPart_226 : decode cX12_tellPart 226 = .ok (.getfield 27, 3) := by decide +kernel
theorem dX12_tellPart_229 : decode cX12_tellPart 229 = .ok (.iload 4, 2) := by decide +kernel
theorem dX12_tellPart_231 : decode cX12_tellPart 231 = .ok (.iaload, 1) := by decide +kernel
theorem dX12_tellPart_232 : decode cX12_tellPart 232 = .ok (.iastore, 1) := by decide +kernel
theorem dX12_tellPart_233 : decode cX12_tellPart 233 = .ok (.goto 300, 3) := by decide +kernel
theorem dX12_tellPart_236 : decode cX12_tellPart 236 = .ok (.aload_n 0, 1) := by decide +kernel
theorem dX12_tellPart_237 : decode cX12_tellPart 237 = .ok (.iconst 1, 1) := by decide +kernel
theorem dX12_tellPart_238 : decode cX12_tellPart 238 = .ok (.invokevirtual 342, 3) := by decide +kernel
theorem dX12_tellPart_241 : decode cX12_tellPart 241 = .ok (.istore 4, 2) := by decide +kernel
theorem dX12_tellPart_243 : decode cX12_tellPart 243 = .ok (.aload_n 0, 1) := by decide +kernel
theorem dX12_tellPart_244 : decode cX12_tellPart 244 = .ok (.getfield 264, 3) := by decide +kernel
theorem dX12_tellPart_247 : decode cX12_tellPart 247 = .ok (.istore 5, 2) := by decide +kernel
theorem dX12_tellPart_249 : decode cX12_tellPart 249 = .ok (.aload_n 0, 1) := by decide +kernel
theorem dX12_tellPart_250 : decode cX12_tellPart 250 = .ok (.iconst 1, 1) := by decide +kernel
theorem dX12_tellPart_251 : decode cX12_tellPart 251 = .ok (.invokevirtual 342, 3) := by decide +kernel
theorem dX12_tellPart_254 : decode cX12_tellPart 254 = .ok (.istore 6, 2) := by decide +kernel
theorem dX12_tellPart_256 : decode cX12_tellPart 256 = .ok (.aload_n 0, 1) := by decide +kernel
theorem dX12_tellPart_257 : decode cX12_tellPart 257 = .ok (.iconst 4, 1) := by decide +kernel
theorem dX12_tellPart_258 : decode cX12_tellPart 258 = .ok (.invokevirtual 292, 3) := by decide +kernel
theorem dX12_tellPart_261 : decode cX12_tellPart 261 = .ok (.aload_n 0, 1) := by decide +kernel
theorem dX12_tellPart_262 : decode cX12_tellPart 262 = .ok (.getfield 261, 3) := by decide +kernel
theorem dX12_tellPart_265 : decode cX12_tellPart 265 = .ok (.ifCond .le 4, 3) := by decide +kernel
theorem dX12_tellPart_268 : decode cX12_tellPart 268 = .ok (.return_, 1) := by decide +kernel
theorem dX12_tellPart_269 : decode cX12_tellPart 269 = .ok (.aload_n 0, 1) := by decide +kernel
theorem dX12_tellPart_270 : decode cX12_tellPart 270 = .ok (.getfield 30, 3) := by decide +kernel
theorem dX12_tellPart_273 : decode cX12_tellPart 273 = .ok (.iload_n 3, 1) := by decide +kernel
theorem dX12_tellPart_274 : decode cX12_tellPart 274 = .ok (.laload, 1) := by decide +kernel
theorem dX12_tellPart_275 : decode cX12_tellPart 275 = .ok (.aload_n 0, 1) := by decide +kernel
theorem dX12_tellPart_276 : decode cX12_tellPart 276 = .ok (.getfield 30, 3) := by decide +kernel
theorem dX12_tellPart_279 : decode cX12_tellPart 279 = .ok (.iload 5, 2) := by decide +kernel
theorem dX12_tellPart_281 : decode cX12_tellPart 281 = .ok (.laload, 1) := by decide +kernel
theorem dX12_tellPart_282 : decode cX12_tellPart 282 = .ok (.lcmp, 1) := by decide +kernel
theorem dX12_tellPart_283 : decode cX12_tellPart 283 = .ok (.ifCond .ne 10, 3) := by decide +kernel
theorem dX12_tellPart_286 : decode cX12_tellPart 286 = .ok (.aload_n 0, 1) := by decide +kernel
theorem dX12_tellPart_287 : decode cX12_tellPart 287 = .ok (.iconst 5, 1) := by decide +kernel
theorem dX12_tellPart_288 : decode cX12_tellPart 288 = .ok (.iload 5, 2) := by decide +kernel
theorem dX12_tellPart_290 : decode cX12_tellPart 290 = .ok (.invokevirtual 288, 3) := by decide +kernel
theorem dX12_tellPart_293 : decode cX12_tellPart 293 = .ok (.aload_n 0, 1) := by decide +kernel
theorem dX12_tellPart_294 : decode cX12_tellPart 294 = .ok (.getfield 58, 3) := by decide +kernel
theorem dX12_tellPart_297 : decode cX12_tellPart 297 = .ok (.bipush 8, 2) := by decide +kernel
theorem dX12_tellPart_299 : decode cX12_tellPart 299 = .ok (.aload_n 0, 1) := by decide +kernel
theorem dX12_tellPart_300 : decode cX12_tellPart 300 = .ok (.getfield 299, 3) := by decide +kernel
theorem dX12_tellPart_303 : decode cX12_tellPart 303 = .ok (.imul, 1) := by decide +kernel
theorem dX12_tellPart_304 : decode cX12_tellPart 304 = .ok (.iload_n 2, 1) := by decide +kernel
theorem dX12_tellPart_305 : decode cX12_tellPart 305 = .ok (.iadd, 1) := by decide +kernel
theorem dX12_tellPart_306 : decode cX12_tellPart 306 = .ok (.iload 4, 2) := by decide +kernel
theorem dX12_tellPart_308 : decode cX12_tellPart 308 = .ok (.iastore, 1) := by decide +kernel
theorem dX12_tellPart_309 : decode cX12_tellPart 309 = .ok (.aload_n 0, 1) := by decide +kernel
theorem dX12_tellPart_310 : decode cX12_tellPart 310 = .ok (.getfield 61, 3) := by decide +kernel
theorem dX12_tellPart_313 : decode cX12_tellPart 313 = .ok (.bipush 8, 2) := by decide +kernel
theorem dX12_tellPart_315 : decode cX12_tellPart 315 = .ok (.aload_n 0, 1) := by decide +kernel
theorem dX12_tellPart_316 : decode cX12_tellPart 316 = .ok (.getfield 299, 3) := by decide +kernel
theorem dX12_tellPart_319 : decode cX12_tellPart 319 = .ok (.imul, 1) := by decide +kernel
theorem dX12_tellPart_320 : decode cX12_tellPart 320 = .ok (.iload_n 2, 1) := by decide +kernel
theorem dX12_tellPart_321 : decode cX12_tellPart 321 = .ok (.iadd, 1) := by decide +kernel
theorem dX12_tellPart_322 : decode cX12_tellPart 322 = .ok (.iload 6, 2) := by decide +kernel
theorem dX12_tellPart_324 : decode cX12_tellPart 324 = .ok (.iastore, 1) := by decide +kernel
theorem dX12_tellPart_325 : decode cX12_tellPart 325 = .ok (.goto 208, 3) := by decide +kernel
theorem dX12_tellPart_328 : decode cX12_tellPart 328 = .ok (.aload_n 0, 1) := by decide +kernel
theorem dX12_tellPart_329 : decode cX12_tellPart 329 = .ok (.iconst 1, 1) := by decide +kernel
theorem dX12_tellPart_330 : decode cX12_tellPart 330 = .ok (.invokevirtual 292, 3) := by decide +kernel
theorem dX12_tellPart_333 : decode cX12_tellPart 333 = .ok (.aload_n 0, 1) := by decide +kernel
theorem dX12_tellPart_334 : decode cX12_tellPart 334 = .ok (.iconst 0, 1) := by decide +kernel
theorem dX12_tellPart_335 : decode cX12_tellPart 335 = .ok (.invokevirtual 342, 3) := by decide +kernel
theorem dX12_tellPart_338 : decode cX12_tellPart 338 = .ok (.istore 4, 2) := by decide +kernel
theorem dX12_tellPart_340 : decode cX12_tellPart 340 = .ok (.aload_n 0, 1) := by decide +kernel
theorem dX12_tellPart_341 : decode cX12_tellPart 341 = .ok (.iconst 4, 1) := by decide +kernel
theorem dX12_tellPart_342 : decode cX12_tellPart 342 = .ok (.invokevirtual 292, 3) := by decide +kernel
theorem dX12_tellPart_345 : decode cX12_tellPart 345 = .ok (.aload_n 0, 1) := by decide +kernel
theorem dX12_tellPart_346 : decode cX12_tellPart 346 = .ok (.getfield 261, 3) := by decide +kernel
theorem dX12_tellPart_349 : decode cX12_tellPart 349 = .ok (.ifCond .le 4, 3) := by decide +kernel
theorem dX12_tellPart_352 : decode cX12_tellPart 352 = .ok (.return_, 1) := by decide +kernel
theorem dX12_tellPart_353 : decode cX12_tellPart 353 = .ok (.aload_n 0, 1) := by decide +kernel
theorem dX12_tellPart_354 : decode cX12_tellPart 354 = .ok (.iload_n 3, 1) := by decide +kernel
theorem dX12_tellPart_355 : decode cX12_tellPart 355 = .ok (.iconst 3, 1) := by decide +kernel
theorem dX12_tellPart_356 : decode cX12_tellPart 356 = .ok (.invokevirtual 339, 3) := by decide +kernel
theorem dX12_tellPart_359 : decode cX12_tellPart 359 = .ok (.aload_n 0, 1) := by decide +kernel
theorem dX12_tellPart_360 : decode cX12_tellPart 360 = .ok (.getfield 64, 3) := by decide +kernel
theorem dX12_tellPart_363 : decode cX12_tellPart 363 = .ok (.bipush 16, 2) := by decide +kernel
theorem dX12_tellPart_365 : decode cX12_tellPart 365 = .ok (.aload_n 0, 1) := by decide +kernel
theorem dX12_tellPart_366 : decode cX12_tellPart 366 = .ok (.getfield 299, 3) := by decide +kernel
theorem dX12_tellPart_369 : decode cX12_tellPart 369 = .ok (.imul, 1) := by decide +kernel
theorem dX12_tellPart_370 : decode cX12_tellPart 370 = .ok (.iload_n 2, 1) := by decide +kernel
theorem dX12_tellPart_371 : decode cX12_tellPart 371 = .ok (.iadd, 1) := by decide +kernel
theorem dX12_tellPart_372 : decode cX12_tellPart 372 = .ok (.iload 4, 2) := by decide +kernel
theorem dX12_tellPart_374 : decode cX12_tellPart 374 = .ok (.iastore, 1) := by decide +kernel
theorem dX12_tellPart_375 : decode cX12_tellPart 375 = .ok (.goto 158, 3) := by decide +kernel
theorem dX12_tellPart_378 : decode cX12_tellPart 378 = .ok (.aload_n 0, 1) := by decide +kernel
theorem dX12_tellPart_379 : decode cX12_tellPart 379 = .ok (.iconst 1, 1) := by decide +kernel
theorem dX12_tellPart_380 : decode cX12_tellPart 380 = .ok (.invokevirtual 292, 3) := by decide +kernel
theorem dX12_tellPart_383 : decode cX12_tellPart 383 = .ok (.aload_n 0, 1) := by decide +kernel
theorem dX12_tellPart_384 : decode cX12_tellPart 384 = .ok (.iconst 4, 1) := by decide +kernel
theorem dX12_tellPart_385 : decode cX12_tellPart 385 = .ok (.invokevirtual 292, 3) := by decide +kernel
theorem dX12_tellPart_388 : decode cX12_tellPart 388 = .ok (.aload_n 0, 1) := by decide +kernel
theorem dX12_tellPart_389 : decode cX12_tellPart 389 = .ok (.getfield 261, 3) := by decide +kernel
theorem dX12_tellPart_392 : decode cX12_tellPart 392 = .ok (.ifCond .le 4, 3) := by decide +kernel
theorem dX12_tellPart_395 : decode cX12_tellPart 395 = .ok (.return_, 1) := by decide +kernel
theorem dX12_tellPart_396 : decode cX12_tellPart 396 = .ok (.aload_n 0, 1) := by decide +kernel
theorem dX12_tellPart_397 : decode cX12_tellPart 397 = .ok (.iload_n 3, 1) := by decide +kernel
theorem dX12_tellPart_398 : decode cX12_tellPart 398 = .ok (.iconst 4, 1) := by decide +kernel
theorem dX12_tellPart_399 : decode cX12_tellPart 399 = .ok (.invokevirtual 339, 3) := by decide +kernel
theorem dX12_tellPart_402 : decode cX12_tellPart 402 = .ok (.goto 131, 3) := by decide +kernel
theorem dX12_tellPart_405 : decode cX12_tellPart 405 = .ok (.aload_n 0, 1) := by decide +kernel
theorem dX12_tellPart_406 : decode cX12_tellPart 406 = .ok (.iconst 4, 1) := by decide +kernel
theorem dX12_tellPart_407 : decode cX12_tellPart 407 = .ok (.invokevirtual 342, 3) := by decide +kernel
theorem dX12_tellPart_410 : decode cX12_tellPart 410 = .ok (.istore 4, 2) := by decide +kernel
theorem dX12_tellPart_412 : decode cX12_tellPart 412 = .ok (.aload_n 0, 1) := by decide +kernel
theorem dX12_tellPart_413 : decode cX12_tellPart 413 = .ok (.getfield 264, 3) := by decide +kernel
theorem dX12_tellPart_416 : decode cX12_tellPart 416 = .ok (.istore 5, 2) := by decide +kernel
theorem dX12_tellPart_418 : decode cX12_tellPart 418 = .ok (.aload_n 0, 1) := by decide +kernel
theorem dX12_tellPart_419 : decode cX12_tellPart 419 = .ok (.iconst 4, 1) := by decide +kernel
theorem dX12_tellPart_420 : decode cX12_tellPart 420 = .ok (.invokevirtual 342, 3) := by decide +kernel
theorem dX12_tellPart_423 : decode cX12_tellPart 423 = .ok (.istore 6, 2) := by decide +kernel
theorem dX12_tellPart_425 : decode cX12_tellPart 425 = .ok (.iconst (-1), 1) := by decide +kernel
theorem dX12_tellPart_426 : decode cX12_tellPart 426 = .ok (.istore 7, 2) := by decide +kernel
theorem dX12_tellPart_428 : decode cX12_tellPart 428 = .ok (.aload_n 0, 1) := by decide +kernel
theorem dX12_tellPart_429 : decode cX12_tellPart 429 = .ok (.bipush 26, 2) := by decide +kernel
theorem dX12_tellPart_431 : decode cX12_tellPart 431 = .ok (.invokevirtual 279, 3) := by decide +kernel
theorem dX12_tellPart_434 : decode cX12_tellPart 434 = .ok (.ifCond .eq 14, 3) := by decide +kernel
theorem dX12_tellPart_437 : decode cX12_tellPart 437 = .ok (.aload_n 0, 1) := by decide +kernel
theorem dX12_tellPart_438 : decode cX12_tellPart 438 = .ok (.invokevirtual 282, 3) := by decide +kernel
theorem dX12_tellPart_441 : decode cX12_tellPart 441 = .ok (.aload_n 0, 1) := by decide +kernel
theorem dX12_tellPart_442 : decode cX12_tellPart 442 = .ok (.iconst 0, 1) := by decide +kernel
theorem dX12_tellPart_443 : decode cX12_tellPart 443 = .ok (.invokevirtual 342, 3) := by decide +kernel
theorem dX12_tellPart_446 : decode cX12_tellPart 446 = .ok (.istore 7, 2) := by decide +kernel
theorem dX12_tellPart_448 : decode cX12_tellPart 448 = .ok (.aload_n 0, 1) := by decide +kernel
theorem dX12_tellPart_449 : decode cX12_tellPart 449 = .ok (.iconst 4, 1) := by decide +kernel
theorem dX12_tellPart_450 : decode cX12_tellPart 450 = .ok (.invokevirtual 292, 3) := by decide +kernel
theorem dX12_tellPart_453 : decode cX12_tellPart 453 = .ok (.aload_n 0, 1) := by decide +kernel
theorem dX12_tellPart_454 : decode cX12_tellPart 454 = .ok (.getfield 261, 3) := by decide +kernel
theorem dX12_tellPart_457 : decode cX12_tellPart 457 = .ok (.ifCond .le 4, 3) := by decide +kernel
theorem dX12_tellPart_460 : decode cX12_tellPart 460 = .ok (.return_, 1) := by decide +kernel
theorem dX12_tellPart_461 : decode cX12_tellPart 461 = .ok (.aload_n 0, 1) := by decide +kernel
theorem dX12_tellPart_462 : decode cX12_tellPart 462 = .ok (.getfield 30, 3) := by decide +kernel
theorem dX12_tellPart_465 : decode cX12_tellPart 465 = .ok (.iload_n 3, 1) := by decide +kernel
theorem dX12_tellPart_466 : decode cX12_tellPart 466 = .ok (.laload, 1) := by decide +kernel
theorem dX12_tellPart_467 : decode cX12_tellPart 467 = .ok (.aload_n 0, 1) := by decide +kernel
theorem dX12_tellPart_468 : decode cX12_tellPart 468 = .ok (.getfield 30, 3) := by decide +kernel
theorem dX12_tellPart_471 : decode cX12_tellPart 471 = .ok (.iload 5, 2) := by decide +kernel
theorem dX12_tellPart_473 : decode cX12_tellPart 473 = .ok (.laload, 1) := by decide +kernel
theorem dX12_tellPart_474 : decode cX12_tellPart 474 = .ok (.lcmp, 1) := by decide +kernel
theorem dX12_tellPart_475 : decode cX12_tellPart 475 = .ok (.ifCond .ne 10, 3) := by decide +kernel
theorem dX12_tellPart_478 : decode cX12_tellPart 478 = .ok (.aload_n 0, 1) := by decide +kernel
theorem dX12_tellPart_479 : decode cX12_tellPart 479 = .ok (.iconst 5, 1) := by decide +kernel
theorem dX12_tellPart_480 : decode cX12_tellPart 480 = .ok (.iload 5, 2) := by decide +kernel
theorem dX12_tellPart_482 : decode cX12_tellPart 482 = .ok (.invokevirtual 288, 3) := by decide +kernel
theorem dX12_tellPart_485 : decode cX12_tellPart 485 = .ok (.aload_n 0, 1) := by decide +kernel
theorem dX12_tellPart_486 : decode cX12_tellPart 486 = .ok (.getfield 67, 3) := by decide +kernel
theorem dX12_tellPart_489 : decode cX12_tellPart 489 = .ok (.bipush 24, 2) := by decide +kernel
theorem dX12_tellPart_491 : decode cX12_tellPart 491 = .ok (.aload_n 0, 1) := by decide +kernel
theorem dX12_tellPart_492 : decode cX12_tellPart 492 = .ok (.getfield 299, 3) := by decide +kernel
theorem dX12_tellPart_495 : decode cX12_tellPart 495 = .ok (.imul, 1) := by decide +kernel
theorem dX12_tellPart_496 : decode cX12_tellPart 496 = .ok (.iload_n 2, 1) := by decide +kernel
theorem dX12_tellPart_497 : decode cX12_tellPart 497 = .ok (.iadd, 1) := by decide +kernel
theorem dX12_tellPart_498 : decode cX12_tellPart 498 = .ok (.iload 4, 2) := by decide +kernel
theorem dX12_tellPart_500 : decode cX12_tellPart 500 = .ok (.iastore, 1) := by decide +kernel
theorem dX12_tellPart_501 : decode cX12_tellPart 501 = .ok (.aload_n 0, 1) := by decide +kernel
theorem dX12_tellPart_502 : decode cX12_tellPart 502 = .ok (.getfield 70, 3) := by decide +kernel
theorem dX12_tellPart_505 : decode cX12_tellPart 505 = .ok (.bipush 24, 2) := by decide +kernel
theorem dX12_tellPart_507 : decode cX12_tellPart 507 = .ok (.aload_n 0, 1) := by decide +kernel
theorem dX12_tellPart_508 : decode cX12_tellPart 508 = .ok (.getfield 299, 3) := by decide +kernel
theorem dX12_tellPart_511 : decode cX12_tellPart 511 = .ok (.imul, 1) := by decide +kernel
theorem dX12_tellPart_512 : decode cX12_tellPart 512 = .ok (.iload_n 2, 1) := by decide +kernel
theorem dX12_tellPart_513 : decode cX12_tellPart 513 = .ok (.iadd, 1) := by decide +kernel
theorem dX12_tellPart_514 : decode cX12_tellPart 514 = .ok (.iload 6, 2) := by decide +kernel
theorem dX12_tellPart_516 : decode cX12_tellPart 516 = .ok (.iastore, 1) := by decide +kernel
theorem dX12_tellPart_517 : decode cX12_tellPart 517 = .ok (.aload_n 0, 1) := by decide +kernel
theorem dX12_tellPart_518 : decode cX12_tellPart 518 = .ok (.getfield 73, 3) := by decide +kernel
theorem dX12_tellPart_521 : decode cX12_tellPart 521 = .ok (.bipush 24, 2) := by decide +kernel
theorem dX12_tellPart_523 : decode cX12_tellPart 523 = .ok (.aload_n 0, 1) := by decide +kernel
theorem dX12_tellPart_524 : decode cX12_tellPart 524 = .ok (.getfield 299, 3) := by decide +kernel
theorem dX12_tellPart_527 : decode cX12_tellPart 527 = .ok (.imul, 1) := by decide +kernel
theorem dX12_tellPart_528 : decode cX12_tellPart 528 = .ok (.iload_n 2, 1) := by decide +kernel
theorem dX12_tellPart_529 : decode cX12_tellPart 529 = .ok (.iadd, 1) := by decide +kernel
theorem dX12_tellPart_530 : decode cX12_tellPart 530 = .ok (.iload 7, 2) := by decide +kernel
theorem dX12_tellPart_532 : decode cX12_tellPart 532 = .ok (.iastore, 1) := by decide +kernel
theorem dX12_tellPart_533 : decode cX12_tellPart 533 = .ok (.aload_n 0, 1) := by decide +kernel
theorem dX12_tellPart_534 : decode cX12_tellPart 534 = .ok (.getfield 40, 3) := by decide +kernel
theorem dX12_tellPart_537 : decode cX12_tellPart 537 = .ok (.bipush 9, 2) := by decide +kernel
theorem dX12_tellPart_539 : decode cX12_tellPart 539 = .ok (.aload_n 0, 1) := by decide +kernel
theorem dX12_tellPart_540 : decode cX12_tellPart 540 = .ok (.getfield 299, 3) := by decide +kernel
theorem dX12_tellPart_543 : decode cX12_tellPart 543 = .ok (.imul, 1) := by decide +kernel
theorem dX12_tellPart_544 : decode cX12_tellPart 544 = .ok (.iload_n 1, 1) := by decide +kernel
theorem dX12_tellPart_545 : decode cX12_tellPart 545 = .ok (.iadd, 1) := by decide +kernel
theorem dX12_tellPart_546 : decode cX12_tellPart 546 = .ok (.dup2, 1) := by decide +kernel
theorem dX12_tellPart_547 : decode cX12_tellPart 547 = .ok (.iaload, 1) := by decide +kernel
theorem dX12_tellPart_548 : decode cX12_tellPart 548 = .ok (.iconst 1, 1) := by decide +kernel
theorem dX12_tellPart_549 : decode cX12_tellPart 549 = .ok (.iadd, 1) := by decide +kernel
theorem dX12_tellPart_550 : decode cX12_tellPart 550 = .ok (.iastore, 1) := by decide +kernel
theorem dX12_tellPart_551 : decode cX12_tellPart 551 = .ok (.return_, 1) := by decide +kernel
theorem dX12_tellMode_0 : decode cX12_tellMode 0 = .ok (.aload_n 0, 1) := by decide +kernel
theorem dX12_tellMode_1 : decode cX12_tellMode 1 = .ok (.bipush 28, 2) := by decide +kernel
theorem dX12_tellMode_3 : decode cX12_tellMode 3 = .ok (.invokevirtual 279, 3) := by decide +kernel
theorem dX12_tellMode_6 : decode cX12_tellMode 6 = .ok (.ifCond .eq 17, 3) := by decide +kernel
theorem dX12_tellMode_9 : decode cX12_tellMode 9 = .ok (.aload_n 0, 1) := by decide +kernel
theorem dX12_tellMode_10 : decode cX12_tellMode 10 = .ok (.bipush 7, 2) := by decide +kernel
theorem dX12_tellMode_12 : decode cX12_tellMode 12 = .ok (.invokevirtual 336, 3) := by decide +kernel
theorem dX12_tellMode_15 : decode cX12_tellMode 15 = .ok (.ifCond .eq 8, 3) := by decide +kernel
theorem dX12_tellMode_18 : decode cX12_tellMode 18 = .ok (.aload_n 0, 1) := by decide +kernel
theorem dX12_tellMode_19 : decode cX12_tellMode 19 = .ok (.iconst 2, 1) := by decide +kernel
theorem dX12_tellMode_20 : decode cX12_tellMode 20 = .ok (.invokevirtual 276, 3) := by decide +kernel
theorem dX12_tellMode_23 : decode cX12_tellMode 23 = .ok (.aload_n 0, 1) := by decide +kernel
theorem dX12_tellMode_24 : decode cX12_tellMode 24 = .ok (.bipush 28, 2) := by decide +kernel
theorem dX12_tellMode_26 : decode cX12_tellMode 26 = .ok (.invokevirtual 292, 3) := by decide +kernel
theorem dX12_tellMode_29 : decode cX12_tellMode 29 = .ok (.aload_n 0, 1) := by decide +kernel
theorem dX12_tellMode_30 : decode cX12_tellMode 30 = .ok (.getfield 264, 3) := by decide +kernel
theorem dX12_tellMode_33 : decode cX12_tellMode 33 = .ok (.istore_n 1, 1) := by decide +kernel
theorem dX12_tellMode_34 : decode cX12_tellMode 34 = .ok (.aload_n 0, 1) := by decide +kernel
theorem dX12_tellMode_35 : decode cX12_tellMode 35 = .ok (.iconst 1, 1) := by decide +kernel
theorem dX12_tellMode_36 : decode cX12_tellMode 36 = .ok (.invokevirtual 292, 3) := by decide +kernel
theorem dX12_tellMode_39 : decode cX12_tellMode 39 = .ok (.aload_n 0, 1) := by decide +kernel
theorem dX12_tellMode_40 : decode cX12_tellMode 40 = .ok (.getfield 264, 3) := by decide +kernel
theorem dX12_tellMode_43 : decode cX12_tellMode 43 = .ok (.istore_n 2, 1) := by decide +kernel
theorem dX12_tellMode_44 : decode cX12_tellMode 44 = .ok (.aload_n 0, 1) := by decide +kernel
theorem dX12_tellMode_45 : decode cX12_tellMode 45 = .ok (.iconst 2, 1) := by decide +kernel
theorem dX12_tellMode_46 : decode cX12_tellMode 46 = .ok (.invokevirtual 292, 3) := by decide +kernel
theorem dX12_tellMode_49 : decode cX12_tellMode 49 = .ok (.aload_n 0, 1) := by decide +kernel
theorem dX12_tellMode_50 : decode cX12_tellMode 50 = .ok (.getfield 261, 3) := by decide +kernel
theorem dX12_tellMode_53 : decode cX12_tellMode 53 = .ok (.ifCond .le 4, 3) := by decide +kernel
theorem dX12_tellMode_56 : decode cX12_tellMode 56 = .ok (.return_, 1) := by decide +kernel
theorem dX12_tellMode_57 : decode cX12_tellMode 57 = .ok (.bipush 12, 2) := by decide +kernel
theorem dX12_tellMode_59 : decode cX12_tellMode 59 = .ok (.aload_n 0, 1) := by decide +kernel
theorem dX12_tellMode_60 : decode cX12_tellMode 60 = .ok (.getfield 299, 3) := by decide +kernel
theorem dX12_tellMode_63 : decode cX12_tellMode 63 = .ok (.imul, 1) := by decide +kernel
theorem dX12_tellMode_64 : decode cX12_tellMode 64 = .ok (.aload_n 0, 1) := by decide +kernel
theorem dX12_tellMode_65 : decode cX12_tellMode 65 = .ok (.getfield 40, 3) := by decide +kernel
theorem dX12_tellMode_68 : decode cX12_tellMode 68 = .ok (.bipush 9, 2) := by decide +kernel
theorem dX12_tellMode_70 : decode cX12_tellMode 70 = .ok (.aload_n 0, 1) := by decide +kernel
theorem dX12_tellMode_71 : decode cX12_tellMode 71 = .ok (.getfield 299, 3) := by decide +kernel
theorem dX12_tellMode_74 : decode cX12_tellMode 74 = .ok (.imul, 1) := by decide +kernel
theorem dX12_tellMode_75 : decode cX12_tellMode 75 = .ok (.bipush 7, 2) := by decide +kernel
theorem dX12_tellMode_77 : decode cX12_tellMode 77 = .ok (.iadd, 1) := by decide +kernel
theorem dX12_tellMode_78 : decode cX12_tellMode 78 = .ok (.iaload, 1) := by decide +kernel
theorem dX12_tellMode_79 : decode cX12_tellMode 79 = .ok (.iadd, 1) := by decide +kernel
theorem dX12_tellMode_80 : decode cX12_tellMode 80 = .ok (.istore_n 3, 1) := by decide +kernel
theorem dX12_tellMode_81 : decode cX12_tellMode 81 = .ok (.aload_n 0, 1) := by decide +kernel
theorem dX12_tellMode_82 : decode cX12_tellMode 82 = .ok (.iload_n 1, 1) := by decide +kernel
theorem dX12_tellMode_83 : decode cX12_tellMode 83 = .ok (.bipush 7, 2) := by decide +kernel
theorem dX12_tellMode_85 : decode cX12_tellMode 85 = .ok (.invokevirtual 339, 3) := by decide +kernel
theorem dX12_tellMode_88 : decode cX12_tellMode 88 = .ok (.aload_n 0, 1) := by decide +kernel
theorem dX12_tellMode_89 : decode cX12_tellMode 89 = .ok (.getfield 79, 3) := by decide +kernel
theorem dX12_tellMode_92 : decode cX12_tellMode 92 = .ok (.iload_n 3, 1) := by decide +kernel
theorem dX12_tellMode_93 : decode cX12_tellMode 93 = .ok (.aload_n 0, 1) := by decide +kernel
theorem dX12_tellMode_94 : decode cX12_tellMode 94 = .ok (.getfield 27, 3) := by decide +kernel
theorem dX12_tellMode_97 : decode cX12_tellMode 97 = .ok (.iload_n 2, 1) := by decide +kernel
theorem dX12_tellMode_98 : decode cX12_tellMode 98 = .ok (.iaload, 1) := by decide +kernel
theorem dX12_tellMode_99 : decode cX12_tellMode 99 = .ok (.iastore, 1) := by decide +kernel
theorem dX12_tellMode_100 : decode cX12_tellMode 100 = .ok (.aload_n 0, 1) := by decide +kernel
theorem dX12_tellMode_101 : decode cX12_tellMode 101 = .ok (.getfield 82, 3) := by decide +kernel
theorem dX12_tellMode_104 : decode cX12_tellMode 104 = .ok (.iload_n 3, 1) := by decide +kernel
theorem dX12_tellMode_105 : decode cX12_tellMode 105 = .ok (.iconst 0, 1) := by decide +kernel
theorem dX12_tellMode_106 : decode cX12_tellMode 106 = .ok (.iastore, 1) := by decide +kernel
theorem dX12_tellMode_107 : decode cX12_tellMode 107 = .ok (.aload_n 0, 1) := by decide +kernel
theorem dX12_tellMode_108 : decode cX12_tellMode 108 = .ok (.bipush 29, 2) := by decide +kernel
theorem dX12_tellMode_110 : decode cX12_tellMode 110 = .ok (.invokevirtual 279, 3) := by decide +kernel
theorem dX12_tellMode_113 : decode cX12_tellMode 113 = .ok (.ifCond .eq 56, 3) := by decide +kernel
theorem dX12_tellMode_116 : decode cX12_tellMode 116 = .ok (.aload_n 0, 1) := by decide +kernel
theorem dX12_tellMode_117 : decode cX12_tellMode 117 = .ok (.invokevirtual 282, 3) := by decide +kernel
theorem dX12_tellMode_120 : decode cX12_tellMode 120 = .ok (.aload_n 0, 1) := by decide +kernel
theorem dX12_tellMode_121 : decode cX12_tellMode 121 = .ok (.getfield 264, 3) := by decide +kernel
theorem dX12_tellMode_124 : decode cX12_tellMode 124 = .ok (.istore 4, 2) := by decide +kernel
theorem dX12_tellMode_126 : decode cX12_tellMode 126 = .ok (.aload_n 0, 1) := by decide +kernel
theorem dX12_tellMode_127 : decode cX12_tellMode 127 = .ok (.iconst 2, 1) := by decide +kernel
theorem dX12_tellMode_128 : decode cX12_tellMode 128 = .ok (.invokevirtual 292, 3) := by decide +kernel
theorem dX12_tellMode_131 : decode cX12_tellMode 131 = .ok (.aload_n 0, 1) := by decide +kernel
theorem dX12_tellMode_132 : decode cX12_tellMode 132 = .ok (.getfield 261, 3) := by decide +kernel
theorem dX12_tellMode_135 : decode cX12_tellMode 135 = .ok (.ifCond .le 4, 3) := by decide +kernel
theorem dX12_tellMode_138 : decode cX12_tellMode 138 = .ok (.return_, 1) := by decide +kernel
theorem dX12_tellMode_139 : decode cX12_tellMode 139 = .ok (.aload_n 0, 1) := by decide +kernel
theorem dX12_tellMode_140 : decode cX12_tellMode 140 = .ok (.getfield 82, 3) := by decide +kernel
theorem dX12_tellMode_143 : decode cX12_tellMode 143 = .ok (.iload_n 3, 1) := by decide +kernel
theorem dX12_tellMode_144 : decode cX12_tellMode 144 = .ok (.aload_n 0, 1) := by decide +kernel
theorem dX12_tellMode_145 : decode cX12_tellMode 145 = .ok (.getfield 27, 3) := by decide +kernel
theorem dX12_tellMode_148 : decode cX12_tellMode 148 = .ok (.iload 4, 2) := by decide +kernel
theorem dX12_tellMode_150 : decode cX12_tellMode 150 = .ok (.iaload, 1) := by decide +kernel
theorem dX12_tellMode_151 : decode cX12_tellMode 151 = .ok (.iastore, 1) := by decide +kernel
theorem dX12_tellMode_152 : decode cX12_tellMode 152 = .ok (.aload_n 0, 1) := by decide +kernel
theorem dX12_tellMode_153 : decode cX12_tellMode 153 = .ok (.getfield 27, 3) := by decide +kernel
theorem dX12_tellMode_156 : decode cX12_tellMode 156 = .ok (.iload 4, 2) := by decide +kernel
theorem dX12_tellMode_158 : decode cX12_tellMode 158 = .ok (.iaload, 1) := by decide +kernel
theorem dX12_tellMode_159 : decode cX12_tellMode 159 = .ok (.ifCond .ne 10, 3) := by decide +kernel
theorem dX12_tellMode_162 : decode cX12_tellMode 162 = .ok (.aload_n 0, 1) := by decide +kernel
theorem dX12_tellMode_163 : decode cX12_tellMode 163 = .ok (.iconst 5, 1) := by decide +kernel
theorem dX12_tellMode_164 : decode cX12_tellMode 164 = .ok (.iload 4, 2) := by decide +kernel
theorem dX12_tellMode_166 : decode cX12_tellMode 166 = .ok (.invokevirtual 288, 3) := by decide +kernel
theorem dX12_tellMode_169 : decode cX12_tellMode 169 = .ok (.aload_n 0, 1) := by decide +kernel
theorem dX12_tellMode_170 : decode cX12_tellMode 170 = .ok (.iconst 4, 1) := by decide +kernel
theorem dX12_tellMode_171 : decode cX12_tellMode 171 = .ok (.invokevirtual 292, 3) := by decide +kernel
theorem dX12_tellMode_174 : decode cX12_tellMode 174 = .ok (.aload_n 0, 1) := by decide +kernel
theorem dX12_tellMode_175 : decode cX12_tellMode 175 = .ok (.getfield 261, 3) := by decide +kernel
theorem dX12_tellMode_178 : decode cX12_tellMode 178 = .ok (.ifCond .le 4, 3) := by decide +kernel
theorem dX12_tellMode_181 : decode cX12_tellMode 181 = .ok (.return_, 1) := by decide +kernel
theorem dX12_tellMode_182 : decode cX12_tellMode 182 = .ok (.aload_n 0, 1) := by decide +kernel
theorem dX12_tellMode_183 : decode cX12_tellMode 183 = .ok (.getfield 40, 3) := by decide +kernel
theorem dX12_tellMode_186 : decode cX12_tellMode 186 = .ok (.bipush 9, 2) := by decide +kernel
theorem dX12_tellMode_188 : decode cX12_tellMode 188 = .ok (.aload_n 0, 1) := by decide +kernel
theorem dX12_tellMode_189 : decode cX12_tellMode 189 = .ok (.getfield 299, 3) := by decide +kernel
theorem dX12_tellMode_192 : decode cX12_tellMode 192 = .ok (.imul, 1) := by decide +kernel
theorem dX12_tellMode_193 : decode cX12_tellMode 193 = .ok (.bipush 7, 2) := by decide +kernel
theorem dX12_tellMode_195 : decode cX12_tellMode 195 = .ok (.iadd, 1) := by decide +kernel
theorem dX12_tellMode_196 : decode cX12_tellMode 196 = .ok (.iaload, 1) := by decide +kernel
theorem dX12_tellMode_197 : decode cX12_tellMode 197 = .ok (.istore 4, 2) := by decide +kernel
theorem dX12_tellMode_199 : decode cX12_tellMode 199 = .ok (.aload_n 0, 1) := by decide +kernel
theorem dX12_tellMode_200 : decode cX12_tellMode 200 = .ok (.getfield 85, 3) := by decide +kernel
theorem dX12_tellMode_203 : decode cX12_tellMode 203 = .ok (.bipush 13, 2) := by decide +kernel
theorem dX12_tellMode_205 : decode cX12_tellMode 205 = .ok (.aload_n 0, 1) := by decide +kernel
theorem dX12_tellMode_206 : decode cX12_tellMode 206 = .ok (.getfield 299, 3) := by decide +kernel
theorem dX12_tellMode_209 : decode cX12_tellMode 209 = .ok (.imul, 1) := by decide +kernel
theorem dX12_tellMode_210 : decode cX12_tellMode 210 = .ok (.iload 4, 2) := by decide +kernel
theorem dX12_tellMode_212 : decode cX12_tellMode 212 = .ok (.iadd, 1) := by decide +kernel
theorem dX12_tellMode_213 : decode cX12_tellMode 213 = .ok (.aload_n 0, 1) := by decide +kernel
theorem dX12_tellMode_214 : decode cX12_tellMode 214 = .ok (.getfield 40, 3) := by decide +kernel
theorem dX12_tellMode_217 : decode cX12_tellMode 217 = .ok (.bipush 9, 2) := by decide +kernel
theorem dX12_tellMode_219 : decode cX12_tellMode 219 = .ok (.aload_n 0, 1) := by decide +kernel
theorem dX12_tellMode_220 : decode cX12_tellMode 220 = .ok (.getfield 299, 3) := by decide +kernel
theorem dX12_tellMode_223 : decode cX12_tellMode 223 = .ok (.imul, 1) := by decide +kernel
theorem dX12_tellMode_224 : decode cX12_tellMode 224 = .ok (.bipush 8, 2) := by decide +kernel
theorem dX12_tellMode_226 : decode cX12_tellMode 226 = .ok (.iadd, 1) := by decide +kernel
theorem dX12_tellMode_227 : decode cX12_tellMode 227 = .ok (.iaload, 1) := by decide +kernel
theorem dX12_tellMode_228 : decode cX12_tellMode 228 = .ok (.iastore, 1) := by decide +kernel
theorem dX12_tellMode_229 : decode cX12_tellMode 229 = .ok (.aload_n 0, 1) := by decide +kernel
theorem dX12_tellMode_230 : decode cX12_tellMode 230 = .ok (.getfield 40, 3) := by decide +kernel
theorem dX12_tellMode_233 : decode cX12_tellMode 233 = .ok (.bipush 9, 2) := by decide +kernel
theorem dX12_tellMode_235 : decode cX12_tellMode 235 = .ok (.aload_n 0, 1) := by decide +kernel
theorem dX12_tellMode_236 : decode cX12_tellMode 236 = .ok (.getfield 299, 3) := by decide +kernel
theorem dX12_tellMode_239 : decode cX12_tellMode 239 = .ok (.imul, 1) := by decide +kernel
theorem dX12_tellMode_240 : decode cX12_tellMode 240 = .ok (.bipush 7, 2) := by decide +kernel
theorem dX12_tellMode_242 : decode cX12_tellMode 242 = .ok (.iadd, 1) := by decide +kernel
theorem dX12_tellMode_243 : decode cX12_tellMode 243 = .ok (.dup2, 1) := by decide +kernel
theorem dX12_tellMode_244 : decode cX12_tellMode 244 = .ok (.iaload, 1) := by decide +kernel
theorem dX12_tellMode_245 : decode cX12_tellMode 245 = .ok (.iconst 1, 1) := by decide +kernel
theorem dX12_tellMode_246 : decode cX12_tellMode 246 = .ok (.iadd, 1) := by decide +kernel
theorem dX12_tellMode_247 : decode cX12_tellMode 247 = .ok (.iastore, 1) := by decide +kernel
theorem dX12_tellMode_248 : decode cX12_tellMode 248 = .ok (.aload_n 0, 1) := by decide +kernel
theorem dX12_tellMode_249 : decode cX12_tellMode 249 = .ok (.getfield 261, 3) := by decide +kernel
theorem dX12_tellMode_252 : decode cX12_tellMode 252 = .ok (.ifCond .ne 19, 3) := by decide +kernel
theorem dX12_tellMode_255 : decode cX12_tellMode 255 = .ok (.aload_n 0, 1) := by decide +kernel
theorem dX12_tellMode_256 : decode cX12_tellMode 256 = .ok (.bipush 30, 2) := by decide +kernel
theorem dX12_tellMode_258 : decode cX12_tellMode 258 = .ok (.invokevirtual 279, 3) := by decide +kernel
theorem dX12_tellMode_261 : decode cX12_tellMode 261 = .ok (.ifCond .ne 10, 3) := by decide +kernel
theorem dX12_tellMode_264 : decode cX12_tellMode 264 = .ok (.aload_n 0, 1) := by decide +kernel
theorem dX12_tellMode_265 : decode cX12_tellMode 265 = .ok (.invokevirtual 345, 3) := by decide +kernel
theorem dX12_tellMode_268 : decode cX12_tellMode 268 = .ok (.goto (-20), 3) := by decide +kernel
theorem dX12_tellMode_271 : decode cX12_tellMode 271 = .ok (.aload_n 0, 1) := by decide +kernel
theorem dX12_tellMode_272 : decode cX12_tellMode 272 = .ok (.bipush 30, 2) := by decide +kernel
theorem dX12_tellMode_274 : decode cX12_tellMode 274 = .ok (.invokevirtual 292, 3) := by decide +kernel
theorem dX12_tellMode_277 : decode cX12_tellMode 277 = .ok (.aload_n 0, 1) := by decide +kernel
theorem dX12_tellMode_278 : decode cX12_tellMode 278 = .ok (.getfield 85, 3) := by decide +kernel
theorem dX12_tellMode_281 : decode cX12_tellMode 281 = .ok (.bipush 13, 2) := by decide +kernel
theorem dX12_tellMode_283 : decode cX12_tellMode 283 = .ok (.aload_n 0, 1) := by decide +kernel
theorem dX12_tellMode_284 : decode cX12_tellMode 284 = .ok (.getfield 299, 3) := by decide +kernel
theorem dX12_tellMode_287 : decode cX12_tellMode 287 = .ok (.imul, 1) := by decide +kernel
theorem dX12_tellMode_288 : decode cX12_tellMode 288 = .ok (.iload 4, 2) := by decide +kernel
theorem dX12_tellMode_290 : decode cX12_tellMode 290 = .ok (.iadd, 1) := by decide +kernel
theorem dX12_tellMode_291 : decode cX12_tellMode 291 = .ok (.iconst 1, 1) := by decide +kernel
theorem dX12_tellMode_292 : decode cX12_tellMode 292 = .ok (.iadd, 1) := by decide +kernel
theorem dX12_tellMode_293 : decode cX12_tellMode 293 = .ok (.aload_n 0, 1) := by decide +kernel
theorem dX12_tellMode_294 : decode cX12_tellMode 294 = .ok (.getfield 40, 3) := by decide +kernel
theorem dX12_tellMode_297 : decode cX12_tellMode 297 = .ok (.bipush 9, 2) := by decide +kernel
theorem dX12_tellMode_299 : decode cX12_tellMode 299 = .ok (.aload_n 0, 1) := by decide +kernel
theorem dX12_tellMode_300 : decode cX12_tellMode 300 = .ok (.getfield 299, 3) := by decide +kernel
theorem dX12_tellMode_303 : decode cX12_tellMode 303 = .ok (.imul, 1) := by decide +kernel
theorem dX12_tellMode_304 : decode cX12_tellMode 304 = .ok (.bipush 8, 2) := by decide +kernel
theorem dX12_tellMode_306 : decode cX12_tellMode 306 = .ok (.iadd, 1) := by decide +kernel
theorem dX12_tellMode_307 : decode cX12_tellMode 307 = .ok (.iaload, 1) := by decide +kernel
theorem dX12_tellMode_308 : decode cX12_tellMode 308 = .ok (.iastore, 1) := by decide +kernel
theorem dX12_tellMode_309 : decode cX12_tellMode 309 = .ok (.return_, 1) := by decide +kernel
theorem dX12_tellRule_0 : decode cX12_tellRule 0 = .ok (.aload_n 0, 1) := by decide +kernel
theorem dX12_tellRule_1 : decode cX12_tellRule 1 = .ok (.bipush 31, 2) := by decide +kernel
theorem dX12_tellRule_3 : decode cX12_tellRule 3 = .ok (.invokevirtual 279, 3) := by decide +kernel
theorem dX12_tellRule_6 : decode cX12_tellRule 6 = .ok (.ifCond .eq 17, 3) := by decide +kernel
theorem dX12_tellRule_9 : decode cX12_tellRule 9 = .ok (.aload_n 0, 1) := by decide +kernel
theorem dX12_tellRule_10 : decode cX12_tellRule 10 = .ok (.bipush 8, 2) := by decide +kernel
theorem dX12_tellRule_12 : decode cX12_tellRule 12 = .ok (.invokevirtual 336, 3) := by decide +kernel
theorem dX12_tellRule_15 : decode cX12_tellRule 15 = .ok (.ifCond .eq 8, 3) := by decide +kernel
theorem dX12_tellRule_18 : decode cX12_tellRule 18 = .ok (.aload_n 0, 1) := by decide +kernel
theorem dX12_tellRule_19 : decode cX12_tellRule 19 = .ok (.iconst 2, 1) := by decide +kernel
theorem dX12_tellRule_20 : decode cX12_tellRule 20 = .ok (.invokevirtual 276, 3) := by decide +kernel
theorem dX12_tellRule_23 : decode cX12_tellRule 23 = .ok (.aload_n 0, 1) := by decide +kernel
theorem dX12_tellRule_24 : decode cX12_tellRule 24 = .ok (.bipush 31, 2) := by decide +kernel
theorem dX12_tellRule_26 : decode cX12_tellRule 26 = .ok (.invokevirtual 292, 3) := by decide +kernel
theorem dX12_tellRule_29 : decode cX12_tellRule 29 = .ok (.aload_n 0, 1) := by decide +kernel
theorem dX12_tellRule_30 : decode cX12_tellRule 30 = .ok (.getfield 261, 3) := by decide +kernel
theorem dX12_tellRule_33 : decode cX12_tellRule 33 = .ok (.ifCond .le 4, 3) := by decide +kernel
theorem dX12_tellRule_36 : decode cX12_tellRule 36 = .ok (.return_, 1) := by decide +kernel
theorem dX12_tellRule_37 : decode cX12_tellRule 37 = .ok (.aload_n 0, 1) := by decide +kernel
theorem dX12_tellRule_38 : decode cX12_tellRule 38 = .ok (.getfield 40, 3) := by decide +kernel
theorem dX12_tellRule_41 : decode cX12_tellRule 41 = .ok (.bipush 9, 2) := by decide +kernel
theorem dX12_tellRule_43 : decode cX12_tellRule 43 = .ok (.aload_n 0, 1) := by decide +kernel
theorem dX12_tellRule_44 : decode cX12_tellRule 44 = .ok (.getfield 299, 3) := by decide +kernel
theorem dX12_tellRule_47 : decode cX12_tellRule 47 = .ok (.imul, 1) := by decide +kernel
theorem dX12_tellRule_48 : decode cX12_tellRule 48 = .ok (.bipush 8, 2) := by decide +kernel
theorem dX12_tellRule_50 : decode cX12_tellRule 50 = .ok (.iadd, 1) := by decide +kernel
theorem dX12_tellRule_51 : decode cX12_tellRule 51 = .ok (.iaload, 1) := by decide +kernel
theorem dX12_tellRule_52 : decode cX12_tellRule 52 = .ok (.istore_n 1, 1) := by decide +kernel
theorem dX12_tellRule_53 : decode cX12_tellRule 53 = .ok (.bipush 80, 2) := by decide +kernel
theorem dX12_tellRule_55 : decode cX12_tellRule 55 = .ok (.aload_n 0, 1) := by decide +kernel
theorem dX12_tellRule_56 : decode cX12_tellRule 56 = .ok (.getfield 299, 3) := by decide +kernel
theorem dX12_tellRule_59 : decode cX12_tellRule 59 = .ok (.imul, 1) := by decide +kernel
theorem dX12_tellRule_60 : decode cX12_tellRule 60 = .ok (.iload_n 1, 1) := by decide +kernel
theorem dX12_tellRule_61 : decode cX12_tellRule 61 = .ok (.iadd, 1) := by decide +kernel
theorem dX12_tellRule_62 : decode cX12_tellRule 62 = .ok (.istore_n 2, 1) := by decide +kernel
theorem dX12_tellRule_63 : decode cX12_tellRule 63 = .ok (.aload_n 0, 1) := by decide +kernel
theorem dX12_tellRule_64 : decode cX12_tellRule 64 = .ok (.getfield 88, 3) := by decide +kernel
theorem dX12_tellRule_67 : decode cX12_tellRule 67 = .ok (.iload_n 2, 1) := by decide +kernel
theorem dX12_tellRule_68 : decode cX12_tellRule 68 = .ok (.aload_n 0, 1) := by decide +kernel
theorem dX12_tellRule_69 : decode cX12_tellRule 69 = .ok (.bipush 32, 2) := by decide +kernel
theorem dX12_tellRule_71 : decode cX12_tellRule 71 = .ok (.invokevirtual 279, 3) := by decide +kernel
theorem dX12_tellRule_74 : decode cX12_tellRule 74 = .ok (.ifCond .eq 7, 3) := by decide +kernel
theorem dX12_tellRule_77 : decode cX12_tellRule 77 = .ok (.iconst (-1), 1) := by decide +kernel
theorem dX12_tellRule_78 : decode cX12_tellRule 78 = .ok (.goto 5, 3) := by decide +kernel
theorem dX12_tellRule_81 : decode cX12_tellRule 81 = .ok (.bipush (-2), 2) := by decide +kernel
theorem dX12_tellRule_83 : decode cX12_tellRule 83 = .ok (.iastore, 1) := by decide +kernel
theorem dX12_tellRule_84 : decode cX12_tellRule 84 = .ok (.aload_n 0, 1) := by decide +kernel
theorem dX12_tellRule_85 : decode cX12_tellRule 85 = .ok (.bipush 32, 2) := by decide +kernel
theorem dX12_tellRule_87 : decode cX12_tellRule 87 = .ok (.invokevirtual 279, 3) := by decide +kernel
theorem dX12_tellRule_90 : decode cX12_tellRule 90 = .ok (.ifCond .ne 12, 3) := by decide +kernel
theorem dX12_tellRule_93 : decode cX12_tellRule 93 = .ok (.aload_n 0, 1) := by decide +kernel
theorem dX12_tellRule_94 : decode cX12_tellRule 94 = .ok (.bipush 33, 2) := by decide +kernel
theorem dX12_tellRule_96 : decode cX12_tellRule 96 = .ok (.invokevirtual 279, 3) := by decide +kernel
theorem dX12_tellRule_99 : decode cX12_tellRule 99 = .ok (.ifCond .eq 10, 3) := by decide +kernel
theorem dX12_tellRule_102 : decode cX12_tellRule 102 = .ok (.aload_n 0, 1) := by decide +kernel
theorem dX12_tellRule_103 : decode cX12_tellRule 103 = .ok (.invokevirtual 282, 3) := by decide +kernel
theorem dX12_tellRule_106 : decode cX12_tellRule 106 = .ok (.goto 14, 3) := by decide +kernel
theorem dX12_tellRule_109 : decode cX12_tellRule 109 = .ok (.aload_n 0, 1) := by decide +kernel
theorem dX12_tellRule_110 : decode cX12_tellRule 110 = .ok (.getfield 88, 3) := by decide +kernel
theorem dX12_tellRule_113 : decode cX12_tellRule 113 = .ok (.iload_n 2, 1) := by decide +kernel
theorem dX12_tellRule_114 : decode cX12_tellRule 114 = .ok (.aload_n 0, 1) := by decide +kernel
theorem dX12_tellRule_115 : decode cX12_tellRule 115 = .ok (.iconst 0, 1) := by decide +kernel
theorem dX12_tellRule_116 : decode cX12_tellRule 116 = .ok (.invokevirtual 342, 3) := by decide +kernel
theorem dX12_tellRule_119 : decode cX12_tellRule 119 = .ok (.iastore, 1) := by decide +kernel
theorem dX12_tellRule_120 : decode cX12_tellRule 120 = .ok (.aload_n 0, 1) := by decide +kernel
theorem dX12_tellRule_121 : decode cX12_tellRule 121 = .ok (.getfield 91, 3) := by decide +kernel
theorem dX12_tellRule_124 : decode cX12_tellRule 124 = .ok (.bipush 81, 2) := by decide +kernel
theorem dX12_tellRule_126 : decode cX12_tellRule 126 = .ok (.aload_n 0, 1) := by decide +kernel
theorem dX12_tellRule_127 : decode cX12_tellRule 127 = .ok (.getfield 299, 3) := by decide +kernel
theorem dX12_tellRule_130 : decode cX12_tellRule 130 = .ok (.imul, 1) := by decide +kernel
theorem dX12_tellRule_131 : decode cX12_tellRule 131 = .ok (.iload_n 1, 1) := by decide +kernel
theorem dX12_tellRule_132 : decode cX12_tellRule 132 = .ok (.iadd, 1) := by decide +kernel
theorem dX12_tellRule_133 : decode cX12_tellRule 133 = .ok (.aload_n 0, 1) := by decide +kernel
theorem dX12_tellRule_134 : decode cX12_tellRule 134 = .ok (.getfield 311, 3) := by decide +kernel
theorem dX12_tellRule_137 : decode cX12_tellRule 137 = .ok (.iastore, 1) := by decide +kernel
theorem dX12_tellRule_138 : decode cX12_tellRule 138 = .ok (.aload_n 0, 1) := by decide +kernel
theorem dX12_tellRule_139 : decode cX12_tellRule 139 = .ok (.bipush 34, 2) := by decide +kernel
theorem dX12_tellRule_141 : decode cX12_tellRule 141 = .ok (.invokevirtual 279, 3) := by decide +kernel
theorem dX12_tellRule_144 : decode cX12_tellRule 144 = .ok (.ifCond .eq 31, 3) := by decide +kernel
theorem dX12_tellRule_147 : decode cX12_tellRule 147 = .ok (.aload_n 0, 1) := by decide +kernel
theorem dX12_tellRule_148 : decode cX12_tellRule 148 = .ok (.invokevirtual 282, 3) := by decide +kernel
theorem dX12_tellRule_151 : decode cX12_tellRule 151 = .ok (.aload_n 0, 1) := by decide +kernel
theorem dX12_tellRule_152 : decode cX12_tellRule 152 = .ok (.invokevirtual 348, 3) := by decide +kernel
theorem dX12_tellRule_155 : decode cX12_tellRule 155 = .ok (.aload_n 0, 1) := by decide +kernel
theorem dX12_tellRule_156 : decode cX12_tellRule 156 = .ok (.bipush 44, 2) := by decide +kernel
theorem dX12_tellRule_158 : decode cX12_tellRule 158 = .ok (.invokevirtual 279, 3) := by decide +kernel
theorem dX12_tellRule_161 : decode cX12_tellRule 161 = .ok (.ifCond .eq 14, 3) := by decide +kernel
theorem dX12_tellRule_164 : decode cX12_tellRule 164 = .ok (.aload_n 0, 1) := by decide +kernel
theorem dX12_tellRule_165 : decode cX12_tellRule 165 = .ok (.invokevirtual 282, 3) := by decide +kernel
theorem dX12_tellRule_168 : decode cX12_tellRule 168 = .ok (.aload_n 0, 1) := by decide +kernel
theorem dX12_tellRule_169 : decode cX12_tellRule 169 = .ok (.invokevirtual 348, 3) := by decide +kernel
theorem dX12_tellRule_172 : decode cX12_tellRule 172 = .ok (.goto (-17), 3) := by decide +kernel
theorem dX12_tellRule_175 : decode cX12_tellRule 175 = .ok (.aload_n 0, 1) := by decide +kernel
theorem dX12_tellRule_176 : decode cX12_tellRule 176 = .ok (.getfield 91, 3) := by decide +kernel
theorem dX12_tellRule_179 : decode cX12_tellRule 179 = .ok (.bipush 81, 2) := by decide +kernel
theorem dX12_tellRule_181 : decode cX12_tellRule 181 = .ok (.aload_n 0, 1) := by decide +kernel
theorem dX12_tellRule_182 : decode cX12_tellRule 182 = .ok (.getfield 299, 3) := by decide +kernel
theorem dX12_tellRule_185 : decode cX12_tellRule 185 = .ok (.imul, 1) := by decide +kernel
theorem dX12_tellRule_186 : decode cX12_tellRule 186 = .ok (.iload_n 1, 1) := by decide +kernel
theorem dX12_tellRule_187 : decode cX12_tellRule 187 = .ok (.iadd, 1) := by decide +kernel
theorem dX12_tellRule_188 : decode cX12_tellRule 188 = .ok (.iconst 1, 1) := by decide +kernel
theorem dX12_tellRule_189 : decode cX12_tellRule 189 = .ok (.iadd, 1) := by decide +kernel
theorem dX12_tellRule_190 : decode cX12_tellRule 190 = .ok (.aload_n 0, 1) := by decide +kernel
theorem dX12_tellRule_191 : decode cX12_tellRule 191 = .ok (.getfield 311, 3) := by decide +kernel
theorem dX12_tellRule_194 : decode cX12_tellRule 194 = .ok (.iastore, 1) := by decide +kernel
theorem dX12_tellRule_195 : decode cX12_tellRule 195 = .ok (.aload_n 0, 1) := by decide +kernel
theorem dX12_tellRule_196 : decode cX12_tellRule 196 = .ok (.iconst 5, 1) := by decide +kernel
theorem dX12_tellRule_197 : decode cX12_tellRule 197 = .ok (.invokevirtual 292, 3) := by decide +kernel
theorem dX12_tellRule_200 : decode cX12_tellRule 200 = .ok (.aload_n 0, 1) := by decide +kernel
theorem dX12_tellRule_201 : decode cX12_tellRule 201 = .ok (.getfield 94, 3) := by decide +kernel
theorem dX12_tellRule_204 : decode cX12_tellRule 204 = .ok (.bipush 81, 2) := by decide +kernel
theorem dX12_tellRule_206 : decode cX12_tellRule 206 = .ok (.aload_n 0, 1) := by decide +kernel
theorem dX12_tellRule_207 : decode cX12_tellRule 207 = .ok (.getfield 299, 3) := by decide +kernel
theorem dX12_tellRule_210 : decode cX12_tellRule 210 = .ok (.imul, 1) := by decide +kernel
theorem dX12_tellRule_211 : decode cX12_tellRule 211 = .ok (.iload_n 1, 1) := by decide +kernel
theorem dX12_tellRule_212 : decode cX12_tellRule 212 = .ok (.iadd, 1) := by decide +kernel
theorem dX12_tellRule_213 : decode cX12_tellRule 213 = .ok (.aload_n 0, 1) := by decide +kernel
theorem dX12_tellRule_214 : decode cX12_tellRule 214 = .ok (.getfield 314, 3) := by decide +kernel
theorem dX12_tellRule_217 : decode cX12_tellRule 217 = .ok (.iastore, 1) := by decide +kernel
theorem dX12_tellRule_218 : decode cX12_tellRule 218 = .ok (.iconst 0, 1) := by decide +kernel
theorem dX12_tellRule_219 : decode cX12_tellRule 219 = .ok (.istore_n 3, 1) := by decide +kernel
theorem dX12_tellRule_220 : decode cX12_tellRule 220 = .ok (.iconst 1, 1) := by decide +kernel
theorem dX12_tellRule_221 : decode cX12_tellRule 221 = .ok (.istore 4, 2) := by decide +kernel
theorem dX12_tellRule_223 : decode cX12_tellRule 223 = .ok (.iload 4, 2) := by decide +kernel
theorem dX12_tellRule_225 : decode cX12_tellRule 225 = .ok (.ifCond .eq 76, 3) := by decide +kernel
theorem dX12_tellRule_228 : decode cX12_tellRule 228 = .ok (.aload_n 0, 1) := by decide +kernel
theorem dX12_tellRule_229 : decode cX12_tellRule 229 = .ok (.getfield 261, 3) := by decide +kernel
theorem dX12_tellRule_232 : decode cX12_tellRule 232 = .ok (.ifCond .ne 69, 3) := by decide +kernel
theorem dX12_tellRule_235 : decode cX12_tellRule 235 = .ok (.aload_n 0, 1) := by decide +kernel
theorem dX12_tellRule_236 : decode cX12_tellRule 236 = .ok (.getfield 20, 3) := by decide +kernel
theorem dX12_tellRule_239 : decode cX12_tellRule 239 = .ok (.aload_n 0, 1) := by decide +kernel
theorem dX12_tellRule_240 : decode cX12_tellRule 240 = .ok (.getfield 264, 3) := by decide +kernel
theorem dX12_tellRule_243 : decode cX12_tellRule 243 = .ok (.iaload, 1) := by decide +kernel
theorem dX12_tellRule_244 : decode cX12_tellRule 244 = .ok (.bipush 35, 2) := by decide +kernel
theorem dX12_tellRule_246 : decode cX12_tellRule 246 = .ok (.if_icmp .lt 28, 3) := by decide +kernel
theorem dX12_tellRule_249 : decode cX12_tellRule 249 = .ok (.aload_n 0, 1) := by decide +kernel
theorem dX12_tellRule_250 : decode cX12_tellRule 250 = .ok (.getfield 20, 3) := by decide +kernel
theorem dX12_tellRule_253 : decode cX12_tellRule 253 = .ok (.aload_n 0, 1) := by decide +kernel
theorem dX12_tellRule_254 : decode cX12_tellRule 254 = .ok (.getfield 264, 3) := by decide +kernel
theorem dX12_tellRule_257 : decode cX12_tellRule 257 = .ok (.iaload, 1) := by decide +kernel
theorem dX12_tellRule_258 : decode cX12_tellRule 258 = .ok (.bipush 43, 2) := by decide +kernel
theorem dX12_tellRule_260 : decode cX12_tellRule 260 = .ok (.if_icmp .gt 14, 3) := by decide +kernel
theorem dX12_tellRule_263 : decode cX12_tellRule 263 = .ok (.iload_n 3, 1) := by decide +kernel
theorem dX12_tellRule_264 : decode cX12_tellRule 264 = .ok (.bipush 12, 2) := by decide +kernel
theorem dX12_tellRule_266 : decode cX12_tellRule 266 = .ok (.if_icmp .ne 8, 3) := by decide +kernel
theorem dX12_tellRule_269 : decode cX12_tellRule 269 = .ok (.aload_n 0, 1) := by decide +kernel
theorem dX12_tellRule_270 : decode cX12_tellRule 270 = .ok (.iconst 2, 1) := by decide +kernel
theorem dX12_tellRule_271 : decode cX12_tellRule 271 = .ok (.invokevirtual 276, 3) := by decide +kernel
theorem dX12_tellRule_274 : decode cX12_tellRule 274 = .ok (.aload_n 0, 1) := by decide +kernel
theorem dX12_tellRule_275 : decode cX12_tellRule 275 = .ok (.invokevirtual 351, 3) := by decide +kernel
theorem dX12_tellRule_278 : decode cX12_tellRule 278 = .ok (.iinc 3 1, 3) := by decide +kernel
theorem dX12_tellRule_281 : decode cX12_tellRule 281 = .ok (.aload_n 0, 1) := by decide +kernel
theorem dX12_tellRule_282 : decode cX12_tellRule 282 = .ok (.bipush 6, 2) := by decide +kernel
theorem dX12_tellRule_284 : decode cX12_tellRule 284 = .ok (.invokevirtual 279, 3) := by decide +kernel
theorem dX12_tellRule_287 : decode cX12_tellRule 287 = .ok (.istore 4, 2) := by decide +kernel
theorem dX12_tellRule_289 : decode cX12_tellRule 289 = .ok (.iload 4, 2) := by decide +kernel
theorem dX12_tellRule_291 : decode cX12_tellRule 291 = .ok (.ifCond .eq (-68), 3) := by decide +kernel
theorem dX12_tellRule_294 : decode cX12_tellRule 294 = .ok (.aload_n 0, 1) := by decide +kernel
theorem dX12_tellRule_295 : decode cX12_tellRule 295 = .ok (.invokevirtual 282, 3) := by decide +kernel
theorem dX12_tellRule_298 : decode cX12_tellRule 298 = .ok (.goto (-75), 3) := by decide +kernel
theorem dX12_tellRule_301 : decode cX12_tellRule 301 = .ok (.aload_n 0, 1) := by decide +kernel
theorem dX12_tellRule_302 : decode cX12_tellRule 302 = .ok (.iconst 4, 1) := by decide +kernel
theorem dX12_tellRule_303 : decode cX12_tellRule 303 = .ok (.invokevirtual 292, 3) := by decide +kernel
theorem dX12_tellRule_306 : decode cX12_tellRule 306 = .ok (.aload_n 0, 1) := by decide +kernel
theorem dX12_tellRule_307 : decode cX12_tellRule 307 = .ok (.getfield 261, 3) := by decide +kernel
theorem dX12_tellRule_310 : decode cX12_tellRule 310 = .ok (.ifCond .le 4, 3) := by decide +kernel
theorem dX12_tellRule_313 : decode cX12_tellRule 313 = .ok (.return_, 1) := by decide +kernel
theorem dX12_tellRule_314 : decode cX12_tellRule 314 = .ok (.aload_n 0, 1) := by decide +kernel
theorem dX12_tellRule_315 : decode cX12_tellRule 315 = .ok (.getfield 40, 3) := by decide +kernel
theorem dX12_tellRule_318 : decode cX12_tellRule 318 = .ok (.bipush 9, 2) := by decide +kernel
theorem dX12_tellRule_320 : decode cX12_tellRule 320 = .ok (.aload_n 0, 1) := by decide +kernel
theorem dX12_tellRule_321 : decode cX12_tellRule 321 = .ok (.getfield 299, 3) := by decide +kernel
theorem dX12_tellRule_324 : decode cX12_tellRule 324 = .ok (.imul, 1) := by decide +kernel
theorem dX12_tellRule_325 : decode cX12_tellRule 325 = .ok (.bipush 8, 2) := by decide +kernel
theorem dX12_tellRule_327 : decode cX12_tellRule 327 = .ok (.iadd, 1) := by decide +kernel
theorem dX12_tellRule_328 : decode cX12_tellRule 328 = .ok (.dup2, 1) := by decide +kernel
theorem dX12_tellRule_329 : decode cX12_tellRule 329 = .ok (.iaload, 1) := by decide +kernel
theorem dX12_tellRule_330 : decode cX12_tellRule 330 = .ok (.iconst 1, 1) := by decide +kernel
theorem dX12_tellRule_331 : decode cX12_tellRule 331 = .ok (.iadd, 1) := by decide +kernel
theorem dX12_tellRule_332 : decode cX12_tellRule 332 = .ok (.iastore, 1) := by decide +kernel
theorem dX12_tellRule_333 : decode cX12_tellRule 333 = .ok (.aload_n 0, 1) := by decide +kernel
theorem dX12_tellRule_334 : decode cX12_tellRule 334 = .ok (.getfield 94, 3) := by decide +kernel
theorem dX12_tellRule_337 : decode cX12_tellRule 337 = .ok (.bipush 81, 2) := by decide +kernel
theorem dX12_tellRule_339 : decode cX12_tellRule 339 = .ok (.aload_n 0, 1) := by decide +kernel
theorem dX12_tellRule_340 : decode cX12_tellRule 340 = .ok (.getfield 299, 3) := by decide +kernel
theorem dX12_tellRule_343 : decode cX12_tellRule 343 = .ok (.imul, 1) := by decide +kernel
theorem dX12_tellRule_344 : decode cX12_tellRule 344 = .ok (.iload_n 1, 1) := by decide +kernel
theorem dX12_tellRule_345 : decode cX12_tellRule 345 = .ok (.iadd, 1) := by decide +kernel
theorem dX12_tellRule_346 : decode cX12_tellRule 346 = .ok (.iconst 1, 1) := by decide +kernel
theorem dX12_tellRule_347 : decode cX12_tellRule 347 = .ok (.iadd, 1) := by decide +kernel
theorem dX12_tellRule_348 : decode cX12_tellRule 348 = .ok (.aload_n 0, 1) := by decide +kernel
theorem dX12_tellRule_349 : decode cX12_tellRule 349 = .ok (.getfield 314, 3) := by decide +kernel
theorem dX12_tellRule_352 : decode cX12_tellRule 352 = .ok (.iastore, 1) := by decide +kernel
theorem dX12_tellRule_353 : decode cX12_tellRule 353 = .ok (.return_, 1) := by decide +kernel
theorem dX12_tellAct_0 : decode cX12_tellAct 0 = .ok (.aload_n 0, 1) := by decide +kernel
theorem dX12_tellAct_1 : decode cX12_tellAct 1 = .ok (.getfield 20, 3) := by decide +kernel
theorem dX12_tellAct_4 : decode cX12_tellAct 4 = .ok (.aload_n 0, 1) := by decide +kernel
theorem dX12_tellAct_5 : decode cX12_tellAct 5 = .ok (.getfield 264, 3) := by decide +kernel
theorem dX12_tellAct_8 : decode cX12_tellAct 8 = .ok (.iaload, 1) := by decide +kernel
theorem dX12_tellAct_9 : decode cX12_tellAct 9 = .ok (.istore_n 1, 1) := by decide +kernel
theorem dX12_tellAct_10 : decode cX12_tellAct 10 = .ok (.aload_n 0, 1) := by decide +kernel
theorem dX12_tellAct_11 : decode cX12_tellAct 11 = .ok (.getfield 261, 3) := by decide +kernel
theorem dX12_tellAct_14 : decode cX12_tellAct 14 = .ok (.ifCond .ne 20, 3) := by decide +kernel
theorem dX12_tellAct_17 : decode cX12_tellAct 17 = .ok (.iload_n 1, 1) := by decide +kernel
theorem dX12_tellAct_18 : decode cX12_tellAct 18 = .ok (.bipush 35, 2) := by decide +kernel
theorem dX12_tellAct_20 : decode cX12_tellAct 20 = .ok (.if_icmp .lt 9, 3) := by decide +kernel
theorem dX12_tellAct_23 : decode cX12_tellAct 23 = .ok (.iload_n 1, 1) := by decide +kernel
theorem dX12_tellAct_24 : decode cX12_tellAct 24 = .ok (.bipush 43, 2) := by decide +kernel
theorem dX12_tellAct_26 : decode cX12_tellAct 26 = .ok (.if_icmp .le 8, 3) := by decide +kernel
theorem dX12_tellAct_29 : decode cX12_tellAct 29 = .ok (.aload_n 0, 1) := by decide +kernel
theorem dX12_tellAct_30 : decode cX12_tellAct 30 = .ok (.iconst 1, 1) := by decide +kernel
theorem dX12_tellAct_31 : decode cX12_tellAct 31 = .ok (.invokevirtual 276, 3) := by decide +kernel
theorem dX12_tellAct_34 : decode cX12_tellAct 34 = .ok (.aload_n 0, 1) := by decide +kernel
theorem dX12_tellAct_35 : decode cX12_tellAct 35 = .ok (.invokevirtual 282, 3) := by decide +kernel
theorem dX12_tellAct_38 : decode cX12_tellAct 38 = .ok (.aload_n 0, 1) := by decide +kernel
theorem dX12_tellAct_39 : decode cX12_tellAct 39 = .ok (.getfield 261, 3) := by decide +kernel
theorem dX12_tellAct_42 : decode cX12_tellAct 42 = .ok (.ifCond .le 4, 3) := by decide +kernel
theorem dX12_tellAct_45 : decode cX12_tellAct 45 = .ok (.return_, 1) := by decide +kernel
theorem dX12_tellAct_46 : decode cX12_tellAct 46 = .ok (.iconst (-1), 1) := by decide +kernel
theorem dX12_tellAct_47 : decode cX12_tellAct 47 = .ok (.istore_n 2, 1) := by decide +kernel
theorem dX12_tellAct_48 : decode cX12_tellAct 48 = .ok (.iload_n 1, 1) := by decide +kernel
theorem dX12_tellAct_49 : decode cX12_tellAct 49 = .ok (.bipush 36, 2) := by decide +kernel
theorem dX12_tellAct_51 : decode cX12_tellAct 51 = .ok (.if_icmp .ne 10, 3) := by decide +kernel
theorem dX12_tellAct_54 : decode cX12_tellAct 54 = .ok (.aload_n 0, 1) := by decide +kernel
theorem dX12_tellAct_55 : decode cX12_tellAct 55 = .ok (.bipush 6, 2) := by decide +kernel
theorem dX12_tellAct_57 : decode cX12_tellAct 57 = .ok (.invokevirtual 342, 3) := by decide +kernel
theorem dX12_tellAct_60 : decode cX12_tellAct 60 = .ok (.istore_n 2, 1) := by decide +kernel
theorem dX12_tellAct_61 : decode cX12_tellAct 61 = .ok (.iload_n 1, 1) := by decide +kernel
theorem dX12_tellAct_62 : decode cX12_tellAct 62 = .ok (.bipush 39, 2) := by decide +kernel
theorem dX12_tellAct_64 : decode cX12_tellAct 64 = .ok (.if_icmp .ne 9, 3) := by decide +kernel
theorem dX12_tellAct_67 : decode cX12_tellAct 67 = .ok (.aload_n 0, 1) := by decide +kernel
theorem dX12_tellAct_68 : decode cX12_tellAct 68 = .ok (.iconst 1, 1) := by decide +kernel
theorem dX12_tellAct_69 : decode cX12_tellAct 69 = .ok (.invokevirtual 342, 3) := by decide +kernel
theorem dX12_tellAct_72 : decode cX12_tellAct 72 = .ok (.istore_n 2, 1) := by decide +kernel
theorem dX12_tellAct_73 : decode cX12_tellAct 73 = .ok (.iload_n 1, 1) := by decide +kernel
theorem dX12_tellAct_74 : decode cX12_tellAct 74 = .ok (.bipush 37, 2) := by decide +kernel
theorem dX12_tellAct_76 : decode cX12_tellAct 76 = .ok (.if_icmp .ne 52, 3) := by decide +kernel
theorem dX12_tellAct_79 : decode cX12_tellAct 79 = .ok (.aload_n 0, 1) := by decide +kernel
theorem dX12_tellAct_80 : decode cX12_tellAct 80 = .ok (.getfield 124, 3) := by decide +kernel
theorem dX12_tellAct_83 : decode cX12_tellAct 83 = .ok (.aload_n 0, 1) := by decide +kernel
theorem dX12_tellAct_84 : decode cX12_tellAct 84 = .ok (.getfield 320, 3) := by decide +kernel
theorem dX12_tellAct_87 : decode cX12_tellAct 87 = .ok (.aload_n 0, 1) := by decide +kernel
theorem dX12_tellAct_88 : decode cX12_tellAct 88 = .ok (.getfield 264, 3) := by decide +kernel
theorem dX12_tellAct_91 : decode cX12_tellAct 91 = .ok (.iastore, 1) := by decide +kernel
theorem dX12_tellAct_92 : decode cX12_tellAct 92 = .ok (.aload_n 0, 1) := by decide +kernel
theorem dX12_tellAct_93 : decode cX12_tellAct 93 = .ok (.iconst 1, 1) := by decide +kernel
theorem dX12_tellAct_94 : decode cX12_tellAct 94 = .ok (.invokevirtual 292, 3) := by decide +kernel
theorem dX12_tellAct_97 : decode cX12_tellAct 97 = .ok (.aload_n 0, 1) := by decide +kernel
theorem dX12_tellAct_98 : decode cX12_tellAct 98 = .ok (.getfield 261, 3) := by decide +kernel
theorem dX12_tellAct_101 : decode cX12_tellAct 101 = .ok (.ifCond .le 4, 3) := by decide +kernel
theorem dX12_tellAct_104 : decode cX12_tellAct 104 = .ok (.return_, 1) := by decide +kernel
theorem dX12_tellAct_105 : decode cX12_tellAct 105 = .ok (.aload_n 0, 1) := by decide +kernel
theorem dX12_tellAct_106 : decode cX12_tellAct 106 = .ok (.getfield 121, 3) := by decide +kernel
theorem dX12_tellAct_109 : decode cX12_tellAct 109 = .ok (.aload_n 0, 1) := by decide +kernel
theorem dX12_tellAct_110 : decode cX12_tellAct 110 = .ok (.getfield 320, 3) := by decide +kernel
theorem dX12_tellAct_113 : decode cX12_tellAct 113 = .ok (.aload_n 0, 1) := by decide +kernel
theorem dX12_tellAct_114 : decode cX12_tellAct 114 = .ok (.getfield 314, 3) := by decide +kernel
theorem dX12_tellAct_117 : decode cX12_tellAct 117 = .ok (.iastore, 1) := by decide +kernel
theorem dX12_tellAct_118 : decode cX12_tellAct 118 = .ok (.aload_n 0, 1) := by decide +kernel
theorem dX12_tellAct_119 : decode cX12_tellAct 119 = .ok (.dup, 1) := by decide +kernel
theorem dX12_tellAct_120 : decode cX12_tellAct 120 = .ok (.getfield 320, 3) := by decide +kernel
theorem dX12_tellAct_123 : decode cX12_tellAct 123 = .ok (.iconst 1, 1) := by decide +kernel
theorem dX12_tellAct_124 : decode cX12_tellAct 124 = .ok (.iadd, 1) := by decide +kernel
theorem dX12_tellAct_125 : decode cX12_tellAct 125 = .ok (.putfield 320, 3) := by decide +kernel
theorem dX12_tellAct_128 : decode cX12_tellAct 128 = .ok (.aload_n 0, 1) := by decide +kernel
theorem dX12_tellAct_129 : decode cX12_tellAct 129 = .ok (.getfield 317, 3) := by decide +kernel
theorem dX12_tellAct_132 : decode cX12_tellAct 132 = .ok (.istore_n 3, 1) := by decide +kernel
theorem dX12_tellAct_133 : decode cX12_tellAct 133 = .ok (.iload_n 1, 1) := by decide +kernel
theorem dX12_tellAct_134 : decode cX12_tellAct 134 = .ok (.bipush 35, 2) := by decide +kernel
theorem dX12_tellAct_136 : decode cX12_tellAct 136 = .ok (.if_icmp .eq 9, 3) := by decide +kernel
theorem dX12_tellAct_139 : decode cX12_tellAct 139 = .ok (.iload_n 1, 1) := by decide +kernel
theorem dX12_tellAct_140 : decode cX12_tellAct 140 = .ok (.bipush 36, 2) := by decide +kernel
theorem dX12_tellAct_142 : decode cX12_tellAct 142 = .ok (.if_icmp .ne 7, 3) := by decide +kernel
theorem dX12_tellAct_145 : decode cX12_tellAct 145 = .ok (.aload_n 0, 1) := by decide +kernel
theorem dX12_tellAct_146 : decode cX12_tellAct 146 = .ok (.invokevirtual 354, 3) := by decide +kernel
theorem dX12_tellAct_149 : decode cX12_tellAct 149 = .ok (.aload_n 0, 1) := by decide +kernel
theorem dX12_tellAct_150 : decode cX12_tellAct 150 = .ok (.getfield 261, 3) := by decide +kernel
theorem dX12_tellAct_153 : decode cX12_tellAct 153 = .ok (.ifCond .le 4, 3) := by decide +kernel
theorem dX12_tellAct_156 : decode cX12_tellAct 156 = .ok (.return_, 1) := by decide +kernel
theorem dX12_tellAct_157 : decode cX12_tellAct 157 = .ok (.aload_n 0, 1) := by decide +kernel
theorem dX12_tellAct_158 : decode cX12_tellAct 158 = .ok (.getfield 109, 3) := by decide +kernel
theorem dX12_tellAct_161 : decode cX12_tellAct 161 = .ok (.aload_n 0, 1) := by decide +kernel
theorem dX12_tellAct_162 : decode cX12_tellAct 162 = .ok (.getfield 314, 3) := by decide +kernel
theorem dX12_tellAct_165 : decode cX12_tellAct 165 = .ok (.iload_n 1, 1) := by decide +kernel
theorem dX12_tellAct_166 : decode cX12_tellAct 166 = .ok (.iastore, 1) := by decide +kernel
theorem dX12_tellAct_167 : decode cX12_tellAct 167 = .ok (.aload_n 0, 1) := by decide +kernel
theorem dX12_tellAct_168 : decode cX12_tellAct 168 = .ok (.getfield 112, 3) := by decide +kernel
theorem dX12_tellAct_171 : decode cX12_tellAct 171 = .ok (.aload_n 0, 1) := by decide +kernel
theorem dX12_tellAct_172 : decode cX12_tellAct 172 = .ok (.getfield 314, 3) := by decide +kernel
theorem dX12_tellAct_175 : decode cX12_tellAct 175 = .ok (.iload_n 2, 1) := by decide +kernel
theorem dX12_tellAct_176 : decode cX12_tellAct 176 = .ok (.iastore, 1) := by decide +kernel
theorem dX12_tellAct_177 : decode cX12_tellAct 177 = .ok (.aload_n 0, 1) := by decide +kernel
theorem dX12_tellAct_178 : decode cX12_tellAct 178 = .ok (.getfield 115, 3) := by decide +kernel
theorem dX12_tellAct_181 : decode cX12_tellAct 181 = .ok (.aload_n 0, 1) := by decide +kernel
theorem dX12_tellAct_182 : decode cX12_tellAct 182 = .ok (.getfield 314, 3) := by decide +kernel
theorem dX12_tellAct_185 : decode cX12_tellAct 185 = .ok (.iload_n 3, 1) := by decide +kernel
theorem dX12_tellAct_186 : decode cX12_tellAct 186 = .ok (.iastore, 1) := by decide +kernel
theorem dX12_tellAct_187 : decode cX12_tellAct 187 = .ok (.aload_n 0, 1) := by decide +kernel
theorem dX12_tellAct_188 : decode cX12_tellAct 188 = .ok (.getfield 118, 3) := by decide +kernel
theorem dX12_tellAct_191 : decode cX12_tellAct 191 = .ok (.aload_n 0, 1) := by decide +kernel
theorem dX12_tellAct_192 : decode cX12_tellAct 192 = .ok (.getfield 314, 3) := by decide +kernel
theorem dX12_tellAct_195 : decode cX12_tellAct 195 = .ok (.aload_n 0, 1) := by decide +kernel
theorem dX12_tellAct_196 : decode cX12_tellAct 196 = .ok (.getfield 317, 3) := by decide +kernel
theorem dX12_tellAct_199 : decode cX12_tellAct 199 = .ok (.iastore, 1) := by decide +kernel
theorem dX12_tellAct_200 : decode cX12_tellAct 200 = .ok (.aload_n 0, 1) := by decide +kernel
theorem dX12_tellAct_201 : decode cX12_tellAct 201 = .ok (.dup, 1) := by decide +kernel
theorem dX12_tellAct_202 : decode cX12_tellAct 202 = .ok (.getfield 314, 3) := by decide +kernel
theorem dX12_tellAct_205 : decode cX12_tellAct 205 = .ok (.iconst 1, 1) := by decide +kernel
theorem dX12_tellAct_206 : decode cX12_tellAct 206 = .ok (.iadd, 1) := by decide +kernel
theorem dX12_tellAct_207 : decode cX12_tellAct 207 = .ok (.putfield 314, 3) := by decide +kernel
theorem dX12_tellAct_210 : decode cX12_tellAct 210 = .ok (.return_, 1) := by decide +kernel
theorem dX12_relation_0 : decode cX12_relation 0 = .ok (.aload_n 0, 1) := by decide +kernel
theorem dX12_relation_1 : decode cX12_relation 1 = .ok (.getfield 317, 3) := by decide +kernel
theorem dX12_relation_4 : decode cX12_relation 4 = .ok (.istore_n 1, 1) := by decide +kernel
theorem dX12_relation_5 : decode cX12_relation 5 = .ok (.aload_n 0, 1) := by decide +kernel
theorem dX12_relation_6 : decode cX12_relation 6 = .ok (.invokevirtual 354, 3) := by decide +kernel
theorem dX12_relation_9 : decode cX12_relation 9 = .ok (.aload_n 0, 1) := by decide +kernel
theorem dX12_relation_10 : decode cX12_relation 10 = .ok (.getfield 261, 3) := by decide +kernel
theorem dX12_relation_13 : decode cX12_relation 13 = .ok (.ifCond .le 7, 3) := by decide +kernel
theorem dX12_relation_16 : decode cX12_relation 16 = .ok (.iconst 0, 1) := by decide +kernel
theorem dX12_relation_17 : decode cX12_relation 17 = .ok (.goto 15, 3) := by decide +kernel
theorem dX12_relation_20 : decode cX12_relation 20 = .ok (.aload_n 0, 1) := by decide +kernel
theorem dX12_relation_21 : decode cX12_relation 21 = .ok (.getfield 20, 3) := by decide +kernel
theorem dX12_relation_24 : decode cX12_relation 24 = .ok (.aload_n 0, 1) := by decide +kernel
theorem dX12_relation_25 : decode cX12_relation 25 = .ok (.getfield 264, 3) := by decide +kernel
theorem dX12_relation_28 : decode cX12_relation 28 = .ok (.iaload, 1) := by decide +kernel
theorem dX12_relation_29 : decode cX12_relation 29 = .ok (.bipush 12, 2) := by decide +kernel
theorem dX12_relation_31 : decode cX12_relation 31 = .ok (.isub, 1) := by decide +kernel
theorem dX12_relation_32 : decode cX12_relation 32 = .ok (.istore_n 2, 1) := by decide +kernel
theorem dX12_relation_33 : decode cX12_relation 33 = .ok (.aload_n 0, 1) := by decide +kernel
theorem dX12_relation_34 : decode cX12_relation 34 = .ok (.getfield 261, 3) := by decide +kernel
theorem dX12_relation_37 : decode cX12_relation 37 = .ok (.ifCond .ne 17, 3) := by decide +kernel
theorem dX12_relation_40 : decode cX12_relation 40 = .ok (.iload_n 2, 1) := by decide +kernel
theorem dX12_relation_41 : decode cX12_relation 41 = .ok (.ifCond .lt 8, 3) := by decide +kernel
theorem dX12_relation_44 : decode cX12_relation 44 = .ok (.iload_n 2, 1) := by decide +kernel
theorem dX12_relation_45 : decode cX12_relation 45 = .ok (.iconst 3, 1) := by decide +kernel
theorem dX12_relation_46 : decode cX12_relation 46 = .ok (.if_icmp .le 8, 3) := by decide +kernel
theorem dX12_relation_49 : decode cX12_relation 49 = .ok (.aload_n 0, 1) := by decide +kernel
theorem dX12_relation_50 : decode cX12_relation 50 = .ok (.iconst 1, 1) := by decide +kernel
theorem dX12_relation_51 : decode cX12_relation 51 = .ok (.invokevirtual 276, 3) := by decide +kernel
theorem dX12_relation_54 : decode cX12_relation 54 = .ok (.aload_n 0, 1) := by decide +kernel
theorem dX12_relation_55 : decode cX12_relation 55 = .ok (.invokevirtual 282, 3) := by decide +kernel
theorem dX12_relation_58 : decode cX12_relation 58 = .ok (.aload_n 0, 1) := by decide +kernel
theorem dX12_relation_59 : decode cX12_relation 59 = .ok (.getfield 317, 3) := by decide +kernel
theorem dX12_relation_62 : decode cX12_relation 62 = .ok (.istore_n 3, 1) := by decide +kernel
theorem dX12_relation_63 : decode cX12_relation 63 = .ok (.aload_n 0, 1) := by decide +kernel
theorem dX12_relation_64 : decode cX12_relation 64 = .ok (.invokevirtual 354, 3) := by decide +kernel
theorem dX12_relation_67 : decode cX12_relation 67 = .ok (.aload_n 0, 1) := by decide +kernel
theorem dX12_relation_68 : decode cX12_relation 68 = .ok (.getfield 261, 3) := by decide +kernel
theorem dX12_relation_71 : decode cX12_relation 71 = .ok (.ifCond .le 4, 3) := by decide +kernel
theorem dX12_relation_74 : decode cX12_relation 74 = .ok (.return_, 1) := by decide +kernel
theorem dX12_relation_75 : decode cX12_relation 75 = .ok (.aload_n 0, 1) := by decide +kernel
theorem dX12_relation_76 : decode cX12_relation 76 = .ok (.getfield 97, 3) := by decide +kernel
theorem dX12_relation_79 : decode cX12_relation 79 = .ok (.aload_n 0, 1) := by decide +kernel
theorem dX12_relation_80 : decode cX12_relation 80 = .ok (.getfield 311, 3) := by decide +kernel
theorem dX12_relation_83 : decode cX12_relation 83 = .ok (.iload_n 2, 1) := by decide +kernel
theorem dX12_relation_84 : decode cX12_relation 84 = .ok (.iastore, 1) := by decide +kernel
theorem dX12_relation_85 : decode cX12_relation 85 = .ok (.aload_n 0, 1) := by decide +kernel
theorem dX12_relation_86 : decode cX12_relation 86 = .ok (.getfield 100, 3) := by decide +kernel
theorem dX12_relation_89 : decode cX12_relation 89 = .ok (.aload_n 0, 1) := by decide +kernel
theorem dX12_relation_90 : decode cX12_relation 90 = .ok (.getfield 311, 3) := by decide +kernel
theorem dX12_relation_93 : decode cX12_relation 93 = .ok (.iload_n 1, 1) := by decide +kernel
theorem dX12_relation_94 : decode cX12_relation 94 = .ok (.iastore, 1) := by decide +kernel
theorem dX12_relation_95 : decode cX12_relation 95 = .ok (.aload_n 0, 1) := by decide +kernel
theorem dX12_relation_96 : decode cX12_relation 96 = .ok (.getfield 103, 3) := by decide +kernel
theorem dX12_relation_99 : decode cX12_relation 99 = .ok (.aload_n 0, 1) := by decide +kernel
theorem dX12_relation_100 : decode cX12_relation 100 = .ok (.getfield 311, 3) := by decide +kernel
theorem dX12_relation_103 : decode cX12_relation 103 = .ok (.iload_n 3, 1) := by decide +kernel
theorem dX12_relation_104 : decode cX12_relation 104 = .ok (.iastore, 1) := by decide +kernel
theorem dX12_relation_105 : decode cX12_relation 105 = .ok (.aload_n 0, 1) := by decide +kernel
theorem dX12_relation_106 : decode cX12_relation 106 = .ok (.getfield 106, 3) := by decide +kernel
theorem dX12_relation_109 : decode cX12_relation 109 = .ok (.aload_n 0, 1) := by decide +kernel
theorem dX12_relation_110 : decode cX12_relation 110 = .ok (.getfield 311, 3) := by decide +kernel
theorem dX12_relation_113 : decode cX12_relation 113 = .ok (.aload_n 0, 1) := by decide +kernel
theorem dX12_relation_114 : decode cX12_relation 114 = .ok (.getfield 317, 3) := by decide +kernel
theorem dX12_relation_117 : decode cX12_relation 117 = .ok (.iastore, 1) := by decide +kernel
theorem dX12_relation_118 : decode cX12_relation 118 = .ok (.aload_n 0, 1) := by decide +kernel
theorem dX12_relation_119 : decode cX12_relation 119 = .ok (.dup, 1) := by decide +kernel
theorem dX12_relation_120 : decode cX12_relation 120 = .ok (.getfield 311, 3) := by decide +kernel
theorem dX12_relation_123 : decode cX12_relation 123 = .ok (.iconst 1, 1) := by decide +kernel
theorem dX12_relation_124 : decode cX12_relation 124 = .ok (.iadd, 1) := by decide +kernel
theorem dX12_relation_125 : decode cX12_relation 125 = .ok (.putfield 311, 3) := by decide +kernel
theorem dX12_relation_128 : decode cX12_relation 128 = .ok (.return_, 1) := by decide +kernel
theorem dX12_emit_0 : decode cX12_emit 0 = .ok (.aload_n 0, 1) := by decide +kernel
theorem dX12_emit_1 : decode cX12_emit 1 = .ok (.getfield 127, 3) := by decide +kernel
theorem dX12_emit_4 : decode cX12_emit 4 = .ok (.aload_n 0, 1) := by decide +kernel
theorem dX12_emit_5 : decode cX12_emit 5 = .ok (.getfield 317, 3) := by decide +kernel
theorem dX12_emit_8 : decode cX12_emit 8 = .ok (.iload_n 1, 1) := by decide +kernel
theorem dX12_emit_9 : decode cX12_emit 9 = .ok (.iastore, 1) := by decide +kernel
theorem dX12_emit_10 : decode cX12_emit 10 = .ok (.aload_n 0, 1) := by decide +kernel
theorem dX12_emit_11 : decode cX12_emit 11 = .ok (.getfield 130, 3) := by decide +kernel
theorem dX12_emit_14 : decode cX12_emit 14 = .ok (.aload_n 0, 1) := by decide +kernel
theorem dX12_emit_15 : decode cX12_emit 15 = .ok (.getfield 317, 3) := by decide +kernel
theorem dX12_emit_18 : decode cX12_emit 18 = .ok (.iload_n 2, 1) := by decide +kernel
theorem dX12_emit_19 : decode cX12_emit 19 = .ok (.iastore, 1) := by decide +kernel
theorem dX12_emit_20 : decode cX12_emit 20 = .ok (.aload_n 0, 1) := by decide +kernel
theorem dX12_emit_21 : decode cX12_emit 21 = .ok (.dup, 1) := by decide +kernel
theorem dX12_emit_22 : decode cX12_emit 22 = .ok (.getfield 317, 3) := by decide +kernel
theorem dX12_emit_25 : decode cX12_emit 25 = .ok (.iconst 1, 1) := by decide +kernel
theorem dX12_emit_26 : decode cX12_emit 26 = .ok (.iadd, 1) := by decide +kernel
theorem dX12_emit_27 : decode cX12_emit 27 = .ok (.putfield 317, 3) := by decide +kernel
theorem dX12_emit_30 : decode cX12_emit 30 = .ok (.return_, 1) := by decide +kernel
theorem dX12_comesOut_0 : decode cX12_comesOut 0 = .ok (.aload_n 0, 1) := by decide +kernel
theorem dX12_comesOut_1 : decode cX12_comesOut 1 = .ok (.getfield 357, 3) := by decide +kernel
theorem dX12_comesOut_4 : decode cX12_comesOut 4 = .ok (.ifCond .le 100, 3) := by decide +kernel
theorem dX12_comesOut_7 : decode cX12_comesOut 7 = .ok (.aload_n 0, 1) := by decide +kernel
theorem dX12_comesOut_8 : decode cX12_comesOut 8 = .ok (.getfield 133, 3) := by decide +kernel
theorem dX12_comesOut_11 : decode cX12_comesOut 11 = .ok (.aload_n 0, 1) := by decide +kernel
theorem dX12_comesOut_12 : decode cX12_comesOut 12 = .ok (.getfield 357, 3) := by decide +kernel
theorem dX12_comesOut_15 : decode cX12_comesOut 15 = .ok (.iconst 1, 1) := by decide +kernel
theorem dX12_comesOut_16 : decode cX12_comesOut 16 = .ok (.isub, 1) := by decide +kernel
theorem dX12_comesOut_17 : decode cX12_comesOut 17 = .ok (.iaload, 1) := by decide +kernel
theorem dX12_comesOut_18 : decode cX12_comesOut 18 = .ok (.bipush 7, 2) := by decide +kernel
theorem dX12_comesOut_20 : decode cX12_comesOut 20 = .ok (.if_icmp .eq 84, 3) := by decide +kernel
theorem dX12_comesOut_23 : decode cX12_comesOut 23 = .ok (.iload_n 1, 1) := by decide +kernel
theorem dX12_comesOut_24 : decode cX12_comesOut 24 = .ok (.ifCond .eq 19, 3) := by decide +kernel
theorem dX12_comesOut_27 : decode cX12_comesOut 27 = .ok (.aload_n 0, 1) := by decide +kernel
theorem dX12_comesOut_28 : decode cX12_comesOut 28 = .ok (.getfield 133, 3) := by decide +kernel
theorem dX12_comesOut_31 : decode cX12_comesOut 31 = .ok (.aload_n 0, 1) := by decide +kernel
theorem dX12_comesOut_32 : decode cX12_comesOut 32 = .ok (.getfield 357, 3) := by decide +kernel
theorem dX12_comesOut_35 : decode cX12_comesOut 35 = .ok (.iconst 1, 1) := by decide +kernel
theorem dX12_comesOut_36 : decode cX12_comesOut 36 = .ok (.isub, 1) := by decide +kernel
theorem dX12_comesOut_37 : decode cX12_comesOut 37 = .ok (.iaload, 1) := by decide +kernel
theorem dX12_comesOut_38 : decode cX12_comesOut 38 = .ok (.bipush 11, 2) := by decide +kernel
theorem dX12_comesOut_40 : decode cX12_comesOut 40 = .ok (.if_icmp .ne 64, 3) := by decide +kernel
theorem dX12_comesOut_43 : decode cX12_comesOut 43 = .ok (.aload_n 0, 1) := by decide +kernel
theorem dX12_comesOut_44 : decode cX12_comesOut 44 = .ok (.dup, 1) := by decide +kernel
theorem dX12_comesOut_45 : decode cX12_comesOut 45 = .ok (.getfield 357, 3) := by decide +kernel
theorem dX12_comesOut_48 : decode cX12_comesOut 48 = .ok (.iconst 1, 1) := by decide +kernel
theorem dX12_comesOut_49 : decode cX12_comesOut 49 = .ok (.isub, 1) := by decide +kernel
theorem dX12_comesOut_50 : decode cX12_comesOut 50 = .ok (.putfield 357, 3) := by decide +kernel
theorem dX12_comesOut_53 : decode cX12_comesOut 53 = .ok (.aload_n 0, 1) := by decide +kernel
theorem dX12_comesOut_54 : decode cX12_comesOut 54 = .ok (.getfield 133, 3) := by decide +kernel
theorem dX12_comesOut_57 : decode cX12_comesOut 57 = .ok (.aload_n 0, 1) := by decide +kernel
theorem dX12_comesOut_58 : decode cX12_comesOut 58 = .ok (.getfield 357, 3) := by decide +kernel
theorem dX12_comesOut_61 : decode cX12_comesOut 61 = .ok (.iaload, 1) := by decide +kernel
theorem dX12_comesOut_62 : decode cX12_comesOut 62 = .ok (.istore_n 2, 1) := by decide +kernel
theorem dX12_comesOut_63 : decode cX12_comesOut 63 = .ok (.aload_n 0, 1) := by decide +kernel
theorem dX12_comesOut_64 : decode cX12_comesOut 64 = .ok (.iload_n 2, 1) := by decide +kernel
theorem dX12_comesOut_65 : decode cX12_comesOut 65 = .ok (.bipush 9, 2) := by decide +kernel
theorem dX12_comesOut_67 : decode cX12_comesOut 67 = .ok (.if_icmp .ne 7, 3) := by decide +kernel
theorem dX12_comesOut_70 : decode cX12_comesOut 70 = .ok (.iconst 4, 1) := by decide +kernel
theorem dX12_comesOut_71 : decode cX12_comesOut 71 = .ok (.goto 26, 3) := by decide +kernel
theorem dX12_comesOut_74 : decode cX12_comesOut 74 = .ok (.iload_n 2, 1) := by decide +kernel
theorem dX12_comesOut_75 : decode cX12_comesOut 75 = .ok (.bipush 10, 2) := by decide +kernel
theorem dX12_comesOut_77 : decode cX12_comesOut 77 = .ok (.if_icmp .ne 7, 3) := by decide +kernel
theorem dX12_comesOut_80 : decode cX12_comesOut 80 = .ok (.iconst 5, 1) := by decide +kernel
theorem dX12_comesOut_81 : decode cX12_comesOut 81 = .ok (.goto 16, 3) := by decide +kernel
theorem dX12_comesOut_84 : decode cX12_comesOut 84 = .ok (.iload_n 2, 1) := by decide +kernel
theorem dX12_comesOut_85 : decode cX12_comesOut 85 = .ok (.bipush 11, 2) := by decide +kernel
theorem dX12_comesOut_87 : decode cX12_comesOut 87 = .ok (.if_icmp .ne 8, 3) := by decide +kernel
theorem dX12_comesOut_90 : decode cX12_comesOut 90 = .ok (.bipush 6, 2) := by decide +kernel
theorem dX12_comesOut_92 : decode cX12_comesOut 92 = .ok (.goto 5, 3) := by decide +kernel
theorem dX12_comesOut_95 : decode cX12_comesOut 95 = .ok (.bipush 7, 2) := by decide +kernel
theorem dX12_comesOut_97 : decode cX12_comesOut 97 = .ok (.iconst 0, 1) := by decide +kernel
theorem dX12_comesOut_98 : decode cX12_comesOut 98 = .ok (.invokevirtual 360, 3) := by decide +kernel
theorem dX12_comesOut_101 : decode cX12_comesOut 101 = .ok (.goto (-101), 3) := by decide +kernel
theorem dX12_comesOut_104 : decode cX12_comesOut 104 = .ok (.return_, 1) := by decide +kernel
theorem dX12_expression_0 : decode cX12_expression 0 = .ok (.aload_n 0, 1) := by decide +kernel
theorem dX12_expression_1 : decode cX12_expression 1 = .ok (.iconst 0, 1) := by decide +kernel
theorem dX12_expression_2 : decode cX12_expression 2 = .ok (.putfield 357, 3) := by decide +kernel
theorem dX12_expression_5 : decode cX12_expression 5 = .ok (.aload_n 0, 1) := by decide +kernel
theorem dX12_expression_6 : decode cX12_expression 6 = .ok (.getfield 305, 3) := by decide +kernel
theorem dX12_expression_9 : decode cX12_expression 9 = .ok (.istore_n 1, 1) := by decide +kernel
theorem dX12_expression_10 : decode cX12_expression 10 = .ok (.iconst 1, 1) := by decide +kernel
theorem dX12_expression_11 : decode cX12_expression 11 = .ok (.istore_n 2, 1) := by decide +kernel
theorem dX12_expression_12 : decode cX12_expression 12 = .ok (.iconst 1, 1) := by decide +kernel
theorem dX12_expression_13 : decode cX12_expression 13 = .ok (.istore_n 3, 1) := by decide +kernel
theorem dX12_expression_14 : decode cX12_expression 14 = .ok (.iload_n 3, 1) := by decide +kernel
theorem dX12_expression_15 : decode cX12_expression 15 = .ok (.ifCond .eq 409, 3) := by decide +kernel
theorem dX12_expression_18 : decode cX12_expression 18 = .ok (.aload_n 0, 1) := by decide +kernel
theorem dX12_expression_19 : decode cX12_expression 19 = .ok (.getfield 261, 3) := by decide +kernel
theorem dX12_expression_22 : decode cX12_expression 22 = .ok (.ifCond .ne 402, 3) := by decide +kernel
theorem dX12_expression_25 : decode cX12_expression 25 = .ok (.iload_n 2, 1) := by decide +kernel
theorem dX12_expression_26 : decode cX12_expression 26 = .ok (.ifCond .eq 36, 3) := by decide +kernel
theorem dX12_expression_29 : decode cX12_expression 29 = .ok (.aload_n 0, 1) := by decide +kernel
theorem dX12_expression_30 : decode cX12_expression 30 = .ok (.bipush 10, 2) := by decide +kernel
theorem dX12_expression_32 : decode cX12_expression 32 = .ok (.invokevirtual 279, 3) := by decide +kernel
theorem dX12_expression_35 : decode cX12_expression 35 = .ok (.ifCond .eq 27, 3) := by decide +kernel
theorem dX12_expression_38 : decode cX12_expression 38 = .ok (.aload_n 0, 1) := by decide +kernel
theorem dX12_expression_39 : decode cX12_expression 39 = .ok (.invokevirtual 282, 3) := by decide +kernel
theorem dX12_expression_42 : decode cX12_expression 42 = .ok (.aload_n 0, 1) := by decide +kernel
theorem dX12_expression_43 : decode cX12_expression 43 = .ok (.getfield 133, 3) := by decide +kernel
theorem dX12_expression_46 : decode cX12_expression 46 = .ok (.aload_n 0, 1) := by decide +kernel
theorem dX12_expression_47 : decode cX12_expression 47 = .ok (.getfield 357, 3) := by decide +kernel
theorem dX12_expression_50 : decode cX12_expression 50 = .ok (.iconst 3, 1) := by decide +kernel
theorem dX12_expression_51 : decode cX12_expression 51 = .ok (.iastore, 1) := by decide +kernel
theorem dX12_expression_52 : decode cX12_expression 52 = .ok (.aload_n 0, 1) := by decide +kernel
theorem dX12_expression_53 : decode cX12_expression 53 = .ok (.dup, 1) := by decide +kernel
theorem dX12_expression_54 : decode cX12_expression 54 = .ok (.getfield 357, 3) := by decide +kernel
theorem dX12_expression_57 : decode cX12_expression 57 = .ok (.iconst 1, 1) := by decide +kernel
theorem dX12_expression_58 : decode cX12_expression 58 = .ok (.iadd, 1) := by decide +kernel
theorem dX12_expression_59 : decode cX12_expression 59 = .ok (.putfield 357, 3) := by decide +kernel
theorem dX12_expression_62 : decode cX12_expression 62 = .ok (.aload_n 0, 1) := by decide +kernel
theorem dX12_expression_63 : decode cX12_expression 63 = .ok (.bipush 7, 2) := by decide +kernel
theorem dX12_expression_65 : decode cX12_expression 65 = .ok (.invokevirtual 279, 3) := by decide +kernel
theorem dX12_expression_68 : decode cX12_expression 68 = .ok (.ifCond .eq 65, 3) := by decide +kernel
theorem dX12_expression_71 : decode cX12_expression 71 = .ok (.aload_n 0, 1) := by decide +kernel
theorem dX12_expression_72 : decode cX12_expression 72 = .ok (.getfield 305, 3) := by decide +kernel
theorem dX12_expression_75 : decode cX12_expression 75 = .ok (.bipush 6, 2) := by decide +kernel
theorem dX12_expression_77 : decode cX12_expression 77 = .ok (.if_icmp .ne 8, 3) := by decide +kernel
theorem dX12_expression_80 : decode cX12_expression 80 = .ok (.aload_n 0, 1) := by decide +kernel
theorem dX12_expression_81 : decode cX12_expression 81 = .ok (.iconst 2, 1) := by decide +kernel
theorem dX12_expression_82 : decode cX12_expression 82 = .ok (.invokevirtual 276, 3) := by decide +kernel
theorem dX12_expression_85 : decode cX12_expression 85 = .ok (.aload_n 0, 1) := by decide +kernel
theorem dX12_expression_86 : decode cX12_expression 86 = .ok (.getfield 261, 3) := by decide +kernel
theorem dX12_expression_89 : decode cX12_expression 89 = .ok (.ifCond .le 4, 3) := by decide +kernel
theorem dX12_expression_92 : decode cX12_expression 92 = .ok (.return_, 1) := by decide +kernel
theorem dX12_expression_93 : decode cX12_expression 93 = .ok (.aload_n 0, 1) := by decide +kernel
theorem dX12_expression_94 : decode cX12_expression 94 = .ok (.dup, 1) := by decide +kernel
theorem dX12_expression_95 : decode cX12_expression 95 = .ok (.getfield 305, 3) := by decide +kernel
theorem dX12_expression_98 : decode cX12_expression 98 = .ok (.iconst 1, 1) := by decide +kernel
theorem dX12_expression_99 : decode cX12_expression 99 = .ok (.iadd, 1) := by decide +kernel
theorem dX12_expression_100 : decode cX12_expression 100 = .ok (.putfield 305, 3) := by decide +kernel
theorem dX12_expression_103 : decode cX12_expression 103 = .ok (.aload_n 0, 1) := by decide +kernel
theorem dX12_expression_104 : decode cX12_expression 104 = .ok (.invokevirtual 282, 3) := by decide +kernel
theorem dX12_expression_107 : decode cX12_expression 107 = .ok (.aload_n 0, 1) := by decide +kernel
theorem dX12_expression_108 : decode cX12_expression 108 = .ok (.getfield 133, 3) := by decide +kernel
theorem dX12_expression_111 : decode cX12_expression 111 = .ok (.aload_n 0, 1) := by decide +kernel
theorem dX12_expression_112 : decode cX12_expression 112 = .ok (.getfield 357, 3) := by decide +kernel
theorem dX12_expression_115 : decode cX12_expression 115 = .ok (.bipush 7, 2) := by decide +kernel
theorem dX12_expression_117 : decode cX12_expression 117 = .ok (.iastore, 1) := by decide +kernel
theorem dX12_expression_118 : decode cX12_expression 118 = .ok (.aload_n 0, 1) := by decide +kernel
theorem dX12_expression_119 : decode cX12_expression 119 = .ok (.dup, 1) := by decide +kernel
theorem dX12_expression_120 : decode cX12_expression 120 = .ok (.getfield 357, 3) := by decide +kernel
theorem dX12_expression_123 : decode cX12_expression 123 = .ok (.iconst 1, 1) := by decide +kernel
theorem dX12_expression_124 : decode cX12_expression 124 = .ok (.iadd, 1) := by decide +kernel
theorem dX12_expression_125 : decode cX12_expression 125 = .ok (.putfield 357, 3) := by decide +kernel
theorem dX12_expression_128 : decode cX12_expression 128 = .ok (.iconst 1, 1) := by decide +kernel
theorem dX12_expression_129 : decode cX12_expression 129 = .ok (.istore_n 2, 1) := by decide +kernel
theorem dX12_expression_130 : decode cX12_expression 130 = .ok (.goto (-116), 3) := by decide +kernel
theorem dX12_expression_133 : decode cX12_expression 133 = .ok (.iconst 0, 1) := by decide +kernel
theorem dX12_expression_134 : decode cX12_expression 134 = .ok (.istore_n 2, 1) := by decide +kernel
theorem dX12_expression_135 : decode cX12_expression 135 = .ok (.aload_n 0, 1) := by decide +kernel
theorem dX12_expression_136 : decode cX12_expression 136 = .ok (.getfield 261, 3) := by decide +kernel
theorem dX12_expression_139 : decode cX12_expression 139 = .ok (.ifCond .le 7, 3) := by decide +kernel
theorem dX12_expression_142 : decode cX12_expression 142 = .ok (.iconst 3, 1) := by decide +kernel
theorem dX12_expression_143 : decode cX12_expression 143 = .ok (.goto 12, 3) := by decide +kernel
theorem dX12_expression_146 : decode cX12_expression 146 = .ok (.aload_n 0, 1) := by decide +kernel
theorem dX12_expression_147 : decode cX12_expression 147 = .ok (.getfield 20, 3) := by decide +kernel
theorem dX12_expression_150 : decode cX12_expression 150 = .ok (.aload_n 0, 1) := by decide +kernel
theorem dX12_expression_151 : decode cX12_expression 151 = .ok (.getfield 264, 3) := by decide +kernel
theorem dX12_expression_154 : decode cX12_expression 154 = .ok (.iaload, 1) := by decide +kernel
theorem dX12_expression_155 : decode cX12_expression 155 = .ok (.istore 4, 2) := by decide +kernel
theorem dX12_expression_157 : decode cX12_expression 157 = .ok (.iload 4, 2) := by decide +kernel
theorem dX12_expression_159 : decode cX12_expression 159 = .ok (.iconst 2, 1) := by decide +kernel
theorem dX12_expression_160 : decode cX12_expression 160 = .ok (.if_icmp .eq 28, 3) := by decide +kernel
theorem dX12_expression_163 : decode cX12_expression 163 = .ok (.iload 4, 2) := by decide +kernel
theorem dX12_expression_165 : decode cX12_expression 165 = .ok (.iconst 1, 1) := by decide +kernel
theorem dX12_expression_166 : decode cX12_expression 166 = .ok (.if_icmp .eq 22, 3) := by decide +kernel
theorem dX12_expression_169 : decode cX12_expression 169 = .ok (.iload 4, 2) := by decide +kernel
theorem dX12_expression_171 : decode cX12_expression 171 = .ok (.bipush 45, 2) := by decide +kernel
theorem dX12_expression_173 : decode cX12_expression 173 = .ok (.if_icmp .eq 15, 3) := by decide +kernel
theorem dX12_expression_176 : decode cX12_expression 176 = .ok (.iload 4, 2) := by decide +kernel
theorem dX12_expression_178 : decode cX12_expression 178 = .ok (.bipush 46, 2) := by decide +kernel
theorem dX12_expression_180 : decode cX12_expression 180 = .ok (.if_icmp .eq 8, 3) := by decide +kernel
theorem dX12_expression_183 : decode cX12_expression 183 = .ok (.aload_n 0, 1) := by decide +kernel
theorem dX12_expression_184 : decode cX12_expression 184 = .ok (.iconst 1, 1) := by decide +kernel
theorem dX12_expression_185 : decode cX12_expression 185 = .ok (.invokevirtual 276, 3) := by decide +kernel
theorem dX12_expression_188 : decode cX12_expression 188 = .ok (.aload_n 0, 1) := by decide +kernel
theorem dX12_expression_189 : decode cX12_expression 189 = .ok (.getfield 261, 3) := by decide +kernel
theorem dX12_expression_192 : decode cX12_expression 192 = .ok (.ifCond .le 4, 3) := by decide +kernel
theorem dX12_expression_195 : decode cX12_expression 195 = .ok (.return_, 1) := by decide +kernel
theorem dX12_expression_196 : decode cX12_expression 196 = .ok (.iload 4, 2) := by decide +kernel
theorem dX12_expression_198 : decode cX12_expression 198 = .ok (.iconst 2, 1) := by decide +kernel
theorem dX12_expression_199 : decode cX12_expression 199 = .ok (.if_icmp .ne 20, 3) := by decide +kernel
theorem dX12_expression_202 : decode cX12_expression 202 = .ok (.aload_n 0, 1) := by decide +kernel
theorem dX12_expression_203 : decode cX12_expression 203 = .ok (.iconst 0, 1) := by decide +kernel
theorem dX12_expression_204 : decode cX12_expression 204 = .ok (.aload_n 0, 1) := by decide +kernel
theorem dX12_expression_205 : decode cX12_expression 205 = .ok (.getfield 27, 3) := by decide +kernel
theorem dX12_expression_208 : decode cX12_expression 208 = .ok (.aload_n 0, 1) := by decide +kernel
theorem dX12_expression_209 : decode cX12_expression 209 = .ok (.getfield 264, 3) := by decide +kernel
theorem dX12_expression_212 : decode cX12_expression 212 = .ok (.iaload, 1) := by decide +kernel
theorem dX12_expression_213 : decode cX12_expression 213 = .ok (.invokevirtual 360, 3) := by decide +kernel
theorem dX12_expression_216 : decode cX12_expression 216 = .ok (.goto 44, 3) := by decide +kernel
theorem dX12_expression_219 : decode cX12_expression 219 = .ok (.iload 4, 2) := by decide +kernel
theorem dX12_expression_221 : decode cX12_expression 221 = .ok (.iconst 1, 1) := by decide +kernel
theorem dX12_expression_222 : decode cX12_expression 222 = .ok (.if_icmp .ne 21, 3) := by decide +kernel
theorem dX12_expression_225 : decode cX12_expression 225 = .ok (.aload_n 0, 1) := by decide +kernel
theorem dX12_expression_226 : decode cX12_expression 226 = .ok (.iconst 1, 1) := by decide +kernel
theorem dX12_expression_227 : decode cX12_expression 227 = .ok (.aload_n 0, 1) := by decide +kernel
theorem dX12_expression_228 : decode cX12_expression 228 = .ok (.aload_n 0, 1) := by decide +kernel
theorem dX12_expression_229 : decode cX12_expression 229 = .ok (.getfield 264, 3) := by decide +kernel
theorem dX12_expression_232 : decode cX12_expression 232 = .ok (.bipush 6, 2) := by decide +kernel
theorem dX12_expression_234 : decode cX12_expression 234 = .ok (.invokevirtual 295, 3) := by decide +kernel
theorem dX12_expression_237 : decode cX12_expression 237 = .ok (.invokevirtual 360, 3) := by decide +kernel
theorem dX12_expression_240 : decode cX12_expression 240 = .ok (.goto 20, 3) := by decide +kernel
theorem dX12_expression_243 : decode cX12_expression 243 = .ok (.aload_n 0, 1) := by decide +kernel
theorem dX12_expression_244 : decode cX12_expression 244 = .ok (.iload 4, 2) := by decide +kernel
theorem dX12_expression_246 : decode cX12_expression 246 = .ok (.bipush 45, 2) := by decide +kernel
theorem dX12_expression_248 : decode cX12_expression 248 = .ok (.if_icmp .ne 7, 3) := by decide +kernel
theorem dX12_expression_251 : decode cX12_expression 251 = .ok (.iconst 2, 1) := by decide +kernel
theorem dX12_expression_252 : decode cX12_expression 252 = .ok (.goto 4, 3) := by decide +kernel
theorem dX12_expression_255 : decode cX12_expression 255 = .ok (.iconst 3, 1) := by decide +kernel
theorem dX12_expression_256 : decode cX12_expression 256 = .ok (.iconst 0, 1) := by decide +kernel
theorem dX12_expression_257 : decode cX12_expression 257 = .ok (.invokevirtual 360, 3) := by decide +kernel
theorem dX12_expression_260 : decode cX12_expression 260 = .ok (.aload_n 0, 1) := by decide +kernel
theorem dX12_expression_261 : decode cX12_expression 261 = .ok (.invokevirtual 282, 3) := by decide +kernel
theorem dX12_expression_264 : decode cX12_expression 264 = .ok (.aload_n 0, 1) := by decide +kernel
theorem dX12_expression_265 : decode cX12_expression 265 = .ok (.bipush 8, 2) := by decide +kernel
theorem dX12_expression_267 : decode cX12_expression 267 = .ok (.invokevirtual 279, 3) := by decide +kernel
theorem dX12_expression_270 : decode cX12_expression 270 = .ok (.ifCond .eq 43, 3) := by decide +kernel
theorem dX12_expression_273 : decode cX12_expression 273 = .ok (.aload_n 0, 1) := by decide +kernel
theorem dX12_expression_274 : decode cX12_expression 274 = .ok (.getfield 305, 3) := by decide +kernel
theorem dX12_expression_277 : decode cX12_expression 277 = .ok (.iload_n 1, 1) := by decide +kernel
theorem dX12_expression_278 : decode cX12_expression 278 = .ok (.if_icmp .le 35, 3) := by decide +kernel
theorem dX12_expression_281 : decode cX12_expression 281 = .ok (.aload_n 0, 1) := by decide +kernel
theorem dX12_expression_282 : decode cX12_expression 282 = .ok (.iconst 0, 1) := by decide +kernel
theorem dX12_expression_283 : decode cX12_expression 283 = .ok (.invokevirtual 363, 3) := by decide +kernel
theorem dX12_expression_286 : decode cX12_expression 286 = .ok (.aload_n 0, 1) := by decide +kernel
theorem dX12_expression_287 : decode cX12_expression 287 = .ok (.dup, 1) := by decide +kernel
theorem dX12_expression_288 : decode cX12_expression 288 = .ok (.getfield 357, 3) := by decide +kernel
theorem dX12_expression_291 : decode cX12_expression 291 = .ok (.iconst 1, 1) := by decide +kernel
theorem dX12_expression_292 : decode cX12_expression 292 = .ok (.isub, 1) := by decide +kernel
theorem dX12_expression_293 : decode cX12_expression 293 = .ok (.putfield 357, 3) := by decide +kernel
theorem dX12_expression_296 : decode cX12_expression 296 = .ok (.aload_n 0, 1) := by decide +kernel
theorem dX12_expression_297 : decode cX12_expression 297 = .ok (.dup, 1) := by decide +kernel
theorem dX12_expression_298 : decode cX12_expression 298 = .ok (.getfield 305, 3) := by decide +kernel
theorem dX12_expression_301 : decode cX12_expression 301 = .ok (.iconst 1, 1) := by decide +kernel
theorem dX12_expression_302 : decode cX12_expression 302 = .ok (.isub, 1) := by decide +kernel
theorem dX12_expression_303 : decode cX12_expression 303 = .ok (.putfield 305, 3) := by decide +kernel
theorem dX12_expression_306 : decode cX12_expression 306 = .ok (.aload_n 0, 1) := by decide +kernel
theorem dX12_expression_307 : decode cX12_expression 307 = .ok (.invokevirtual 282, 3) := by decide +kernel
theorem dX12_expression_310 : decode cX12_expression 310 = .ok (.goto (-46), 3) := by decide +kernel
theorem dX12_expression_313 : decode cX12_expression 313 = .ok (.aload_n 0, 1) := by decide +kernel
theorem dX12_expression_314 : decode cX12_expression 314 = .ok (.bipush 9, 2) := by decide +kernel
theorem dX12_expression_316 : decode cX12_expression 316 = .ok (.invokevirtual 279, 3) := by decide +kernel
theorem dX12_expression_319 : decode cX12_expression 319 = .ok (.ifCond .ne 21, 3) := by decide +kernel
theorem dX12_expression_322 : decode cX12_expression 322 = .ok (.aload_n 0, 1) := by decide +kernel
theorem dX12_expression_323 : decode cX12_expression 323 = .ok (.bipush 10, 2) := by decide +kernel
theorem dX12_expression_325 : decode cX12_expression 325 = .ok (.invokevirtual 279, 3) := by decide +kernel
theorem dX12_expression_328 : decode cX12_expression 328 = .ok (.ifCond .ne 12, 3) := by decide +kernel
theorem dX12_expression_331 : decode cX12_expression 331 = .ok (.aload_n 0, 1) := by decide +kernel
theorem dX12_expression_332 : decode cX12_expression 332 = .ok (.bipush 11, 2) := by decide +kernel
theorem dX12_expression_334 : decode cX12_expression 334 = .ok (.invokevirtual 279, 3) := by decide +kernel
theorem dX12_expression_337 : decode cX12_expression 337 = .ok (.ifCond .eq 7, 3) := by decide +kernel
theorem dX12_expression_340 : decode cX12_expression 340 = .ok (.iconst 1, 1) := by decide +kernel
theorem dX12_expression_341 : decode cX12_expression 341 = .ok (.goto 4, 3) := by decide +kernel
theorem dX12_expression_344 : decode cX12_expression 344 = .ok (.iconst 0, 1) := by decide +kernel
theorem dX12_expression_345 : decode cX12_expression 345 = .ok (.istore_n 3, 1) := by decide +kernel
theorem dX12_expression_346 : decode cX12_expression 346 = .ok (.iload_n 3, 1) := by decide +kernel
theorem dX12_expression_347 : decode cX12_expression 347 = .ok (.ifCond .ne 22, 3) := by decide +kernel
theorem dX12_expression_350 : decode cX12_expression 350 = .ok (.aload_n 0, 1) := by decide +kernel
theorem dX12_expression_351 : decode cX12_expression 351 = .ok (.getfield 305, 3) := by decide +kernel
theorem dX12_expression_354 : decode cX12_expression 354 = .ok (.iload_n 1, 1) := by decide +kernel
theorem dX12_expression_355 : decode cX12_expression 355 = .ok (.if_icmp .le 8, 3) := by decide +kernel
theorem dX12_expression_358 : decode cX12_expression 358 = .ok (.aload_n 0, 1) := by decide +kernel
theorem dX12_expression_359 : decode cX12_expression 359 = .ok (.iconst 1, 1) := by decide +kernel
theorem dX12_expression_360 : decode cX12_expression 360 = .ok (.invokevirtual 276, 3) := by decide +kernel
theorem dX12_expression_363 : decode cX12_expression 363 = .ok (.aload_n 0, 1) := by decide +kernel
theorem dX12_expression_364 : decode cX12_expression 364 = .ok (.iconst 0, 1) := by decide +kernel
theorem dX12_expression_365 : decode cX12_expression 365 = .ok (.invokevirtual 363, 3) := by decide +kernel
theorem dX12_expression_368 : decode cX12_expression 368 = .ok (.return_, 1) := by decide +kernel
theorem dX12_expression_369 : decode cX12_expression 369 = .ok (.aload_n 0, 1) := by decide +kernel
theorem dX12_expression_370 : decode cX12_expression 370 = .ok (.getfield 20, 3) := by decide +kernel
theorem dX12_expression_373 : decode cX12_expression 373 = .ok (.aload_n 0, 1) := by decide +kernel
theorem dX12_expression_374 : decode cX12_expression 374 = .ok (.getfield 264, 3) := by decide +kernel
theorem dX12_expression_377 : decode cX12_expression 377 = .ok (.iaload, 1) := by decide +kernel
theorem dX12_expression_378 : decode cX12_expression 378 = .ok (.istore 5, 2) := by decide +kernel
theorem dX12_expression_380 : decode cX12_expression 380 = .ok (.aload_n 0, 1) := by decide +kernel
theorem dX12_expression_381 : decode cX12_expression 381 = .ok (.iload 5, 2) := by decide +kernel
theorem dX12_expression_383 : decode cX12_expression 383 = .ok (.bipush 11, 2) := by decide +kernel
theorem dX12_expression_385 : decode cX12_expression 385 = .ok (.if_icmp .ne 7, 3) := by decide +kernel
theorem dX12_expression_388 : decode cX12_expression 388 = .ok (.iconst 1, 1) := by decide +kernel
theorem dX12_expression_389 : decode cX12_expression 389 = .ok (.goto 4, 3) := by decide +kernel
theorem dX12_expression_392 : decode cX12_expression 392 = .ok (.iconst 0, 1) := by decide +kernel
theorem dX12_expression_393 : decode cX12_expression 393 = .ok (.invokevirtual 363, 3) := by decide +kernel
theorem dX12_expression_396 : decode cX12_expression 396 = .ok (.aload_n 0, 1) := by decide +kernel
theorem dX12_expression_397 : decode cX12_expression 397 = .ok (.getfield 133, 3) := by decide +kernel
theorem dX12_expression_400 : decode cX12_expression 400 = .ok (.aload_n 0, 1) := by decide +kernel
theorem dX12_expression_401 : decode cX12_expression 401 = .ok (.getfield 357, 3) := by decide +kernel
theorem dX12_expression_404 : decode cX12_expression 404 = .ok (.iload 5, 2) := by decide +kernel
theorem dX12_expression_406 : decode cX12_expression 406 = .ok (.iastore, 1) := by decide +kernel
theorem dX12_expression_407 : decode cX12_expression 407 = .ok (.aload_n 0, 1) := by decide +kernel
theorem dX12_expression_408 : decode cX12_expression 408 = .ok (.dup, 1) := by decide +kernel
theorem dX12_expression_409 : decode cX12_expression 409 = .ok (.getfield 357, 3) := by decide +kernel
theorem dX12_expression_412 : decode cX12_expression 412 = .ok (.iconst 1, 1) := by decide +kernel
theorem dX12_expression_413 : decode cX12_expression 413 = .ok (.iadd, 1) := by decide +kernel
theorem dX12_expression_414 : decode cX12_expression 414 = .ok (.putfield 357, 3) := by decide +kernel
theorem dX12_expression_417 : decode cX12_expression 417 = .ok (.aload_n 0, 1) := by decide +kernel
theorem dX12_expression_418 : decode cX12_expression 418 = .ok (.invokevirtual 282, 3) := by decide +kernel
theorem dX12_expression_421 : decode cX12_expression 421 = .ok (.goto (-407), 3) := by decide +kernel
theorem dX12_expression_424 : decode cX12_expression 424 = .ok (.return_, 1) := by decide +kernel
theorem dX12_sort_0 : decode cX12_sort 0 = .ok (.aload_n 0, 1) := by decide +kernel
theorem dX12_sort_1 : decode cX12_sort 1 = .ok (.getfield 40, 3) := by decide +kernel
theorem dX12_sort_4 : decode cX12_sort 4 = .ok (.bipush 9, 2) := by decide +kernel
theorem dX12_sort_6 : decode cX12_sort 6 = .ok (.aload_n 0, 1) := by decide +kernel
theorem dX12_sort_7 : decode cX12_sort 7 = .ok (.getfield 308, 3) := by decide +kernel
theorem dX12_sort_10 : decode cX12_sort 10 = .ok (.imul, 1) := by decide +kernel
theorem dX12_sort_11 : decode cX12_sort 11 = .ok (.iload_n 1, 1) := by decide +kernel
theorem dX12_sort_12 : decode cX12_sort 12 = .ok (.iadd, 1) := by decide +kernel
theorem dX12_sort_13 : decode cX12_sort 13 = .ok (.iaload, 1) := by decide +kernel
theorem dX12_sort_14 : decode cX12_sort 14 = .ok (.ireturn, 1) := by decide +kernel
theorem dX12_comes_0 : decode cX12_comes 0 = .ok (.aload_n 0, 1) := by decide +kernel
theorem dX12_comes_1 : decode cX12_comes 1 = .ok (.getfield 143, 3) := by decide +kernel
theorem dX12_comes_4 : decode cX12_comes 4 = .ok (.iload_n 1, 1) := by decide +kernel
theorem dX12_comes_5 : decode cX12_comes 5 = .ok (.baload, 1) := by decide +kernel
theorem dX12_comes_6 : decode cX12_comes 6 = .ok (.ifCond .eq 4, 3) := by decide +kernel
theorem dX12_comes_9 : decode cX12_comes 9 = .ok (.return_, 1) := by decide +kernel
theorem dX12_comes_10 : decode cX12_comes 10 = .ok (.aload_n 0, 1) := by decide +kernel
theorem dX12_comes_11 : decode cX12_comes 11 = .ok (.getfield 143, 3) := by decide +kernel
theorem dX12_comes_14 : decode cX12_comes 14 = .ok (.iload_n 1, 1) := by decide +kernel
theorem dX12_comes_15 : decode cX12_comes 15 = .ok (.iconst 1, 1) := by decide +kernel
theorem dX12_comes_16 : decode cX12_comes 16 = .ok (.bastore, 1) := by decide +kernel
theorem dX12_comes_17 : decode cX12_comes 17 = .ok (.aload_n 0, 1) := by decide +kernel
theorem dX12_comes_18 : decode cX12_comes 18 = .ok (.getfield 139, 3) := by decide +kernel
theorem dX12_comes_21 : decode cX12_comes 21 = .ok (.aload_n 0, 1) := by decide +kernel
theorem dX12_comes_22 : decode cX12_comes 22 = .ok (.getfield 367, 3) := by decide +kernel
theorem dX12_comes_25 : decode cX12_comes 25 = .ok (.iload_n 1, 1) := by decide +kernel
theorem dX12_comes_26 : decode cX12_comes 26 = .ok (.iastore, 1) := by decide +kernel
theorem dX12_comes_27 : decode cX12_comes 27 = .ok (.aload_n 0, 1) := by decide +kernel
theorem dX12_comes_28 : decode cX12_comes 28 = .ok (.dup, 1) := by decide +kernel
theorem dX12_comes_29 : decode cX12_comes 29 = .ok (.getfield 367, 3) := by decide +kernel
theorem dX12_comes_32 : decode cX12_comes 32 = .ok (.iconst 1, 1) := by decide +kernel
theorem dX12_comes_33 : decode cX12_comes 33 = .ok (.iadd, 1) := by decide +kernel
theorem dX12_comes_34 : decode cX12_comes 34 = .ok (.putfield 367, 3) := by decide +kernel
theorem dX12_comes_37 : decode cX12_comes 37 = .ok (.return_, 1) := by decide +kernel
theorem dX12_knows_0 : decode cX12_knows 0 = .ok (.iconst 0, 1) := by decide +kernel
theorem dX12_knows_1 : decode cX12_knows 1 = .ok (.istore_n 1, 1) := by decide +kernel
theorem dX12_knows_2 : decode cX12_knows 2 = .ok (.iload_n 1, 1) := by decide +kernel
theorem dX12_knows_3 : decode cX12_knows 3 = .ok (.aload_n 0, 1) := by decide +kernel
theorem dX12_knows_4 : decode cX12_knows 4 = .ok (.getfield 367, 3) := by decide +kernel
theorem dX12_knows_7 : decode cX12_knows 7 = .ok (.if_icmp .ge 99, 3) := by decide +kernel
theorem dX12_knows_10 : decode cX12_knows 10 = .ok (.aload_n 0, 1) := by decide +kernel
theorem dX12_knows_11 : decode cX12_knows 11 = .ok (.getfield 139, 3) := by decide +kernel
theorem dX12_knows_14 : decode cX12_knows 14 = .ok (.iload_n 1, 1) := by decide +kernel
theorem dX12_knows_15 : decode cX12_knows 15 = .ok (.iaload, 1) := by decide +kernel
theorem dX12_knows_16 : decode cX12_knows 16 = .ok (.istore_n 2, 1) := by decide +kernel
theorem dX12_knows_17 : decode cX12_knows 17 = .ok (.bipush 24, 2) := by decide +kernel
theorem dX12_knows_19 : decode cX12_knows 19 = .ok (.aload_n 0, 1) := by decide +kernel
theorem dX12_knows_20 : decode cX12_knows 20 = .ok (.getfield 308, 3) := by decide +kernel
theorem dX12_knows_23 : decode cX12_knows 23 = .ok (.imul, 1) := by decide +kernel
theorem dX12_knows_24 : decode cX12_knows 24 = .ok (.istore_n 3, 1) := by decide +kernel
theorem dX12_knows_25 : decode cX12_knows 25 = .ok (.iload_n 3, 1) := by decide +kernel
theorem dX12_knows_26 : decode cX12_knows 26 = .ok (.bipush 24, 2) := by decide +kernel
theorem dX12_knows_28 : decode cX12_knows 28 = .ok (.aload_n 0, 1) := by decide +kernel
theorem dX12_knows_29 : decode cX12_knows 29 = .ok (.getfield 308, 3) := by decide +kernel
theorem dX12_knows_32 : decode cX12_knows 32 = .ok (.imul, 1) := by decide +kernel
theorem dX12_knows_33 : decode cX12_knows 33 = .ok (.aload_n 0, 1) := by decide +kernel
theorem dX12_knows_34 : decode cX12_knows 34 = .ok (.iconst 5, 1) := by decide +kernel
theorem dX12_knows_35 : decode cX12_knows 35 = .ok (.invokevirtual 370, 3) := by decide +kernel
theorem dX12_knows_38 : decode cX12_knows 38 = .ok (.iadd, 1) := by decide +kernel
theorem dX12_knows_39 : decode cX12_knows 39 = .ok (.if_icmp .ge 61, 3) := by decide +kernel
theorem dX12_knows_42 : decode cX12_knows 42 = .ok (.aload_n 0, 1) := by decide +kernel
theorem dX12_knows_43 : decode cX12_knows 43 = .ok (.getfield 73, 3) := by decide +kernel
theorem dX12_knows_46 : decode cX12_knows 46 = .ok (.iload_n 3, 1) := by decide +kernel
theorem dX12_knows_47 : decode cX12_knows 47 = .ok (.iaload, 1) := by decide +kernel
theorem dX12_knows_48 : decode cX12_knows 48 = .ok (.iconst (-1), 1) := by decide +kernel
theorem dX12_knows_49 : decode cX12_knows 49 = .ok (.if_icmp .ne 45, 3) := by decide +kernel
theorem dX12_knows_52 : decode cX12_knows 52 = .ok (.iload_n 2, 1) := by decide +kernel
theorem dX12_knows_53 : decode cX12_knows 53 = .ok (.iconst 2, 1) := by decide +kernel
theorem dX12_knows_54 : decode cX12_knows 54 = .ok (.aload_n 0, 1) := by decide +kernel
theorem dX12_knows_55 : decode cX12_knows 55 = .ok (.getfield 67, 3) := by decide +kernel
theorem dX12_knows_58 : decode cX12_knows 58 = .ok (.iload_n 3, 1) := by decide +kernel
theorem dX12_knows_59 : decode cX12_knows 59 = .ok (.iaload, 1) := by decide +kernel
theorem dX12_knows_60 : decode cX12_knows 60 = .ok (.imul, 1) := by decide +kernel
theorem dX12_knows_61 : decode cX12_knows 61 = .ok (.ishr, 1) := by decide +kernel
theorem dX12_knows_62 : decode cX12_knows 62 = .ok (.iconst 3, 1) := by decide +kernel
theorem dX12_knows_63 : decode cX12_knows 63 = .ok (.iand, 1) := by decide +kernel
theorem dX12_knows_64 : decode cX12_knows 64 = .ok (.ifCond .le 30, 3) := by decide +kernel
theorem dX12_knows_67 : decode cX12_knows 67 = .ok (.aload_n 0, 1) := by decide +kernel
theorem dX12_knows_68 : decode cX12_knows 68 = .ok (.iload_n 2, 1) := by decide +kernel
theorem dX12_knows_69 : decode cX12_knows 69 = .ok (.iconst 1, 1) := by decide +kernel
theorem dX12_knows_70 : decode cX12_knows 70 = .ok (.iconst 2, 1) := by decide +kernel
theorem dX12_knows_71 : decode cX12_knows 71 = .ok (.aload_n 0, 1) := by decide +kernel
theorem dX12_knows_72 : decode cX12_knows 72 = .ok (.getfield 67, 3) := by decide +kernel
theorem dX12_knows_75 : decode cX12_knows 75 = .ok (.iload_n 3, 1) := by decide +kernel
theorem dX12_knows_76 : decode cX12_knows 76 = .ok (.iaload, 1) := by decide +kernel
theorem dX12_knows_77 : decode cX12_knows 77 = .ok (.imul, 1) := by decide +kernel
theorem dX12_knows_78 : decode cX12_knows 78 = .ok (.ishl, 1) := by decide +kernel
theorem dX12_knows_79 : decode cX12_knows 79 = .ok (.isub, 1) := by decide +kernel
theorem dX12_knows_80 : decode cX12_knows 80 = .ok (.iconst 1, 1) := by decide +kernel
theorem dX12_knows_81 : decode cX12_knows 81 = .ok (.iconst 2, 1) := by decide +kernel
theorem dX12_knows_82 : decode cX12_knows 82 = .ok (.aload_n 0, 1) := by decide +kernel
theorem dX12_knows_83 : decode cX12_knows 83 = .ok (.getfield 70, 3) := by decide +kernel
theorem dX12_knows_86 : decode cX12_knows 86 = .ok (.iload_n 3, 1) := by decide +kernel
theorem dX12_knows_87 : decode cX12_knows 87 = .ok (.iaload, 1) := by decide +kernel
theorem dX12_knows_88 : decode cX12_knows 88 = .ok (.imul, 1) := by decide +kernel
theorem dX12_knows_89 : decode cX12_knows 89 = .ok (.ishl, 1) := by decide +kernel
theorem dX12_knows_90 : decode cX12_knows 90 = .ok (.iadd, 1) := by decide +kernel
theorem dX12_knows_91 : decode cX12_knows 91 = .ok (.invokevirtual 373, 3) := by decide +kernel
theorem dX12_knows_94 : decode cX12_knows 94 = .ok (.iinc 3 1, 3) := by decide +kernel
theorem dX12_knows_97 : decode cX12_knows 97 = .ok (.goto (-72), 3) := by decide +kernel
theorem dX12_knows_100 : decode cX12_knows 100 = .ok (.iinc 1 1, 3) := by decide +kernel
theorem dX12_knows_103 : decode cX12_knows 103 = .ok (.goto (-101), 3) := by decide +kernel
theorem dX12_knows_106 : decode cX12_knows 106 = .ok (.aload_n 0, 1) := by decide +kernel
theorem dX12_knows_107 : decode cX12_knows 107 = .ok (.aload_n 0, 1) := by decide +kernel
theorem dX12_knows_108 : decode cX12_knows 108 = .ok (.getfield 367, 3) := by decide +kernel
theorem dX12_knows_111 : decode cX12_knows 111 = .ok (.putfield 376, 3) := by decide +kernel
theorem dX12_knows_114 : decode cX12_knows 114 = .ok (.iconst 0, 1) := by decide +kernel
theorem dX12_knows_115 : decode cX12_knows 115 = .ok (.istore_n 1, 1) := by decide +kernel
theorem dX12_knows_116 : decode cX12_knows 116 = .ok (.iload_n 1, 1) := by decide +kernel
theorem dX12_knows_117 : decode cX12_knows 117 = .ok (.aload_n 0, 1) := by decide +kernel
theorem dX12_knows_118 : decode cX12_knows 118 = .ok (.getfield 367, 3) := by decide +kernel
theorem dX12_knows_121 : decode cX12_knows 121 = .ok (.if_icmp .ge 33, 3) := by decide +kernel
theorem dX12_knows_124 : decode cX12_knows 124 = .ok (.aload_n 0, 1) := by decide +kernel
theorem dX12_knows_125 : decode cX12_knows 125 = .ok (.getfield 136, 3) := by decide +kernel
theorem dX12_knows_128 : decode cX12_knows 128 = .ok (.iload_n 1, 1) := by decide +kernel
theorem dX12_knows_129 : decode cX12_knows 129 = .ok (.aload_n 0, 1) := by decide +kernel
theorem dX12_knows_130 : decode cX12_knows 130 = .ok (.getfield 139, 3) := by decide +kernel
theorem dX12_knows_133 : decode cX12_knows 133 = .ok (.iload_n 1, 1) := by decide +kernel
theorem dX12_knows_134 : decode cX12_knows 134 = .ok (.iaload, 1) := by decide +kernel
theorem dX12_knows_135 : decode cX12_knows 135 = .ok (.iastore, 1) := by decide +kernel
theorem dX12_knows_136 : decode cX12_knows 136 = .ok (.aload_n 0, 1) := by decide +kernel
theorem dX12_knows_137 : decode cX12_knows 137 = .ok (.getfield 143, 3) := by decide +kernel
theorem dX12_knows_140 : decode cX12_knows 140 = .ok (.aload_n 0, 1) := by decide +kernel
theorem dX12_knows_141 : decode cX12_knows 141 = .ok (.getfield 136, 3) := by decide +kernel
theorem dX12_knows_144 : decode cX12_knows 144 = .ok (.iload_n 1, 1) := by decide +kernel
theorem dX12_knows_145 : decode cX12_knows 145 = .ok (.iaload, 1) := by decide +kernel
theorem dX12_knows_146 : decode cX12_knows 146 = .ok (.iconst 0, 1) := by decide +kernel
theorem dX12_knows_147 : decode cX12_knows 147 = .ok (.bastore, 1) := by decide +kernel
theorem dX12_knows_148 : decode cX12_knows 148 = .ok (.iinc 1 1, 3) := by decide +kernel
theorem dX12_knows_151 : decode cX12_knows 151 = .ok (.goto (-35), 3) := by decide +kernel
theorem dX12_knows_154 : decode cX12_knows 154 = .ok (.aload_n 0, 1) := by decide +kernel
theorem dX12_knows_155 : decode cX12_knows 155 = .ok (.iconst 0, 1) := by decide +kernel
theorem dX12_knows_156 : decode cX12_knows 156 = .ok (.putfield 367, 3) := by decide +kernel
theorem dX12_knows_159 : decode cX12_knows 159 = .ok (.return_, 1) := by decide +kernel
theorem dX12_noBalls_0 : decode cX12_noBalls 0 = .ok (.aload_n 0, 1) := by decide +kernel
theorem dX12_noBalls_1 : decode cX12_noBalls 1 = .ok (.iconst 0, 1) := by decide +kernel
theorem dX12_noBalls_2 : decode cX12_noBalls 2 = .ok (.putfield 376, 3) := by decide +kernel
theorem dX12_noBalls_5 : decode cX12_noBalls 5 = .ok (.aload_n 0, 1) := by decide +kernel
theorem dX12_noBalls_6 : decode cX12_noBalls 6 = .ok (.iconst 4, 1) := by decide +kernel
theorem dX12_noBalls_7 : decode cX12_noBalls 7 = .ok (.invokevirtual 370, 3) := by decide +kernel
theorem dX12_noBalls_10 : decode cX12_noBalls 10 = .ok (.ifCond .le 12, 3) := by decide +kernel
theorem dX12_noBalls_13 : decode cX12_noBalls 13 = .ok (.aload_n 0, 1) := by decide +kernel
theorem dX12_noBalls_14 : decode cX12_noBalls 14 = .ok (.iconst 0, 1) := by decide +kernel
theorem dX12_noBalls_15 : decode cX12_noBalls 15 = .ok (.invokevirtual 373, 3) := by decide +kernel
theorem dX12_noBalls_18 : decode cX12_noBalls 18 = .ok (.aload_n 0, 1) := by decide +kernel
theorem dX12_noBalls_19 : decode cX12_noBalls 19 = .ok (.invokevirtual 379, 3) := by decide +kernel
theorem dX12_noBalls_22 : decode cX12_noBalls 22 = .ok (.return_, 1) := by decide +kernel
theorem dX12_serves_0 : decode cX12_serves 0 = .ok (.aload_n 0, 1) := by decide +kernel
theorem dX12_serves_1 : decode cX12_serves 1 = .ok (.getfield 382, 3) := by decide +kernel
theorem dX12_serves_4 : decode cX12_serves 4 = .ok (.iconst 3, 1) := by decide +kernel
theorem dX12_serves_5 : decode cX12_serves 5 = .ok (.if_icmp .ne 4, 3) := by decide +kernel
theorem dX12_serves_8 : decode cX12_serves 8 = .ok (.return_, 1) := by decide +kernel
theorem dX12_serves_9 : decode cX12_serves 9 = .ok (.aload_n 0, 1) := by decide +kernel
theorem dX12_serves_10 : decode cX12_serves 10 = .ok (.dup, 1) := by decide +kernel
theorem dX12_serves_11 : decode cX12_serves 11 = .ok (.getfield 382, 3) := by decide +kernel
theorem dX12_serves_14 : decode cX12_serves 14 = .ok (.iconst 1, 1) := by decide +kernel
theorem dX12_serves_15 : decode cX12_serves 15 = .ok (.iadd, 1) := by decide +kernel
theorem dX12_serves_16 : decode cX12_serves 16 = .ok (.putfield 382, 3) := by decide +kernel
theorem dX12_serves_19 : decode cX12_serves 19 = .ok (.iconst 0, 1) := by decide +kernel
theorem dX12_serves_20 : decode cX12_serves 20 = .ok (.istore_n 1, 1) := by decide +kernel
theorem dX12_serves_21 : decode cX12_serves 21 = .ok (.iload_n 1, 1) := by decide +kernel
theorem dX12_serves_22 : decode cX12_serves 22 = .ok (.aload_n 0, 1) := by decide +kernel
theorem dX12_serves_23 : decode cX12_serves 23 = .ok (.getfield 376, 3) := by decide +kernel
theorem dX12_serves_26 : decode cX12_serves 26 = .ok (.if_icmp .ge 21, 3) := by decide +kernel
theorem dX12_serves_29 : decode cX12_serves 29 = .ok (.aload_n 0, 1) := by decide +kernel
theorem dX12_serves_30 : decode cX12_serves 30 = .ok (.aload_n 0, 1) := by decide +kernel
theorem dX12_serves_31 : decode cX12_serves 31 = .ok (.getfield 136, 3) := by decide +kernel
theorem dX12_serves_34 : decode cX12_serves 34 = .ok (.iload_n 1, 1) := by decide +kernel
theorem dX12_serves_35 : decode cX12_serves 35 = .ok (.iaload, 1) := by decide +kernel
theorem dX12_serves_36 : decode cX12_serves 36 = .ok (.iconst 1, 1) := by decide +kernel
theorem dX12_serves_37 : decode cX12_serves 37 = .ok (.iadd, 1) := by decide +kernel
theorem dX12_serves_38 : decode cX12_serves 38 = .ok (.invokevirtual 373, 3) := by decide +kernel
theorem dX12_serves_41 : decode cX12_serves 41 = .ok (.iinc 1 1, 3) := by decide +kernel
theorem dX12_serves_44 : decode cX12_serves 44 = .ok (.goto (-23), 3) := by decide +kernel
theorem dX12_serves_47 : decode cX12_serves 47 = .ok (.aload_n 0, 1) := by decide +kernel
theorem dX12_serves_48 : decode cX12_serves 48 = .ok (.invokevirtual 379, 3) := by decide +kernel
theorem dX12_serves_51 : decode cX12_serves 51 = .ok (.return_, 1) := by decide +kernel
theorem dX12_drains_0 : decode cX12_drains 0 = .ok (.aload_n 0, 1) := by decide +kernel
theorem dX12_drains_1 : decode cX12_drains 1 = .ok (.getfield 382, 3) := by decide +kernel
theorem dX12_drains_4 : decode cX12_drains 4 = .ok (.ifCond .ne 4, 3) := by decide +kernel
theorem dX12_drains_7 : decode cX12_drains 7 = .ok (.return_, 1) := by decide +kernel
theorem dX12_drains_8 : decode cX12_drains 8 = .ok (.aload_n 0, 1) := by decide +kernel
theorem dX12_drains_9 : decode cX12_drains 9 = .ok (.dup, 1) := by decide +kernel
theorem dX12_drains_10 : decode cX12_drains 10 = .ok (.getfield 382, 3) := by decide +kernel
theorem dX12_drains_13 : decode cX12_drains 13 = .ok (.iconst 1, 1) := by decide +kernel
theorem dX12_drains_14 : decode cX12_drains 14 = .ok (.isub, 1) := by decide +kernel
theorem dX12_drains_15 : decode cX12_drains 15 = .ok (.putfield 382, 3) := by decide +kernel
theorem dX12_drains_18 : decode cX12_drains 18 = .ok (.iconst 0, 1) := by decide +kernel
theorem dX12_drains_19 : decode cX12_drains 19 = .ok (.istore_n 1, 1) := by decide +kernel
theorem dX12_drains_20 : decode cX12_drains 20 = .ok (.iload_n 1, 1) := by decide +kernel
theorem dX12_drains_21 : decode cX12_drains 21 = .ok (.aload_n 0, 1) := by decide +kernel
theorem dX12_drains_22 : decode cX12_drains 22 = .ok (.getfield 376, 3) := by decide +kernel
theorem dX12_drains_25 : decode cX12_drains 25 = .ok (.if_icmp .ge 57, 3) := by decide +kernel
theorem dX12_drains_28 : decode cX12_drains 28 = .ok (.iconst 0, 1) := by decide +kernel
theorem dX12_drains_29 : decode cX12_drains 29 = .ok (.istore_n 2, 1) := by decide +kernel
theorem dX12_drains_30 : decode cX12_drains 30 = .ok (.iload_n 2, 1) := by decide +kernel
theorem dX12_drains_31 : decode cX12_drains 31 = .ok (.aload_n 0, 1) := by decide +kernel
theorem dX12_drains_32 : decode cX12_drains 32 = .ok (.iconst 4, 1) := by decide +kernel
theorem dX12_drains_33 : decode cX12_drains 33 = .ok (.invokevirtual 370, 3) := by decide +kernel
theorem dX12_drains_36 : decode cX12_drains 36 = .ok (.if_icmp .ge 40, 3) := by decide +kernel
theorem dX12_drains_39 : decode cX12_drains 39 = .ok (.aload_n 0, 1) := by decide +kernel
theorem dX12_drains_40 : decode cX12_drains 40 = .ok (.getfield 136, 3) := by decide +kernel
theorem dX12_drains_43 : decode cX12_drains 43 = .ok (.iload_n 1, 1) := by decide +kernel
theorem dX12_drains_44 : decode cX12_drains 44 = .ok (.iaload, 1) := by decide +kernel
theorem dX12_drains_45 : decode cX12_drains 45 = .ok (.iconst 2, 1) := by decide +kernel
theorem dX12_drains_46 : decode cX12_drains 46 = .ok (.iload_n 2, 1) := by decide +kernel
theorem dX12_drains_47 : decode cX12_drains 47 = .ok (.imul, 1) := by decide +kernel
theorem dX12_drains_48 : decode cX12_drains 48 = .ok (.ishr, 1) := by decide +kernel
theorem dX12_drains_49 : decode cX12_drains 49 = .ok (.iconst 3, 1) := by decide +kernel
theorem dX12_drains_50 : decode cX12_drains 50 = .ok (.iand, 1) := by decide +kernel
theorem dX12_drains_51 : decode cX12_drains 51 = .ok (.ifCond .le 19, 3) := by decide +kernel
theorem dX12_drains_54 : decode cX12_drains 54 = .ok (.aload_n 0, 1) := by decide +kernel
theorem dX12_drains_55 : decode cX12_drains 55 = .ok (.aload_n 0, 1) := by decide +kernel
theorem dX12_drains_56 : decode cX12_drains 56 = .ok (.getfield 136, 3) := by decide +kernel
theorem dX12_drains_59 : decode cX12_drains 59 = .ok (.iload_n 1, 1) := by decide +kernel
theorem dX12_drains_60 : decode cX12_drains 60 = .ok (.iaload, 1) := by decide +kernel
theorem dX12_drains_61 : decode cX12_drains 61 = .ok (.iconst 1, 1) := by decide +kernel
theorem dX12_drains_62 : decode cX12_drains 62 = .ok (.iconst 2, 1) := by decide +kernel
theorem dX12_drains_63 : decode cX12_drains 63 = .ok (.iload_n 2, 1) := by decide +kernel
theorem dX12_drains_64 : decode cX12_drains 64 = .ok (.imul, 1) := by decide +kernel
theorem dX12_drains_65 : decode cX12_drains 65 = .ok (.ishl, 1) := by decide +kernel
theorem dX12_drains_66 : decode cX12_drains 66 = .ok (.isub, 1) := by decide +kernel
theorem dX12_drains_67 : decode cX12_drains 67 = .ok (.invokevirtual 373, 3) := by decide +kernel
theorem dX12_drains_70 : decode cX12_drains 70 = .ok (.iinc 2 1, 3) := by decide +kernel
theorem dX12_drains_73 : decode cX12_drains 73 = .ok (.goto (-43), 3) := by decide +kernel
theorem dX12_drains_76 : decode cX12_drains 76 = .ok (.iinc 1 1, 3) := by decide +kernel
theorem dX12_drains_79 : decode cX12_drains 79 = .ok (.goto (-59), 3) := by decide +kernel
theorem dX12_drains_82 : decode cX12_drains 82 = .ok (.aload_n 0, 1) := by decide +kernel
theorem dX12_drains_83 : decode cX12_drains 83 = .ok (.invokevirtual 379, 3) := by decide +kernel
theorem dX12_drains_86 : decode cX12_drains 86 = .ok (.return_, 1) := by decide +kernel
theorem dX12_passes_0 : decode cX12_passes 0 = .ok (.iconst 0, 1) := by decide +kernel
theorem dX12_passes_1 : decode cX12_passes 1 = .ok (.istore_n 2, 1) := by decide +kernel
theorem dX12_passes_2 : decode cX12_passes 2 = .ok (.aload_n 0, 1) := by decide +kernel
theorem dX12_passes_3 : decode cX12_passes 3 = .ok (.iconst 4, 1) := by decide +kernel
theorem dX12_passes_4 : decode cX12_passes 4 = .ok (.invokevirtual 370, 3) := by decide +kernel
theorem dX12_passes_7 : decode cX12_passes 7 = .ok (.ifCond .ne 4, 3) := by decide +kernel
theorem dX12_passes_10 : decode cX12_passes 10 = .ok (.return_, 1) := by decide +kernel
theorem dX12_passes_11 : decode cX12_passes 11 = .ok (.bipush 24, 2) := by decide +kernel
theorem dX12_passes_13 : decode cX12_passes 13 = .ok (.aload_n 0, 1) := by decide +kernel
theorem dX12_passes_14 : decode cX12_passes 14 = .ok (.getfield 308, 3) := by decide +kernel
theorem dX12_passes_17 : decode cX12_passes 17 = .ok (.imul, 1) := by decide +kernel
theorem dX12_passes_18 : decode cX12_passes 18 = .ok (.istore_n 3, 1) := by decide +kernel
theorem dX12_passes_19 : decode cX12_passes 19 = .ok (.iload_n 3, 1) := by decide +kernel
theorem dX12_passes_20 : decode cX12_passes 20 = .ok (.bipush 24, 2) := by decide +kernel
theorem dX12_passes_22 : decode cX12_passes 22 = .ok (.aload_n 0, 1) := by decide +kernel
theorem dX12_passes_23 : decode cX12_passes 23 = .ok (.getfield 308, 3) := by decide +kernel
theorem dX12_passes_26 : decode cX12_passes 26 = .ok (.imul, 1) := by decide +kernel
theorem dX12_passes_27 : decode cX12_passes 27 = .ok (.aload_n 0, 1) := by decide +kernel
theorem dX12_passes_28 : decode cX12_passes 28 = .ok (.iconst 5, 1) := by decide +kernel
theorem dX12_passes_29 : decode cX12_passes 29 = .ok (.invokevirtual 370, 3) := by decide +kernel
theorem dX12_passes_32 : decode cX12_passes 32 = .ok (.iadd, 1) := by decide +kernel
theorem dX12_passes_33 : decode cX12_passes 33 = .ok (.if_icmp .ge 96, 3) := by decide +kernel
theorem dX12_passes_36 : decode cX12_passes 36 = .ok (.aload_n 0, 1) := by decide +kernel
theorem dX12_passes_37 : decode cX12_passes 37 = .ok (.getfield 73, 3) := by decide +kernel
theorem dX12_passes_40 : decode cX12_passes 40 = .ok (.iload_n 3, 1) := by decide +kernel
theorem dX12_passes_41 : decode cX12_passes 41 = .ok (.iaload, 1) := by decide +kernel
theorem dX12_passes_42 : decode cX12_passes 42 = .ok (.iload_n 1, 1) := by decide +kernel
theorem dX12_passes_43 : decode cX12_passes 43 = .ok (.if_icmp .eq 6, 3) := by decide +kernel
theorem dX12_passes_46 : decode cX12_passes 46 = .ok (.goto 77, 3) := by decide +kernel
theorem dX12_passes_49 : decode cX12_passes 49 = .ok (.iconst 1, 1) := by decide +kernel
theorem dX12_passes_50 : decode cX12_passes 50 = .ok (.istore_n 2, 1) := by decide +kernel
theorem dX12_passes_51 : decode cX12_passes 51 = .ok (.iconst 0, 1) := by decide +kernel
theorem dX12_passes_52 : decode cX12_passes 52 = .ok (.istore 4, 2) := by decide +kernel
theorem dX12_passes_54 : decode cX12_passes 54 = .ok (.iload 4, 2) := by decide +kernel
theorem dX12_passes_56 : decode cX12_passes 56 = .ok (.aload_n 0, 1) := by decide +kernel
theorem dX12_passes_57 : decode cX12_passes 57 = .ok (.getfield 376, 3) := by decide +kernel
theorem dX12_passes_60 : decode cX12_passes 60 = .ok (.if_icmp .ge 63, 3) := by decide +kernel
theorem dX12_passes_63 : decode cX12_passes 63 = .ok (.aload_n 0, 1) := by decide +kernel
theorem dX12_passes_64 : decode cX12_passes 64 = .ok (.getfield 136, 3) := by decide +kernel
theorem dX12_passes_67 : decode cX12_passes 67 = .ok (.iload 4, 2) := by decide +kernel
theorem dX12_passes_69 : decode cX12_passes 69 = .ok (.iaload, 1) := by decide +kernel
theorem dX12_passes_70 : decode cX12_passes 70 = .ok (.iconst 2, 1) := by decide +kernel
theorem dX12_passes_71 : decode cX12_passes 71 = .ok (.aload_n 0, 1) := by decide +kernel
theorem dX12_passes_72 : decode cX12_passes 72 = .ok (.getfield 67, 3) := by decide +kernel
theorem dX12_passes_75 : decode cX12_passes 75 = .ok (.iload_n 3, 1) := by decide +kernel
theorem dX12_passes_76 : decode cX12_passes 76 = .ok (.iaload, 1) := by decide +kernel
theorem dX12_passes_77 : decode cX12_passes 77 = .ok (.imul, 1) := by decide +kernel
theorem dX12_passes_78 : decode cX12_passes 78 = .ok (.ishr, 1) := by decide +kernel
theorem dX12_passes_79 : decode cX12_passes 79 = .ok (.iconst 3, 1) := by decide +kernel
theorem dX12_passes_80 : decode cX12_passes 80 = .ok (.iand, 1) := by decide +kernel
theorem dX12_passes_81 : decode cX12_passes 81 = .ok (.ifCond .le 36, 3) := by decide +kernel
theorem dX12_passes_84 : decode cX12_passes 84 = .ok (.aload_n 0, 1) := by decide +kernel
theorem dX12_passes_85 : decode cX12_passes 85 = .ok (.aload_n 0, 1) := by decide +kernel
theorem dX12_passes_86 : decode cX12_passes 86 = .ok (.getfield 136, 3) := by decide +kernel
theorem dX12_passes_89 : decode cX12_passes 89 = .ok (.iload 4, 2) := by decide +kernel
theorem dX12_passes_91 : decode cX12_passes 91 = .ok (.iaload, 1) := by decide +kernel
theorem dX12_passes_92 : decode cX12_passes 92 = .ok (.iconst 1, 1) := by decide +kernel
theorem dX12_passes_93 : decode cX12_passes 93 = .ok (.iconst 2, 1) := by decide +kernel
theorem dX12_passes_94 : decode cX12_passes 94 = .ok (.aload_n 0, 1) := by decide +kernel
theorem dX12_passes_95 : decode cX12_passes 95 = .ok (.getfield 67, 3) := by decide +kernel
theorem dX12_passes_98 : decode cX12_passes 98 = .ok (.iload_n 3, 1) := by decide +kernel
theorem dX12_passes_99 : decode cX12_passes 99 = .ok (.iaload, 1) := by decide +kernel
theorem dX12_passes_100 : decode cX12_passes 100 = .ok (.imul, 1) := by decide +kernel
theorem dX12_passes_101 : decode cX12_passes 101 = .ok (.ishl, 1) := by decide +kernel
theorem dX12_passes_102 : decode cX12_passes 102 = .ok (.isub, 1) := by decide +kernel
theorem dX12_passes_103 : decode cX12_passes 103 = .ok (.iconst 1, 1) := by decide +kernel
theorem dX12_passes_104 : decode cX12_passes 104 = .ok (.iconst 2, 1) := by decide +kernel
theorem dX12_passes_105 : decode cX12_passes 105 = .ok (.aload_n 0, 1) := by decide +kernel
theorem dX12_passes_106 : decode cX12_passes 106 = .ok (.getfield 70, 3) := by decide +kernel
theorem dX12_passes_109 : decode cX12_passes 109 = .ok (.iload_n 3, 1) := by decide +kernel
theorem dX12_passes_110 : decode cX12_passes 110 = .ok (.iaload, 1) := by decide +kernel
theorem dX12_passes_111 : decode cX12_passes 111 = .ok (.imul, 1) := by decide +kernel
theorem dX12_passes_112 : decode cX12_passes 112 = .ok (.ishl, 1) := by decide +kernel
theorem dX12_passes_113 : decode cX12_passes 113 = .ok (.iadd, 1) := by decide +kernel
theorem dX12_passes_114 : decode cX12_passes 114 = .ok (.invokevirtual 373, 3) := by decide +kernel
theorem dX12_passes_117 : decode cX12_passes 117 = .ok (.iinc 4 1, 3) := by decide +kernel
theorem dX12_passes_120 : decode cX12_passes 120 = .ok (.goto (-66), 3) := by decide +kernel
theorem dX12_passes_123 : decode cX12_passes 123 = .ok (.iinc 3 1, 3) := by decide +kernel
theorem dX12_passes_126 : decode cX12_passes 126 = .ok (.goto (-107), 3) := by decide +kernel
theorem dX12_passes_129 : decode cX12_passes 129 = .ok (.iload_n 2, 1) := by decide +kernel
theorem dX12_passes_130 : decode cX12_passes 130 = .ok (.ifCond .ne 4, 3) := by decide +kernel
theorem dX12_passes_133 : decode cX12_passes 133 = .ok (.return_, 1) := by decide +kernel
theorem dX12_passes_134 : decode cX12_passes 134 = .ok (.aload_n 0, 1) := by decide +kernel
theorem dX12_passes_135 : decode cX12_passes 135 = .ok (.getfield 367, 3) := by decide +kernel
theorem dX12_passes_138 : decode cX12_passes 138 = .ok (.ifCond .ne 154, 3) := by decide +kernel
theorem dX12_passes_141 : decode cX12_passes 141 = .ok (.aload_n 0, 1) := by decide +kernel
theorem dX12_passes_142 : decode cX12_passes 142 = .ok (.dup, 1) := by decide +kernel
theorem dX12_passes_143 : decode cX12_passes 143 = .ok (.getfield 385, 3) := by decide +kernel
theorem dX12_passes_146 : decode cX12_passes 146 = .ok (.iconst 1, 1) := by decide +kernel
theorem dX12_passes_147 : decode cX12_passes 147 = .ok (.iadd, 1) := by decide +kernel
theorem dX12_passes_148 : decode cX12_passes 148 = .ok (.putfield 385, 3) := by decide +kernel
theorem dX12_passes_151 : decode cX12_passes 151 = .ok (.iconst 0, 1) := by decide +kernel
theorem dX12_passes_152 : decode cX12_passes 152 = .ok (.istore_n 3, 1) := by decide +kernel
theorem dX12_passes_153 : decode cX12_passes 153 = .ok (.iload_n 3, 1) := by decide +kernel
theorem dX12_passes_154 : decode cX12_passes 154 = .ok (.aload_n 0, 1) := by decide +kernel
theorem dX12_passes_155 : decode cX12_passes 155 = .ok (.iconst 4, 1) := by decide +kernel
