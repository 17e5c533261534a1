theorem dX0_init_0 : decode cX0_init 0 = .ok (.aload_n 0, 1) := by decide +kernel
theorem dX0_init_1 : decode cX0_init 1 = .ok (.invokespecial 3, 3) := by decide +kernel
theorem dX0_init_4 : decode cX0_init 4 = .ok (.aload_n 0, 1) := by decide +kernel
theorem dX0_init_5 : decode cX0_init 5 = .ok (.bipush 8, 2) := by decide +kernel
theorem dX0_init_7 : decode cX0_init 7 = .ok (.newarray .int, 2) := by decide +kernel
theorem dX0_init_9 : decode cX0_init 9 = .ok (.putfield 9, 3) := by decide +kernel
theorem dX0_init_12 : decode cX0_init 12 = .ok (.aload_n 0, 1) := by decide +kernel
theorem dX0_init_13 : decode cX0_init 13 = .ok (.bipush 8, 2) := by decide +kernel
theorem dX0_init_15 : decode cX0_init 15 = .ok (.newarray .int, 2) := by decide +kernel
theorem dX0_init_17 : decode cX0_init 17 = .ok (.putfield 15, 3) := by decide +kernel
theorem dX0_init_20 : decode cX0_init 20 = .ok (.aload_n 0, 1) := by decide +kernel
theorem dX0_init_21 : decode cX0_init 21 = .ok (.bipush 8, 2) := by decide +kernel
theorem dX0_init_23 : decode cX0_init 23 = .ok (.newarray .int, 2) := by decide +kernel
theorem dX0_init_25 : decode cX0_init 25 = .ok (.putfield 18, 3) := by decide +kernel
theorem dX0_init_28 : decode cX0_init 28 = .ok (.aload_n 0, 1) := by decide +kernel
theorem dX0_init_29 : decode cX0_init 29 = .ok (.iconst 0, 1) := by decide +kernel
theorem dX0_init_30 : decode cX0_init 30 = .ok (.putfield 21, 3) := by decide +kernel
theorem dX0_init_33 : decode cX0_init 33 = .ok (.aload_n 0, 1) := by decide +kernel
theorem dX0_init_34 : decode cX0_init 34 = .ok (.aload_n 1, 1) := by decide +kernel
theorem dX0_init_35 : decode cX0_init 35 = .ok (.putfield 25, 3) := by decide +kernel
theorem dX0_init_38 : decode cX0_init 38 = .ok (.return_, 1) := by decide +kernel
theorem dX0_clear_0 : decode cX0_clear 0 = .ok (.aload_n 0, 1) := by decide +kernel
theorem dX0_clear_1 : decode cX0_clear 1 = .ok (.iconst 0, 1) := by decide +kernel
theorem dX0_clear_2 : decode cX0_clear 2 = .ok (.putfield 21, 3) := by decide +kernel
theorem dX0_clear_5 : decode cX0_clear 5 = .ok (.iconst 0, 1) := by decide +kernel
theorem dX0_clear_6 : decode cX0_clear 6 = .ok (.istore_n 1, 1) := by decide +kernel
theorem dX0_clear_7 : decode cX0_clear 7 = .ok (.iload_n 1, 1) := by decide +kernel
theorem dX0_clear_8 : decode cX0_clear 8 = .ok (.aload_n 0, 1) := by decide +kernel
theorem dX0_clear_9 : decode cX0_clear 9 = .ok (.getfield 9, 3) := by decide +kernel
theorem dX0_clear_12 : decode cX0_clear 12 = .ok (.arraylength, 1) := by decide +kernel
theorem dX0_clear_13 : decode cX0_clear 13 = .ok (.if_icmp .ge 23, 3) := by decide +kernel
theorem dX0_clear_16 : decode cX0_clear 16 = .ok (.aload_n 0, 1) := by decide +kernel
theorem dX0_clear_17 : decode cX0_clear 17 = .ok (.getfield 9, 3) := by decide +kernel
theorem dX0_clear_20 : decode cX0_clear 20 = .ok (.iload_n 1, 1) := by decide +kernel
theorem dX0_clear_21 : decode cX0_clear 21 = .ok (.iconst 0, 1) := by decide +kernel
theorem dX0_clear_22 : decode cX0_clear 22 = .ok (.iastore, 1) := by decide +kernel
theorem dX0_clear_23 : decode cX0_clear 23 = .ok (.aload_n 0, 1) := by decide +kernel
theorem dX0_clear_24 : decode cX0_clear 24 = .ok (.getfield 15, 3) := by decide +kernel
theorem dX0_clear_27 : decode cX0_clear 27 = .ok (.iload_n 1, 1) := by decide +kernel
theorem dX0_clear_28 : decode cX0_clear 28 = .ok (.iconst 0, 1) := by decide +kernel
theorem dX0_clear_29 : decode cX0_clear 29 = .ok (.iastore, 1) := by decide +kernel
theorem dX0_clear_30 : decode cX0_clear 30 = .ok (.iinc 1 1, 3) := by decide +kernel
theorem dX0_clear_33 : decode cX0_clear 33 = .ok (.goto (-26), 3) := by decide +kernel
theorem dX0_clear_36 : decode cX0_clear 36 = .ok (.return_, 1) := by decide +kernel
theorem dX0_placeInRow_0 : decode cX0_placeInRow 0 = .ok (.iconst 0, 1) := by decide +kernel
theorem dX0_placeInRow_1 : decode cX0_placeInRow 1 = .ok (.istore_n 2, 1) := by decide +kernel
theorem dX0_placeInRow_2 : decode cX0_placeInRow 2 = .ok (.iload_n 2, 1) := by decide +kernel
theorem dX0_placeInRow_3 : decode cX0_placeInRow 3 = .ok (.aload_n 0, 1) := by decide +kernel
theorem dX0_placeInRow_4 : decode cX0_placeInRow 4 = .ok (.getfield 21, 3) := by decide +kernel
theorem dX0_placeInRow_7 : decode cX0_placeInRow 7 = .ok (.if_icmp .ge 30, 3) := by decide +kernel
theorem dX0_placeInRow_10 : decode cX0_placeInRow 10 = .ok (.iload_n 2, 1) := by decide +kernel
theorem dX0_placeInRow_11 : decode cX0_placeInRow 11 = .ok (.aload_n 0, 1) := by decide +kernel
theorem dX0_placeInRow_12 : decode cX0_placeInRow 12 = .ok (.getfield 18, 3) := by decide +kernel
theorem dX0_placeInRow_15 : decode cX0_placeInRow 15 = .ok (.arraylength, 1) := by decide +kernel
theorem dX0_placeInRow_16 : decode cX0_placeInRow 16 = .ok (.if_icmp .ge 21, 3) := by decide +kernel
theorem dX0_placeInRow_19 : decode cX0_placeInRow 19 = .ok (.aload_n 0, 1) := by decide +kernel
theorem dX0_placeInRow_20 : decode cX0_placeInRow 20 = .ok (.getfield 18, 3) := by decide +kernel
theorem dX0_placeInRow_23 : decode cX0_placeInRow 23 = .ok (.iload_n 2, 1) := by decide +kernel
theorem dX0_placeInRow_24 : decode cX0_placeInRow 24 = .ok (.iaload, 1) := by decide +kernel
theorem dX0_placeInRow_25 : decode cX0_placeInRow 25 = .ok (.iload_n 1, 1) := by decide +kernel
theorem dX0_placeInRow_26 : decode cX0_placeInRow 26 = .ok (.if_icmp .ne 5, 3) := by decide +kernel
theorem dX0_placeInRow_29 : decode cX0_placeInRow 29 = .ok (.iload_n 2, 1) := by decide +kernel
theorem dX0_placeInRow_30 : decode cX0_placeInRow 30 = .ok (.ireturn, 1) := by decide +kernel
theorem dX0_placeInRow_31 : decode cX0_placeInRow 31 = .ok (.iinc 2 1, 3) := by decide +kernel
theorem dX0_placeInRow_34 : decode cX0_placeInRow 34 = .ok (.goto (-32), 3) := by decide +kernel
theorem dX0_placeInRow_37 : decode cX0_placeInRow 37 = .ok (.iconst (-1), 1) := by decide +kernel
theorem dX0_placeInRow_38 : decode cX0_placeInRow 38 = .ok (.ireturn, 1) := by decide +kernel
theorem dX0_await_0 : decode cX0_await 0 = .ok (.aload_n 0, 1) := by decide +kernel
theorem dX0_await_1 : decode cX0_await 1 = .ok (.getfield 25, 3) := by decide +kernel
theorem dX0_await_4 : decode cX0_await 4 = .ok (.iconst 1, 1) := by decide +kernel
theorem dX0_await_5 : decode cX0_await 5 = .ok (.iload_n 1, 1) := by decide +kernel
theorem dX0_await_6 : decode cX0_await 6 = .ok (.invokevirtual 29, 3) := by decide +kernel
theorem dX0_await_9 : decode cX0_await 9 = .ok (.ifCond .eq 44, 3) := by decide +kernel
theorem dX0_await_12 : decode cX0_await 12 = .ok (.aload_n 0, 1) := by decide +kernel
theorem dX0_await_13 : decode cX0_await 13 = .ok (.getfield 21, 3) := by decide +kernel
theorem dX0_await_16 : decode cX0_await 16 = .ok (.aload_n 0, 1) := by decide +kernel
theorem dX0_await_17 : decode cX0_await 17 = .ok (.getfield 18, 3) := by decide +kernel
theorem dX0_await_20 : decode cX0_await 20 = .ok (.arraylength, 1) := by decide +kernel
theorem dX0_await_21 : decode cX0_await 21 = .ok (.if_icmp .ge 32, 3) := by decide +kernel
theorem dX0_await_24 : decode cX0_await 24 = .ok (.aload_n 0, 1) := by decide +kernel
theorem dX0_await_25 : decode cX0_await 25 = .ok (.iload_n 1, 1) := by decide +kernel
theorem dX0_await_26 : decode cX0_await 26 = .ok (.invokevirtual 35, 3) := by decide +kernel
theorem dX0_await_29 : decode cX0_await 29 = .ok (.iconst (-1), 1) := by decide +kernel
theorem dX0_await_30 : decode cX0_await 30 = .ok (.if_icmp .ne 23, 3) := by decide +kernel
theorem dX0_await_33 : decode cX0_await 33 = .ok (.aload_n 0, 1) := by decide +kernel
theorem dX0_await_34 : decode cX0_await 34 = .ok (.getfield 18, 3) := by decide +kernel
theorem dX0_await_37 : decode cX0_await 37 = .ok (.aload_n 0, 1) := by decide +kernel
theorem dX0_await_38 : decode cX0_await 38 = .ok (.getfield 21, 3) := by decide +kernel
theorem dX0_await_41 : decode cX0_await 41 = .ok (.iload_n 1, 1) := by decide +kernel
theorem dX0_await_42 : decode cX0_await 42 = .ok (.iastore, 1) := by decide +kernel
theorem dX0_await_43 : decode cX0_await 43 = .ok (.aload_n 0, 1) := by decide +kernel
theorem dX0_await_44 : decode cX0_await 44 = .ok (.dup, 1) := by decide +kernel
theorem dX0_await_45 : decode cX0_await 45 = .ok (.getfield 21, 3) := by decide +kernel
theorem dX0_await_48 : decode cX0_await 48 = .ok (.iconst 1, 1) := by decide +kernel
theorem dX0_await_49 : decode cX0_await 49 = .ok (.iadd, 1) := by decide +kernel
theorem dX0_await_50 : decode cX0_await 50 = .ok (.putfield 21, 3) := by decide +kernel
theorem dX0_await_53 : decode cX0_await 53 = .ok (.return_, 1) := by decide +kernel
theorem dX0_fireAt_0 : decode cX0_fireAt 0 = .ok (.iconst 0, 1) := by decide +kernel
theorem dX0_fireAt_1 : decode cX0_fireAt 1 = .ok (.istore_n 2, 1) := by decide +kernel
theorem dX0_fireAt_2 : decode cX0_fireAt 2 = .ok (.iconst 0, 1) := by decide +kernel
theorem dX0_fireAt_3 : decode cX0_fireAt 3 = .ok (.istore_n 3, 1) := by decide +kernel
theorem dX0_fireAt_4 : decode cX0_fireAt 4 = .ok (.iconst 0, 1) := by decide +kernel
theorem dX0_fireAt_5 : decode cX0_fireAt 5 = .ok (.istore 4, 2) := by decide +kernel
theorem dX0_fireAt_7 : decode cX0_fireAt 7 = .ok (.iload 4, 2) := by decide +kernel
theorem dX0_fireAt_9 : decode cX0_fireAt 9 = .ok (.aload_n 0, 1) := by decide +kernel
theorem dX0_fireAt_10 : decode cX0_fireAt 10 = .ok (.getfield 21, 3) := by decide +kernel
theorem dX0_fireAt_13 : decode cX0_fireAt 13 = .ok (.if_icmp .ge 140, 3) := by decide +kernel
theorem dX0_fireAt_16 : decode cX0_fireAt 16 = .ok (.iload 4, 2) := by decide +kernel
theorem dX0_fireAt_18 : decode cX0_fireAt 18 = .ok (.aload_n 0, 1) := by decide +kernel
theorem dX0_fireAt_19 : decode cX0_fireAt 19 = .ok (.getfield 18, 3) := by decide +kernel
theorem dX0_fireAt_22 : decode cX0_fireAt 22 = .ok (.arraylength, 1) := by decide +kernel
theorem dX0_fireAt_23 : decode cX0_fireAt 23 = .ok (.if_icmp .ge 130, 3) := by decide +kernel
theorem dX0_fireAt_26 : decode cX0_fireAt 26 = .ok (.aload_n 0, 1) := by decide +kernel
theorem dX0_fireAt_27 : decode cX0_fireAt 27 = .ok (.getfield 18, 3) := by decide +kernel
theorem dX0_fireAt_30 : decode cX0_fireAt 30 = .ok (.iload 4, 2) := by decide +kernel
theorem dX0_fireAt_32 : decode cX0_fireAt 32 = .ok (.iaload, 1) := by decide +kernel
theorem dX0_fireAt_33 : decode cX0_fireAt 33 = .ok (.istore 5, 2) := by decide +kernel
theorem dX0_fireAt_35 : decode cX0_fireAt 35 = .ok (.aload_n 0, 1) := by decide +kernel
theorem dX0_fireAt_36 : decode cX0_fireAt 36 = .ok (.getfield 25, 3) := by decide +kernel
theorem dX0_fireAt_39 : decode cX0_fireAt 39 = .ok (.iconst 1, 1) := by decide +kernel
theorem dX0_fireAt_40 : decode cX0_fireAt 40 = .ok (.iload 5, 2) := by decide +kernel
theorem dX0_fireAt_42 : decode cX0_fireAt 42 = .ok (.invokevirtual 29, 3) := by decide +kernel
theorem dX0_fireAt_45 : decode cX0_fireAt 45 = .ok (.ifCond .eq 39, 3) := by decide +kernel
theorem dX0_fireAt_48 : decode cX0_fireAt 48 = .ok (.aload_n 0, 1) := by decide +kernel
theorem dX0_fireAt_49 : decode cX0_fireAt 49 = .ok (.getfield 9, 3) := by decide +kernel
theorem dX0_fireAt_52 : decode cX0_fireAt 52 = .ok (.iload 5, 2) := by decide +kernel
theorem dX0_fireAt_54 : decode cX0_fireAt 54 = .ok (.iaload, 1) := by decide +kernel
theorem dX0_fireAt_55 : decode cX0_fireAt 55 = .ok (.ifCond .eq 25, 3) := by decide +kernel
theorem dX0_fireAt_58 : decode cX0_fireAt 58 = .ok (.iload_n 1, 1) := by decide +kernel
theorem dX0_fireAt_59 : decode cX0_fireAt 59 = .ok (.aload_n 0, 1) := by decide +kernel
theorem dX0_fireAt_60 : decode cX0_fireAt 60 = .ok (.getfield 15, 3) := by decide +kernel
theorem dX0_fireAt_63 : decode cX0_fireAt 63 = .ok (.iload 5, 2) := by decide +kernel
theorem dX0_fireAt_65 : decode cX0_fireAt 65 = .ok (.iaload, 1) := by decide +kernel
theorem dX0_fireAt_66 : decode cX0_fireAt 66 = .ok (.isub, 1) := by decide +kernel
theorem dX0_fireAt_67 : decode cX0_fireAt 67 = .ok (.aload_n 0, 1) := by decide +kernel
theorem dX0_fireAt_68 : decode cX0_fireAt 68 = .ok (.getfield 25, 3) := by decide +kernel
theorem dX0_fireAt_71 : decode cX0_fireAt 71 = .ok (.getfield 39, 3) := by decide +kernel
theorem dX0_fireAt_74 : decode cX0_fireAt 74 = .ok (.iload 5, 2) := by decide +kernel
theorem dX0_fireAt_76 : decode cX0_fireAt 76 = .ok (.iaload, 1) := by decide +kernel
theorem dX0_fireAt_77 : decode cX0_fireAt 77 = .ok (.if_icmp .lt 7, 3) := by decide +kernel
theorem dX0_fireAt_80 : decode cX0_fireAt 80 = .ok (.iconst 1, 1) := by decide +kernel
theorem dX0_fireAt_81 : decode cX0_fireAt 81 = .ok (.goto 4, 3) := by decide +kernel
theorem dX0_fireAt_84 : decode cX0_fireAt 84 = .ok (.iconst 0, 1) := by decide +kernel
theorem dX0_fireAt_85 : decode cX0_fireAt 85 = .ok (.istore 6, 2) := by decide +kernel
theorem dX0_fireAt_87 : decode cX0_fireAt 87 = .ok (.iload 6, 2) := by decide +kernel
theorem dX0_fireAt_89 : decode cX0_fireAt 89 = .ok (.ifCond .eq 47, 3) := by decide +kernel
theorem dX0_fireAt_92 : decode cX0_fireAt 92 = .ok (.aload_n 0, 1) := by decide +kernel
theorem dX0_fireAt_93 : decode cX0_fireAt 93 = .ok (.getfield 25, 3) := by decide +kernel
theorem dX0_fireAt_96 : decode cX0_fireAt 96 = .ok (.getfield 42, 3) := by decide +kernel
theorem dX0_fireAt_99 : decode cX0_fireAt 99 = .ok (.iload 5, 2) := by decide +kernel
theorem dX0_fireAt_101 : decode cX0_fireAt 101 = .ok (.iaload, 1) := by decide +kernel
theorem dX0_fireAt_102 : decode cX0_fireAt 102 = .ok (.iload_n 2, 1) := by decide +kernel
theorem dX0_fireAt_103 : decode cX0_fireAt 103 = .ok (.iand, 1) := by decide +kernel
theorem dX0_fireAt_104 : decode cX0_fireAt 104 = .ok (.ifCond .ne 32, 3) := by decide +kernel
theorem dX0_fireAt_107 : decode cX0_fireAt 107 = .ok (.aload_n 0, 1) := by decide +kernel
theorem dX0_fireAt_108 : decode cX0_fireAt 108 = .ok (.getfield 9, 3) := by decide +kernel
theorem dX0_fireAt_111 : decode cX0_fireAt 111 = .ok (.iload 5, 2) := by decide +kernel
theorem dX0_fireAt_113 : decode cX0_fireAt 113 = .ok (.dup2, 1) := by decide +kernel
theorem dX0_fireAt_114 : decode cX0_fireAt 114 = .ok (.iaload, 1) := by decide +kernel
theorem dX0_fireAt_115 : decode cX0_fireAt 115 = .ok (.iconst 1, 1) := by decide +kernel
theorem dX0_fireAt_116 : decode cX0_fireAt 116 = .ok (.iadd, 1) := by decide +kernel
theorem dX0_fireAt_117 : decode cX0_fireAt 117 = .ok (.iastore, 1) := by decide +kernel
theorem dX0_fireAt_118 : decode cX0_fireAt 118 = .ok (.aload_n 0, 1) := by decide +kernel
theorem dX0_fireAt_119 : decode cX0_fireAt 119 = .ok (.getfield 15, 3) := by decide +kernel
theorem dX0_fireAt_122 : decode cX0_fireAt 122 = .ok (.iload 5, 2) := by decide +kernel
theorem dX0_fireAt_124 : decode cX0_fireAt 124 = .ok (.iload_n 1, 1) := by decide +kernel
theorem dX0_fireAt_125 : decode cX0_fireAt 125 = .ok (.iastore, 1) := by decide +kernel
theorem dX0_fireAt_126 : decode cX0_fireAt 126 = .ok (.iload_n 2, 1) := by decide +kernel
theorem dX0_fireAt_127 : decode cX0_fireAt 127 = .ok (.iconst 1, 1) := by decide +kernel
theorem dX0_fireAt_128 : decode cX0_fireAt 128 = .ok (.iload 5, 2) := by decide +kernel
theorem dX0_fireAt_130 : decode cX0_fireAt 130 = .ok (.ishl, 1) := by decide +kernel
theorem dX0_fireAt_131 : decode cX0_fireAt 131 = .ok (.ior, 1) := by decide +kernel
theorem dX0_fireAt_132 : decode cX0_fireAt 132 = .ok (.istore_n 2, 1) := by decide +kernel
theorem dX0_fireAt_133 : decode cX0_fireAt 133 = .ok (.goto 14, 3) := by decide +kernel
theorem dX0_fireAt_136 : decode cX0_fireAt 136 = .ok (.aload_n 0, 1) := by decide +kernel
theorem dX0_fireAt_137 : decode cX0_fireAt 137 = .ok (.getfield 18, 3) := by decide +kernel
theorem dX0_fireAt_140 : decode cX0_fireAt 140 = .ok (.iload_n 3, 1) := by decide +kernel
theorem dX0_fireAt_141 : decode cX0_fireAt 141 = .ok (.iload 5, 2) := by decide +kernel
theorem dX0_fireAt_143 : decode cX0_fireAt 143 = .ok (.iastore, 1) := by decide +kernel
theorem dX0_fireAt_144 : decode cX0_fireAt 144 = .ok (.iinc 3 1, 3) := by decide +kernel
theorem dX0_fireAt_147 : decode cX0_fireAt 147 = .ok (.iinc 4 1, 3) := by decide +kernel
theorem dX0_fireAt_150 : decode cX0_fireAt 150 = .ok (.goto (-143), 3) := by decide +kernel
theorem dX0_fireAt_153 : decode cX0_fireAt 153 = .ok (.aload_n 0, 1) := by decide +kernel
theorem dX0_fireAt_154 : decode cX0_fireAt 154 = .ok (.iload_n 3, 1) := by decide +kernel
theorem dX0_fireAt_155 : decode cX0_fireAt 155 = .ok (.putfield 21, 3) := by decide +kernel
theorem dX0_fireAt_158 : decode cX0_fireAt 158 = .ok (.iload_n 2, 1) := by decide +kernel
theorem dX0_fireAt_159 : decode cX0_fireAt 159 = .ok (.invokestatic 45, 3) := by decide +kernel
theorem dX0_fireAt_162 : decode cX0_fireAt 162 = .ok (.ireturn, 1) := by decide +kernel
theorem dX1_init_0 : decode cX1_init 0 = .ok (.aload_n 0, 1) := by decide +kernel
theorem dX1_init_1 : decode cX1_init 1 = .ok (.invokespecial 3, 3) := by decide +kernel
theorem dX1_init_4 : decode cX1_init 4 = .ok (.aload_n 0, 1) := by decide +kernel
theorem dX1_init_5 : decode cX1_init 5 = .ok (.bipush 16, 2) := by decide +kernel
theorem dX1_init_7 : decode cX1_init 7 = .ok (.newarray .int, 2) := by decide +kernel
theorem dX1_init_9 : decode cX1_init 9 = .ok (.putfield 9, 3) := by decide +kernel
theorem dX1_init_12 : decode cX1_init 12 = .ok (.aload_n 0, 1) := by decide +kernel
theorem dX1_init_13 : decode cX1_init 13 = .ok (.lconst 0, 1) := by decide +kernel
theorem dX1_init_14 : decode cX1_init 14 = .ok (.putfield 15, 3) := by decide +kernel
theorem dX1_init_17 : decode cX1_init 17 = .ok (.aload_n 0, 1) := by decide +kernel
theorem dX1_init_18 : decode cX1_init 18 = .ok (.iconst 0, 1) := by decide +kernel
theorem dX1_init_19 : decode cX1_init 19 = .ok (.putfield 19, 3) := by decide +kernel
theorem dX1_init_22 : decode cX1_init 22 = .ok (.aload_n 0, 1) := by decide +kernel
theorem dX1_init_23 : decode cX1_init 23 = .ok (.iconst 0, 1) := by decide +kernel
theorem dX1_init_24 : decode cX1_init 24 = .ok (.putfield 23, 3) := by decide +kernel
theorem dX1_init_27 : decode cX1_init 27 = .ok (.aload_n 0, 1) := by decide +kernel
theorem dX1_init_28 : decode cX1_init 28 = .ok (.iconst 0, 1) := by decide +kernel
theorem dX1_init_29 : decode cX1_init 29 = .ok (.putfield 26, 3) := by decide +kernel
theorem dX1_init_32 : decode cX1_init 32 = .ok (.aload_n 0, 1) := by decide +kernel
theorem dX1_init_33 : decode cX1_init 33 = .ok (.iconst 0, 1) := by decide +kernel
theorem dX1_init_34 : decode cX1_init 34 = .ok (.putfield 30, 3) := by decide +kernel
theorem dX1_init_37 : decode cX1_init 37 = .ok (.aload_n 0, 1) := by decide +kernel
theorem dX1_init_38 : decode cX1_init 38 = .ok (.iconst 0, 1) := by decide +kernel
theorem dX1_init_39 : decode cX1_init 39 = .ok (.putfield 33, 3) := by decide +kernel
theorem dX1_init_42 : decode cX1_init 42 = .ok (.aload_n 0, 1) := by decide +kernel
theorem dX1_init_43 : decode cX1_init 43 = .ok (.iconst 0, 1) := by decide +kernel
theorem dX1_init_44 : decode cX1_init 44 = .ok (.putfield 36, 3) := by decide +kernel
theorem dX1_init_47 : decode cX1_init 47 = .ok (.aload_n 0, 1) := by decide +kernel
theorem dX1_init_48 : decode cX1_init 48 = .ok (.aload_n 1, 1) := by decide +kernel
theorem dX1_init_49 : decode cX1_init 49 = .ok (.putfield 39, 3) := by decide +kernel
theorem dX1_init_52 : decode cX1_init 52 = .ok (.aload_n 0, 1) := by decide +kernel
theorem dX1_init_53 : decode cX1_init 53 = .ok (.aload_n 1, 1) := by decide +kernel
theorem dX1_init_54 : decode cX1_init 54 = .ok (.getfield 43, 3) := by decide +kernel
theorem dX1_init_57 : decode cX1_init 57 = .ok (.putfield 49, 3) := by decide +kernel
theorem dX1_init_60 : decode cX1_init 60 = .ok (.aload_n 0, 1) := by decide +kernel
theorem dX1_init_61 : decode cX1_init 61 = .ok (.new 50, 3) := by decide +kernel
theorem dX1_init_64 : decode cX1_init 64 = .ok (.dup, 1) := by decide +kernel
theorem dX1_init_65 : decode cX1_init 65 = .ok (.aload_n 1, 1) := by decide +kernel
theorem dX1_init_66 : decode cX1_init 66 = .ok (.getfield 43, 3) := by decide +kernel
theorem dX1_init_69 : decode cX1_init 69 = .ok (.invokespecial 52, 3) := by decide +kernel
theorem dX1_init_72 : decode cX1_init 72 = .ok (.putfield 55, 3) := by decide +kernel
theorem dX1_init_75 : decode cX1_init 75 = .ok (.aload_n 0, 1) := by decide +kernel
theorem dX1_init_76 : decode cX1_init 76 = .ok (.new 59, 3) := by decide +kernel
theorem dX1_init_79 : decode cX1_init 79 = .ok (.dup, 1) := by decide +kernel
theorem dX1_init_80 : decode cX1_init 80 = .ok (.aload_n 1, 1) := by decide +kernel
theorem dX1_init_81 : decode cX1_init 81 = .ok (.invokespecial 61, 3) := by decide +kernel
theorem dX1_init_84 : decode cX1_init 84 = .ok (.putfield 64, 3) := by decide +kernel
theorem dX1_init_87 : decode cX1_init 87 = .ok (.aload_n 0, 1) := by decide +kernel
theorem dX1_init_88 : decode cX1_init 88 = .ok (.new 68, 3) := by decide +kernel
theorem dX1_init_91 : decode cX1_init 91 = .ok (.dup, 1) := by decide +kernel
theorem dX1_init_92 : decode cX1_init 92 = .ok (.aload_n 1, 1) := by decide +kernel
theorem dX1_init_93 : decode cX1_init 93 = .ok (.invokespecial 70, 3) := by decide +kernel
theorem dX1_init_96 : decode cX1_init 96 = .ok (.putfield 71, 3) := by decide +kernel
theorem dX1_init_99 : decode cX1_init 99 = .ok (.aload_n 0, 1) := by decide +kernel
theorem dX1_init_100 : decode cX1_init 100 = .ok (.new 75, 3) := by decide +kernel
theorem dX1_init_103 : decode cX1_init 103 = .ok (.dup, 1) := by decide +kernel
theorem dX1_init_104 : decode cX1_init 104 = .ok (.aload_n 1, 1) := by decide +kernel
theorem dX1_init_105 : decode cX1_init 105 = .ok (.iload_n 2, 1) := by decide +kernel
theorem dX1_init_106 : decode cX1_init 106 = .ok (.invokespecial 77, 3) := by decide +kernel
theorem dX1_init_109 : decode cX1_init 109 = .ok (.putfield 80, 3) := by decide +kernel
theorem dX1_init_112 : decode cX1_init 112 = .ok (.aload_n 0, 1) := by decide +kernel
theorem dX1_init_113 : decode cX1_init 113 = .ok (.new 84, 3) := by decide +kernel
theorem dX1_init_116 : decode cX1_init 116 = .ok (.dup, 1) := by decide +kernel
theorem dX1_init_117 : decode cX1_init 117 = .ok (.aload_n 1, 1) := by decide +kernel
theorem dX1_init_118 : decode cX1_init 118 = .ok (.invokespecial 86, 3) := by decide +kernel
theorem dX1_init_121 : decode cX1_init 121 = .ok (.putfield 87, 3) := by decide +kernel
theorem dX1_init_124 : decode cX1_init 124 = .ok (.return_, 1) := by decide +kernel
theorem dX1_open_0 : decode cX1_open 0 = .ok (.aload_n 0, 1) := by decide +kernel
theorem dX1_open_1 : decode cX1_open 1 = .ok (.getfield 64, 3) := by decide +kernel
theorem dX1_open_4 : decode cX1_open 4 = .ok (.invokevirtual 91, 3) := by decide +kernel
theorem dX1_open_7 : decode cX1_open 7 = .ok (.aload_n 0, 1) := by decide +kernel
theorem dX1_open_8 : decode cX1_open 8 = .ok (.getfield 71, 3) := by decide +kernel
theorem dX1_open_11 : decode cX1_open 11 = .ok (.invokevirtual 94, 3) := by decide +kernel
theorem dX1_open_14 : decode cX1_open 14 = .ok (.aload_n 0, 1) := by decide +kernel
theorem dX1_open_15 : decode cX1_open 15 = .ok (.getfield 80, 3) := by decide +kernel
theorem dX1_open_18 : decode cX1_open 18 = .ok (.invokevirtual 95, 3) := by decide +kernel
theorem dX1_open_21 : decode cX1_open 21 = .ok (.iconst 0, 1) := by decide +kernel
theorem dX1_open_22 : decode cX1_open 22 = .ok (.istore_n 1, 1) := by decide +kernel
theorem dX1_open_23 : decode cX1_open 23 = .ok (.iload_n 1, 1) := by decide +kernel
theorem dX1_open_24 : decode cX1_open 24 = .ok (.aload_n 0, 1) := by decide +kernel
theorem dX1_open_25 : decode cX1_open 25 = .ok (.getfield 9, 3) := by decide +kernel
theorem dX1_open_28 : decode cX1_open 28 = .ok (.arraylength, 1) := by decide +kernel
theorem dX1_open_29 : decode cX1_open 29 = .ok (.if_icmp .ge 24, 3) := by decide +kernel
theorem dX1_open_32 : decode cX1_open 32 = .ok (.aload_n 0, 1) := by decide +kernel
theorem dX1_open_33 : decode cX1_open 33 = .ok (.getfield 9, 3) := by decide +kernel
theorem dX1_open_36 : decode cX1_open 36 = .ok (.iload_n 1, 1) := by decide +kernel
theorem dX1_open_37 : decode cX1_open 37 = .ok (.aload_n 0, 1) := by decide +kernel
theorem dX1_open_38 : decode cX1_open 38 = .ok (.getfield 39, 3) := by decide +kernel
theorem dX1_open_41 : decode cX1_open 41 = .ok (.getfield 96, 3) := by decide +kernel
theorem dX1_open_44 : decode cX1_open 44 = .ok (.iload_n 1, 1) := by decide +kernel
theorem dX1_open_45 : decode cX1_open 45 = .ok (.iaload, 1) := by decide +kernel
theorem dX1_open_46 : decode cX1_open 46 = .ok (.iastore, 1) := by decide +kernel
theorem dX1_open_47 : decode cX1_open 47 = .ok (.iinc 1 1, 3) := by decide +kernel
theorem dX1_open_50 : decode cX1_open 50 = .ok (.goto (-27), 3) := by decide +kernel
theorem dX1_open_53 : decode cX1_open 53 = .ok (.aload_n 0, 1) := by decide +kernel
theorem dX1_open_54 : decode cX1_open 54 = .ok (.getfield 87, 3) := by decide +kernel
theorem dX1_open_57 : decode cX1_open 57 = .ok (.invokevirtual 99, 3) := by decide +kernel
theorem dX1_open_60 : decode cX1_open 60 = .ok (.aload_n 0, 1) := by decide +kernel
theorem dX1_open_61 : decode cX1_open 61 = .ok (.lconst 0, 1) := by decide +kernel
theorem dX1_open_62 : decode cX1_open 62 = .ok (.putfield 15, 3) := by decide +kernel
theorem dX1_open_65 : decode cX1_open 65 = .ok (.aload_n 0, 1) := by decide +kernel
theorem dX1_open_66 : decode cX1_open 66 = .ok (.iconst 1, 1) := by decide +kernel
theorem dX1_open_67 : decode cX1_open 67 = .ok (.putfield 19, 3) := by decide +kernel
theorem dX1_open_70 : decode cX1_open 70 = .ok (.aload_n 0, 1) := by decide +kernel
theorem dX1_open_71 : decode cX1_open 71 = .ok (.iconst 0, 1) := by decide +kernel
theorem dX1_open_72 : decode cX1_open 72 = .ok (.putfield 23, 3) := by decide +kernel
theorem dX1_open_75 : decode cX1_open 75 = .ok (.aload_n 0, 1) := by decide +kernel
theorem dX1_open_76 : decode cX1_open 76 = .ok (.iconst 0, 1) := by decide +kernel
theorem dX1_open_77 : decode cX1_open 77 = .ok (.putfield 26, 3) := by decide +kernel
theorem dX1_open_80 : decode cX1_open 80 = .ok (.aload_n 0, 1) := by decide +kernel
theorem dX1_open_81 : decode cX1_open 81 = .ok (.iconst 0, 1) := by decide +kernel
theorem dX1_open_82 : decode cX1_open 82 = .ok (.putfield 30, 3) := by decide +kernel
theorem dX1_open_85 : decode cX1_open 85 = .ok (.aload_n 0, 1) := by decide +kernel
theorem dX1_open_86 : decode cX1_open 86 = .ok (.getfield 80, 3) := by decide +kernel
theorem dX1_open_89 : decode cX1_open 89 = .ok (.invokevirtual 100, 3) := by decide +kernel
theorem dX1_open_92 : decode cX1_open 92 = .ok (.aload_n 0, 1) := by decide +kernel
theorem dX1_open_93 : decode cX1_open 93 = .ok (.invokevirtual 103, 3) := by decide +kernel
theorem dX1_open_96 : decode cX1_open 96 = .ok (.aload_n 0, 1) := by decide +kernel
theorem dX1_open_97 : decode cX1_open 97 = .ok (.getfield 87, 3) := by decide +kernel
theorem dX1_open_100 : decode cX1_open 100 = .ok (.iconst 0, 1) := by decide +kernel
theorem dX1_open_101 : decode cX1_open 101 = .ok (.invokevirtual 106, 3) := by decide +kernel
theorem dX1_open_104 : decode cX1_open 104 = .ok (.ifCond .eq 10, 3) := by decide +kernel
theorem dX1_open_107 : decode cX1_open 107 = .ok (.aload_n 0, 1) := by decide +kernel
theorem dX1_open_108 : decode cX1_open 108 = .ok (.iconst 0, 1) := by decide +kernel
theorem dX1_open_109 : decode cX1_open 109 = .ok (.iconst (-1), 1) := by decide +kernel
theorem dX1_open_110 : decode cX1_open 110 = .ok (.iconst 1, 1) := by decide +kernel
theorem dX1_open_111 : decode cX1_open 111 = .ok (.invokevirtual 110, 3) := by decide +kernel
theorem dX1_open_114 : decode cX1_open 114 = .ok (.aload_n 0, 1) := by decide +kernel
theorem dX1_open_115 : decode cX1_open 115 = .ok (.invokevirtual 114, 3) := by decide +kernel
theorem dX1_open_118 : decode cX1_open 118 = .ok (.return_, 1) := by decide +kernel
theorem dX1_hit_0 : decode cX1_hit 0 = .ok (.aload_n 0, 1) := by decide +kernel
theorem dX1_hit_1 : decode cX1_hit 1 = .ok (.getfield 64, 3) := by decide +kernel
theorem dX1_hit_4 : decode cX1_hit 4 = .ok (.iload_n 1, 1) := by decide +kernel
theorem dX1_hit_5 : decode cX1_hit 5 = .ok (.aload_n 0, 1) := by decide +kernel
theorem dX1_hit_6 : decode cX1_hit 6 = .ok (.getfield 23, 3) := by decide +kernel
theorem dX1_hit_9 : decode cX1_hit 9 = .ok (.aload_n 0, 1) := by decide +kernel
theorem dX1_hit_10 : decode cX1_hit 10 = .ok (.getfield 19, 3) := by decide +kernel
theorem dX1_hit_13 : decode cX1_hit 13 = .ok (.invokevirtual 117, 3) := by decide +kernel
theorem dX1_hit_16 : decode cX1_hit 16 = .ok (.ifCond .ne 5, 3) := by decide +kernel
theorem dX1_hit_19 : decode cX1_hit 19 = .ok (.iconst 0, 1) := by decide +kernel
theorem dX1_hit_20 : decode cX1_hit 20 = .ok (.ireturn, 1) := by decide +kernel
theorem dX1_hit_21 : decode cX1_hit 21 = .ok (.aload_n 0, 1) := by decide +kernel
theorem dX1_hit_22 : decode cX1_hit 22 = .ok (.getfield 80, 3) := by decide +kernel
theorem dX1_hit_25 : decode cX1_hit 25 = .ok (.iload_n 1, 1) := by decide +kernel
theorem dX1_hit_26 : decode cX1_hit 26 = .ok (.invokevirtual 121, 3) := by decide +kernel
theorem dX1_hit_29 : decode cX1_hit 29 = .ok (.aload_n 0, 1) := by decide +kernel
theorem dX1_hit_30 : decode cX1_hit 30 = .ok (.invokevirtual 103, 3) := by decide +kernel
theorem dX1_hit_33 : decode cX1_hit 33 = .ok (.iconst 0, 1) := by decide +kernel
theorem dX1_hit_34 : decode cX1_hit 34 = .ok (.istore_n 2, 1) := by decide +kernel
theorem dX1_hit_35 : decode cX1_hit 35 = .ok (.iload_n 2, 1) := by decide +kernel
theorem dX1_hit_36 : decode cX1_hit 36 = .ok (.aload_n 0, 1) := by decide +kernel
theorem dX1_hit_37 : decode cX1_hit 37 = .ok (.getfield 39, 3) := by decide +kernel
theorem dX1_hit_40 : decode cX1_hit 40 = .ok (.getfield 125, 3) := by decide +kernel
theorem dX1_hit_43 : decode cX1_hit 43 = .ok (.bipush 7, 2) := by decide +kernel
theorem dX1_hit_45 : decode cX1_hit 45 = .ok (.iaload, 1) := by decide +kernel
theorem dX1_hit_46 : decode cX1_hit 46 = .ok (.if_icmp .ge 43, 3) := by decide +kernel
theorem dX1_hit_49 : decode cX1_hit 49 = .ok (.aload_n 0, 1) := by decide +kernel
theorem dX1_hit_50 : decode cX1_hit 50 = .ok (.getfield 36, 3) := by decide +kernel
theorem dX1_hit_53 : decode cX1_hit 53 = .ok (.ifCond .ne 36, 3) := by decide +kernel
theorem dX1_hit_56 : decode cX1_hit 56 = .ok (.aload_n 0, 1) := by decide +kernel
theorem dX1_hit_57 : decode cX1_hit 57 = .ok (.getfield 39, 3) := by decide +kernel
theorem dX1_hit_60 : decode cX1_hit 60 = .ok (.iload_n 2, 1) := by decide +kernel
theorem dX1_hit_61 : decode cX1_hit 61 = .ok (.invokevirtual 128, 3) := by decide +kernel
theorem dX1_hit_64 : decode cX1_hit 64 = .ok (.istore_n 3, 1) := by decide +kernel
theorem dX1_hit_65 : decode cX1_hit 65 = .ok (.aload_n 0, 1) := by decide +kernel
theorem dX1_hit_66 : decode cX1_hit 66 = .ok (.getfield 87, 3) := by decide +kernel
theorem dX1_hit_69 : decode cX1_hit 69 = .ok (.iload_n 3, 1) := by decide +kernel
theorem dX1_hit_70 : decode cX1_hit 70 = .ok (.invokevirtual 132, 3) := by decide +kernel
theorem dX1_hit_73 : decode cX1_hit 73 = .ok (.ifCond .eq 10, 3) := by decide +kernel
theorem dX1_hit_76 : decode cX1_hit 76 = .ok (.aload_n 0, 1) := by decide +kernel
theorem dX1_hit_77 : decode cX1_hit 77 = .ok (.iload_n 3, 1) := by decide +kernel
theorem dX1_hit_78 : decode cX1_hit 78 = .ok (.iload_n 1, 1) := by decide +kernel
theorem dX1_hit_79 : decode cX1_hit 79 = .ok (.iconst 0, 1) := by decide +kernel
theorem dX1_hit_80 : decode cX1_hit 80 = .ok (.invokevirtual 110, 3) := by decide +kernel
theorem dX1_hit_83 : decode cX1_hit 83 = .ok (.iinc 2 1, 3) := by decide +kernel
theorem dX1_hit_86 : decode cX1_hit 86 = .ok (.goto (-51), 3) := by decide +kernel
theorem dX1_hit_89 : decode cX1_hit 89 = .ok (.aload_n 0, 1) := by decide +kernel
theorem dX1_hit_90 : decode cX1_hit 90 = .ok (.invokevirtual 114, 3) := by decide +kernel
theorem dX1_hit_93 : decode cX1_hit 93 = .ok (.iconst 1, 1) := by decide +kernel
theorem dX1_hit_94 : decode cX1_hit 94 = .ok (.ireturn, 1) := by decide +kernel
theorem dX1_passTick_0 : decode cX1_passTick 0 = .ok (.aload_n 0, 1) := by decide +kernel
theorem dX1_passTick_1 : decode cX1_passTick 1 = .ok (.dup, 1) := by decide +kernel
theorem dX1_passTick_2 : decode cX1_passTick 2 = .ok (.getfield 23, 3) := by decide +kernel
theorem dX1_passTick_5 : decode cX1_passTick 5 = .ok (.iconst 1, 1) := by decide +kernel
theorem dX1_passTick_6 : decode cX1_passTick 6 = .ok (.iadd, 1) := by decide +kernel
theorem dX1_passTick_7 : decode cX1_passTick 7 = .ok (.putfield 23, 3) := by decide +kernel
theorem dX1_passTick_10 : decode cX1_passTick 10 = .ok (.aload_n 0, 1) := by decide +kernel
theorem dX1_passTick_11 : decode cX1_passTick 11 = .ok (.getfield 19, 3) := by decide +kernel
theorem dX1_passTick_14 : decode cX1_passTick 14 = .ok (.ifCond .eq 82, 3) := by decide +kernel
theorem dX1_passTick_17 : decode cX1_passTick 17 = .ok (.aload_n 0, 1) := by decide +kernel
theorem dX1_passTick_18 : decode cX1_passTick 18 = .ok (.getfield 87, 3) := by decide +kernel
theorem dX1_passTick_21 : decode cX1_passTick 21 = .ok (.getfield 135, 3) := by decide +kernel
theorem dX1_passTick_24 : decode cX1_passTick 24 = .ok (.ifCond .le 72, 3) := by decide +kernel
theorem dX1_passTick_27 : decode cX1_passTick 27 = .ok (.aload_n 0, 1) := by decide +kernel
theorem dX1_passTick_28 : decode cX1_passTick 28 = .ok (.invokevirtual 103, 3) := by decide +kernel
theorem dX1_passTick_31 : decode cX1_passTick 31 = .ok (.iconst 0, 1) := by decide +kernel
theorem dX1_passTick_32 : decode cX1_passTick 32 = .ok (.istore_n 1, 1) := by decide +kernel
theorem dX1_passTick_33 : decode cX1_passTick 33 = .ok (.iload_n 1, 1) := by decide +kernel
theorem dX1_passTick_34 : decode cX1_passTick 34 = .ok (.aload_n 0, 1) := by decide +kernel
theorem dX1_passTick_35 : decode cX1_passTick 35 = .ok (.getfield 39, 3) := by decide +kernel
theorem dX1_passTick_38 : decode cX1_passTick 38 = .ok (.getfield 125, 3) := by decide +kernel
theorem dX1_passTick_41 : decode cX1_passTick 41 = .ok (.bipush 7, 2) := by decide +kernel
theorem dX1_passTick_43 : decode cX1_passTick 43 = .ok (.iaload, 1) := by decide +kernel
theorem dX1_passTick_44 : decode cX1_passTick 44 = .ok (.if_icmp .ge 48, 3) := by decide +kernel
theorem dX1_passTick_47 : decode cX1_passTick 47 = .ok (.aload_n 0, 1) := by decide +kernel
theorem dX1_passTick_48 : decode cX1_passTick 48 = .ok (.getfield 39, 3) := by decide +kernel
theorem dX1_passTick_51 : decode cX1_passTick 51 = .ok (.iload_n 1, 1) := by decide +kernel
theorem dX1_passTick_52 : decode cX1_passTick 52 = .ok (.invokevirtual 128, 3) := by decide +kernel
theorem dX1_passTick_55 : decode cX1_passTick 55 = .ok (.istore_n 2, 1) := by decide +kernel
theorem dX1_passTick_56 : decode cX1_passTick 56 = .ok (.aload_n 0, 1) := by decide +kernel
theorem dX1_passTick_57 : decode cX1_passTick 57 = .ok (.getfield 87, 3) := by decide +kernel
theorem dX1_passTick_60 : decode cX1_passTick 60 = .ok (.iload_n 2, 1) := by decide +kernel
theorem dX1_passTick_61 : decode cX1_passTick 61 = .ok (.invokevirtual 138, 3) := by decide +kernel
theorem dX1_passTick_64 : decode cX1_passTick 64 = .ok (.ifCond .eq 22, 3) := by decide +kernel
theorem dX1_passTick_67 : decode cX1_passTick 67 = .ok (.aload_n 0, 1) := by decide +kernel
theorem dX1_passTick_68 : decode cX1_passTick 68 = .ok (.getfield 87, 3) := by decide +kernel
theorem dX1_passTick_71 : decode cX1_passTick 71 = .ok (.iload_n 2, 1) := by decide +kernel
theorem dX1_passTick_72 : decode cX1_passTick 72 = .ok (.invokevirtual 141, 3) := by decide +kernel
theorem dX1_passTick_75 : decode cX1_passTick 75 = .ok (.ifCond .eq 11, 3) := by decide +kernel
theorem dX1_passTick_78 : decode cX1_passTick 78 = .ok (.aload_n 0, 1) := by decide +kernel
theorem dX1_passTick_79 : decode cX1_passTick 79 = .ok (.iload_n 2, 1) := by decide +kernel
theorem dX1_passTick_80 : decode cX1_passTick 80 = .ok (.bipush (-2), 2) := by decide +kernel
theorem dX1_passTick_82 : decode cX1_passTick 82 = .ok (.iconst 1, 1) := by decide +kernel
theorem dX1_passTick_83 : decode cX1_passTick 83 = .ok (.invokevirtual 110, 3) := by decide +kernel
theorem dX1_passTick_86 : decode cX1_passTick 86 = .ok (.iinc 1 1, 3) := by decide +kernel
theorem dX1_passTick_89 : decode cX1_passTick 89 = .ok (.goto (-56), 3) := by decide +kernel
theorem dX1_passTick_92 : decode cX1_passTick 92 = .ok (.aload_n 0, 1) := by decide +kernel
theorem dX1_passTick_93 : decode cX1_passTick 93 = .ok (.invokevirtual 114, 3) := by decide +kernel
theorem dX1_passTick_96 : decode cX1_passTick 96 = .ok (.aload_n 0, 1) := by decide +kernel
theorem dX1_passTick_97 : decode cX1_passTick 97 = .ok (.getfield 71, 3) := by decide +kernel
theorem dX1_passTick_100 : decode cX1_passTick 100 = .ok (.aload_n 0, 1) := by decide +kernel
theorem dX1_passTick_101 : decode cX1_passTick 101 = .ok (.getfield 23, 3) := by decide +kernel
theorem dX1_passTick_104 : decode cX1_passTick 104 = .ok (.invokevirtual 144, 3) := by decide +kernel
theorem dX1_passTick_107 : decode cX1_passTick 107 = .ok (.ireturn, 1) := by decide +kernel
theorem dX1_beginActs_0 : decode cX1_beginActs 0 = .ok (.aload_n 0, 1) := by decide +kernel
theorem dX1_beginActs_1 : decode cX1_beginActs 1 = .ok (.iconst 0, 1) := by decide +kernel
theorem dX1_beginActs_2 : decode cX1_beginActs 2 = .ok (.putfield 33, 3) := by decide +kernel
theorem dX1_beginActs_5 : decode cX1_beginActs 5 = .ok (.aload_n 0, 1) := by decide +kernel
theorem dX1_beginActs_6 : decode cX1_beginActs 6 = .ok (.iconst 0, 1) := by decide +kernel
theorem dX1_beginActs_7 : decode cX1_beginActs 7 = .ok (.putfield 36, 3) := by decide +kernel
theorem dX1_beginActs_10 : decode cX1_beginActs 10 = .ok (.aload_n 0, 1) := by decide +kernel
theorem dX1_beginActs_11 : decode cX1_beginActs 11 = .ok (.getfield 87, 3) := by decide +kernel
theorem dX1_beginActs_14 : decode cX1_beginActs 14 = .ok (.invokevirtual 147, 3) := by decide +kernel
theorem dX1_beginActs_17 : decode cX1_beginActs 17 = .ok (.return_, 1) := by decide +kernel
theorem dX1_endBallIfNoneInPlay_0 : decode cX1_endBallIfNoneInPlay 0 = .ok (.aload_n 0, 1) := by decide +kernel
theorem dX1_endBallIfNoneInPlay_1 : decode cX1_endBallIfNoneInPlay 1 = .ok (.getfield 19, 3) := by decide +kernel
theorem dX1_endBallIfNoneInPlay_4 : decode cX1_endBallIfNoneInPlay 4 = .ok (.ifCond .eq 13, 3) := by decide +kernel
theorem dX1_endBallIfNoneInPlay_7 : decode cX1_endBallIfNoneInPlay 7 = .ok (.aload_n 0, 1) := by decide +kernel
theorem dX1_endBallIfNoneInPlay_8 : decode cX1_endBallIfNoneInPlay 8 = .ok (.getfield 80, 3) := by decide +kernel
theorem dX1_endBallIfNoneInPlay_11 : decode cX1_endBallIfNoneInPlay 11 = .ok (.getfield 150, 3) := by decide +kernel
theorem dX1_endBallIfNoneInPlay_14 : decode cX1_endBallIfNoneInPlay 14 = .ok (.ifCond .le 4, 3) := by decide +kernel
theorem dX1_endBallIfNoneInPlay_17 : decode cX1_endBallIfNoneInPlay 17 = .ok (.return_, 1) := by decide +kernel
theorem dX1_endBallIfNoneInPlay_18 : decode cX1_endBallIfNoneInPlay 18 = .ok (.aload_n 0, 1) := by decide +kernel
theorem dX1_endBallIfNoneInPlay_19 : decode cX1_endBallIfNoneInPlay 19 = .ok (.getfield 87, 3) := by decide +kernel
theorem dX1_endBallIfNoneInPlay_22 : decode cX1_endBallIfNoneInPlay 22 = .ok (.invokevirtual 153, 3) := by decide +kernel
theorem dX1_endBallIfNoneInPlay_25 : decode cX1_endBallIfNoneInPlay 25 = .ok (.aload_n 0, 1) := by decide +kernel
theorem dX1_endBallIfNoneInPlay_26 : decode cX1_endBallIfNoneInPlay 26 = .ok (.iconst 0, 1) := by decide +kernel
theorem dX1_endBallIfNoneInPlay_27 : decode cX1_endBallIfNoneInPlay 27 = .ok (.putfield 30, 3) := by decide +kernel
theorem dX1_endBallIfNoneInPlay_30 : decode cX1_endBallIfNoneInPlay 30 = .ok (.aload_n 0, 1) := by decide +kernel
theorem dX1_endBallIfNoneInPlay_31 : decode cX1_endBallIfNoneInPlay 31 = .ok (.getfield 19, 3) := by decide +kernel
theorem dX1_endBallIfNoneInPlay_34 : decode cX1_endBallIfNoneInPlay 34 = .ok (.iconst 3, 1) := by decide +kernel
theorem dX1_endBallIfNoneInPlay_35 : decode cX1_endBallIfNoneInPlay 35 = .ok (.if_icmp .ne 11, 3) := by decide +kernel
theorem dX1_endBallIfNoneInPlay_38 : decode cX1_endBallIfNoneInPlay 38 = .ok (.aload_n 0, 1) := by decide +kernel
theorem dX1_endBallIfNoneInPlay_39 : decode cX1_endBallIfNoneInPlay 39 = .ok (.iconst 0, 1) := by decide +kernel
theorem dX1_endBallIfNoneInPlay_40 : decode cX1_endBallIfNoneInPlay 40 = .ok (.putfield 19, 3) := by decide +kernel
theorem dX1_endBallIfNoneInPlay_43 : decode cX1_endBallIfNoneInPlay 43 = .ok (.goto 20, 3) := by decide +kernel
theorem dX1_endBallIfNoneInPlay_46 : decode cX1_endBallIfNoneInPlay 46 = .ok (.aload_n 0, 1) := by decide +kernel
theorem dX1_endBallIfNoneInPlay_47 : decode cX1_endBallIfNoneInPlay 47 = .ok (.dup, 1) := by decide +kernel
theorem dX1_endBallIfNoneInPlay_48 : decode cX1_endBallIfNoneInPlay 48 = .ok (.getfield 19, 3) := by decide +kernel
theorem dX1_endBallIfNoneInPlay_51 : decode cX1_endBallIfNoneInPlay 51 = .ok (.iconst 1, 1) := by decide +kernel
theorem dX1_endBallIfNoneInPlay_52 : decode cX1_endBallIfNoneInPlay 52 = .ok (.iadd, 1) := by decide +kernel
theorem dX1_endBallIfNoneInPlay_53 : decode cX1_endBallIfNoneInPlay 53 = .ok (.putfield 19, 3) := by decide +kernel
theorem dX1_endBallIfNoneInPlay_56 : decode cX1_endBallIfNoneInPlay 56 = .ok (.aload_n 0, 1) := by decide +kernel
theorem dX1_endBallIfNoneInPlay_57 : decode cX1_endBallIfNoneInPlay 57 = .ok (.getfield 80, 3) := by decide +kernel
theorem dX1_endBallIfNoneInPlay_60 : decode cX1_endBallIfNoneInPlay 60 = .ok (.invokevirtual 100, 3) := by decide +kernel
theorem dX1_endBallIfNoneInPlay_63 : decode cX1_endBallIfNoneInPlay 63 = .ok (.return_, 1) := by decide +kernel
theorem dX1_ballsOver_0 : decode cX1_ballsOver 0 = .ok (.aload_n 0, 1) := by decide +kernel
theorem dX1_ballsOver_1 : decode cX1_ballsOver 1 = .ok (.getfield 19, 3) := by decide +kernel
theorem dX1_ballsOver_4 : decode cX1_ballsOver 4 = .ok (.ifCond .ne 7, 3) := by decide +kernel
theorem dX1_ballsOver_7 : decode cX1_ballsOver 7 = .ok (.iconst 3, 1) := by decide +kernel
theorem dX1_ballsOver_8 : decode cX1_ballsOver 8 = .ok (.goto 9, 3) := by decide +kernel
theorem dX1_ballsOver_11 : decode cX1_ballsOver 11 = .ok (.aload_n 0, 1) := by decide +kernel
theorem dX1_ballsOver_12 : decode cX1_ballsOver 12 = .ok (.getfield 19, 3) := by decide +kernel
theorem dX1_ballsOver_15 : decode cX1_ballsOver 15 = .ok (.iconst 1, 1) := by decide +kernel
theorem dX1_ballsOver_16 : decode cX1_ballsOver 16 = .ok (.isub, 1) := by decide +kernel
theorem dX1_ballsOver_17 : decode cX1_ballsOver 17 = .ok (.ireturn, 1) := by decide +kernel
theorem dX1_doRules_0 : decode cX1_doRules 0 = .ok (.iload_n 3, 1) := by decide +kernel
theorem dX1_doRules_1 : decode cX1_doRules 1 = .ok (.bipush 8, 2) := by decide +kernel
theorem dX1_doRules_3 : decode cX1_doRules 3 = .ok (.if_icmp .le 4, 3) := by decide +kernel
theorem dX1_doRules_6 : decode cX1_doRules 6 = .ok (.return_, 1) := by decide +kernel
theorem dX1_doRules_7 : decode cX1_doRules 7 = .ok (.aload_n 0, 1) := by decide +kernel
theorem dX1_doRules_8 : decode cX1_doRules 8 = .ok (.getfield 87, 3) := by decide +kernel
theorem dX1_doRules_11 : decode cX1_doRules 11 = .ok (.iload_n 1, 1) := by decide +kernel
theorem dX1_doRules_12 : decode cX1_doRules 12 = .ok (.invokevirtual 156, 3) := by decide +kernel
theorem dX1_doRules_15 : decode cX1_doRules 15 = .ok (.istore 4, 2) := by decide +kernel
theorem dX1_doRules_17 : decode cX1_doRules 17 = .ok (.aload_n 0, 1) := by decide +kernel
theorem dX1_doRules_18 : decode cX1_doRules 18 = .ok (.getfield 49, 3) := by decide +kernel
theorem dX1_doRules_21 : decode cX1_doRules 21 = .ok (.iload_n 1, 1) := by decide +kernel
theorem dX1_doRules_22 : decode cX1_doRules 22 = .ok (.invokevirtual 159, 3) := by decide +kernel
theorem dX1_doRules_25 : decode cX1_doRules 25 = .ok (.istore 5, 2) := by decide +kernel
theorem dX1_doRules_27 : decode cX1_doRules 27 = .ok (.iload 5, 2) := by decide +kernel
theorem dX1_doRules_29 : decode cX1_doRules 29 = .ok (.aload_n 0, 1) := by decide +kernel
theorem dX1_doRules_30 : decode cX1_doRules 30 = .ok (.getfield 49, 3) := by decide +kernel
theorem dX1_doRules_33 : decode cX1_doRules 33 = .ok (.iload_n 1, 1) := by decide +kernel
theorem dX1_doRules_34 : decode cX1_doRules 34 = .ok (.iconst 1, 1) := by decide +kernel
theorem dX1_doRules_35 : decode cX1_doRules 35 = .ok (.iadd, 1) := by decide +kernel
theorem dX1_doRules_36 : decode cX1_doRules 36 = .ok (.invokevirtual 159, 3) := by decide +kernel
theorem dX1_doRules_39 : decode cX1_doRules 39 = .ok (.if_icmp .ge 83, 3) := by decide +kernel
theorem dX1_doRules_42 : decode cX1_doRules 42 = .ok (.aload_n 0, 1) := by decide +kernel
theorem dX1_doRules_43 : decode cX1_doRules 43 = .ok (.getfield 49, 3) := by decide +kernel
theorem dX1_doRules_46 : decode cX1_doRules 46 = .ok (.iload 5, 2) := by decide +kernel
theorem dX1_doRules_48 : decode cX1_doRules 48 = .ok (.iload_n 2, 1) := by decide +kernel
theorem dX1_doRules_49 : decode cX1_doRules 49 = .ok (.invokevirtual 164, 3) := by decide +kernel
theorem dX1_doRules_52 : decode cX1_doRules 52 = .ok (.ifCond .eq 64, 3) := by decide +kernel
theorem dX1_doRules_55 : decode cX1_doRules 55 = .ok (.aload_n 0, 1) := by decide +kernel
theorem dX1_doRules_56 : decode cX1_doRules 56 = .ok (.iload 5, 2) := by decide +kernel
theorem dX1_doRules_58 : decode cX1_doRules 58 = .ok (.iload_n 1, 1) := by decide +kernel
theorem dX1_doRules_59 : decode cX1_doRules 59 = .ok (.invokevirtual 168, 3) := by decide +kernel
theorem dX1_doRules_62 : decode cX1_doRules 62 = .ok (.ifCond .eq 54, 3) := by decide +kernel
theorem dX1_doRules_65 : decode cX1_doRules 65 = .ok (.aload_n 0, 1) := by decide +kernel
theorem dX1_doRules_66 : decode cX1_doRules 66 = .ok (.iload 5, 2) := by decide +kernel
theorem dX1_doRules_68 : decode cX1_doRules 68 = .ok (.iload_n 1, 1) := by decide +kernel
theorem dX1_doRules_69 : decode cX1_doRules 69 = .ok (.iload_n 3, 1) := by decide +kernel
theorem dX1_doRules_70 : decode cX1_doRules 70 = .ok (.invokevirtual 171, 3) := by decide +kernel
theorem dX1_doRules_73 : decode cX1_doRules 73 = .ok (.iload_n 2, 1) := by decide +kernel
theorem dX1_doRules_74 : decode cX1_doRules 74 = .ok (.bipush (-2), 2) := by decide +kernel
theorem dX1_doRules_76 : decode cX1_doRules 76 = .ok (.if_icmp .eq 20, 3) := by decide +kernel
theorem dX1_doRules_79 : decode cX1_doRules 79 = .ok (.aload_n 0, 1) := by decide +kernel
theorem dX1_doRules_80 : decode cX1_doRules 80 = .ok (.getfield 87, 3) := by decide +kernel
theorem dX1_doRules_83 : decode cX1_doRules 83 = .ok (.iload_n 1, 1) := by decide +kernel
theorem dX1_doRules_84 : decode cX1_doRules 84 = .ok (.invokevirtual 156, 3) := by decide +kernel
theorem dX1_doRules_87 : decode cX1_doRules 87 = .ok (.iload 4, 2) := by decide +kernel
theorem dX1_doRules_89 : decode cX1_doRules 89 = .ok (.if_icmp .eq 7, 3) := by decide +kernel
theorem dX1_doRules_92 : decode cX1_doRules 92 = .ok (.iconst 1, 1) := by decide +kernel
theorem dX1_doRules_93 : decode cX1_doRules 93 = .ok (.goto 4, 3) := by decide +kernel
theorem dX1_doRules_96 : decode cX1_doRules 96 = .ok (.iconst 0, 1) := by decide +kernel
theorem dX1_doRules_97 : decode cX1_doRules 97 = .ok (.istore 6, 2) := by decide +kernel
theorem dX1_doRules_99 : decode cX1_doRules 99 = .ok (.iload 6, 2) := by decide +kernel
theorem dX1_doRules_101 : decode cX1_doRules 101 = .ok (.ifCond .ne 14, 3) := by decide +kernel
theorem dX1_doRules_104 : decode cX1_doRules 104 = .ok (.iload_n 3, 1) := by decide +kernel
theorem dX1_doRules_105 : decode cX1_doRules 105 = .ok (.ifCond .ne 11, 3) := by decide +kernel
theorem dX1_doRules_108 : decode cX1_doRules 108 = .ok (.aload_n 0, 1) := by decide +kernel
theorem dX1_doRules_109 : decode cX1_doRules 109 = .ok (.getfield 36, 3) := by decide +kernel
theorem dX1_doRules_112 : decode cX1_doRules 112 = .ok (.ifCond .eq 4, 3) := by decide +kernel
theorem dX1_doRules_115 : decode cX1_doRules 115 = .ok (.return_, 1) := by decide +kernel
theorem dX1_doRules_116 : decode cX1_doRules 116 = .ok (.iinc 5 1, 3) := by decide +kernel
theorem dX1_doRules_119 : decode cX1_doRules 119 = .ok (.goto (-92), 3) := by decide +kernel
theorem dX1_doRules_122 : decode cX1_doRules 122 = .ok (.return_, 1) := by decide +kernel
theorem dX1_doActs_0 : decode cX1_doActs 0 = .ok (.aload_n 0, 1) := by decide +kernel
theorem dX1_doActs_1 : decode cX1_doActs 1 = .ok (.getfield 49, 3) := by decide +kernel
theorem dX1_doActs_4 : decode cX1_doActs 4 = .ok (.iload_n 1, 1) := by decide +kernel
theorem dX1_doActs_5 : decode cX1_doActs 5 = .ok (.invokevirtual 174, 3) := by decide +kernel
theorem dX1_doActs_8 : decode cX1_doActs 8 = .ok (.istore 4, 2) := by decide +kernel
theorem dX1_doActs_10 : decode cX1_doActs 10 = .ok (.iload 4, 2) := by decide +kernel
theorem dX1_doActs_12 : decode cX1_doActs 12 = .ok (.aload_n 0, 1) := by decide +kernel
theorem dX1_doActs_13 : decode cX1_doActs 13 = .ok (.getfield 49, 3) := by decide +kernel
theorem dX1_doActs_16 : decode cX1_doActs 16 = .ok (.invokevirtual 177, 3) := by decide +kernel
theorem dX1_doActs_19 : decode cX1_doActs 19 = .ok (.if_icmp .ge 281, 3) := by decide +kernel
theorem dX1_doActs_22 : decode cX1_doActs 22 = .ok (.aload_n 0, 1) := by decide +kernel
theorem dX1_doActs_23 : decode cX1_doActs 23 = .ok (.getfield 49, 3) := by decide +kernel
theorem dX1_doActs_26 : decode cX1_doActs 26 = .ok (.iload 4, 2) := by decide +kernel
theorem dX1_doActs_28 : decode cX1_doActs 28 = .ok (.invokevirtual 181, 3) := by decide +kernel
theorem dX1_doActs_31 : decode cX1_doActs 31 = .ok (.istore 5, 2) := by decide +kernel
theorem dX1_doActs_33 : decode cX1_doActs 33 = .ok (.iload 5, 2) := by decide +kernel
theorem dX1_doActs_35 : decode cX1_doActs 35 = .ok (.bipush 29, 2) := by decide +kernel
theorem dX1_doActs_37 : decode cX1_doActs 37 = .ok (.if_icmp .ne 4, 3) := by decide +kernel
theorem dX1_doActs_40 : decode cX1_doActs 40 = .ok (.return_, 1) := by decide +kernel
theorem dX1_doActs_41 : decode cX1_doActs 41 = .ok (.iload 5, 2) := by decide +kernel
theorem dX1_doActs_43 : decode cX1_doActs 43 = .ok (.bipush 16, 2) := by decide +kernel
theorem dX1_doActs_45 : decode cX1_doActs 45 = .ok (.if_icmp .lt 249, 3) := by decide +kernel
theorem dX1_doActs_48 : decode cX1_doActs 48 = .ok (.iload 5, 2) := by decide +kernel
theorem dX1_doActs_50 : decode cX1_doActs 50 = .ok (.bipush 24, 2) := by decide +kernel
theorem dX1_doActs_52 : decode cX1_doActs 52 = .ok (.if_icmp .le 6, 3) := by decide +kernel
theorem dX1_doActs_55 : decode cX1_doActs 55 = .ok (.goto 239, 3) := by decide +kernel
theorem dX1_doActs_58 : decode cX1_doActs 58 = .ok (.aload_n 0, 1) := by decide +kernel
theorem dX1_doActs_59 : decode cX1_doActs 59 = .ok (.getfield 33, 3) := by decide +kernel
theorem dX1_doActs_62 : decode cX1_doActs 62 = .ok (.sipush 200, 3) := by decide +kernel
theorem dX1_doActs_65 : decode cX1_doActs 65 = .ok (.if_icmp .lt 9, 3) := by decide +kernel
theorem dX1_doActs_68 : decode cX1_doActs 68 = .ok (.aload_n 0, 1) := by decide +kernel
theorem dX1_doActs_69 : decode cX1_doActs 69 = .ok (.iconst 1, 1) := by decide +kernel
theorem dX1_doActs_70 : decode cX1_doActs 70 = .ok (.putfield 26, 3) := by decide +kernel
theorem dX1_doActs_73 : decode cX1_doActs 73 = .ok (.return_, 1) := by decide +kernel
theorem dX1_doActs_74 : decode cX1_doActs 74 = .ok (.aload_n 0, 1) := by decide +kernel
theorem dX1_doActs_75 : decode cX1_doActs 75 = .ok (.dup, 1) := by decide +kernel
theorem dX1_doActs_76 : decode cX1_doActs 76 = .ok (.getfield 33, 3) := by decide +kernel
theorem dX1_doActs_79 : decode cX1_doActs 79 = .ok (.iconst 1, 1) := by decide +kernel
theorem dX1_doActs_80 : decode cX1_doActs 80 = .ok (.iadd, 1) := by decide +kernel
theorem dX1_doActs_81 : decode cX1_doActs 81 = .ok (.putfield 33, 3) := by decide +kernel
theorem dX1_doActs_84 : decode cX1_doActs 84 = .ok (.aload_n 0, 1) := by decide +kernel
theorem dX1_doActs_85 : decode cX1_doActs 85 = .ok (.getfield 49, 3) := by decide +kernel
theorem dX1_doActs_88 : decode cX1_doActs 88 = .ok (.iload 4, 2) := by decide +kernel
theorem dX1_doActs_90 : decode cX1_doActs 90 = .ok (.iconst 1, 1) := by decide +kernel
theorem dX1_doActs_91 : decode cX1_doActs 91 = .ok (.iadd, 1) := by decide +kernel
theorem dX1_doActs_92 : decode cX1_doActs 92 = .ok (.invokevirtual 184, 3) := by decide +kernel
theorem dX1_doActs_95 : decode cX1_doActs 95 = .ok (.istore 6, 2) := by decide +kernel
theorem dX1_doActs_97 : decode cX1_doActs 97 = .ok (.iload 5, 2) := by decide +kernel
theorem dX1_doActs_99 : decode cX1_doActs 99 = .ok (.tableswitch 183 16 23 #[45, 61, 79, 104, 128, 140, 163, 173], 45) := by decide +kernel
theorem dX1_doActs_144 : decode cX1_doActs 144 = .ok (.aload_n 0, 1) := by decide +kernel
theorem dX1_doActs_145 : decode cX1_doActs 145 = .ok (.aload_n 0, 1) := by decide +kernel
theorem dX1_doActs_146 : decode cX1_doActs 146 = .ok (.iload 4, 2) := by decide +kernel
theorem dX1_doActs_148 : decode cX1_doActs 148 = .ok (.iconst 1, 1) := by decide +kernel
theorem dX1_doActs_149 : decode cX1_doActs 149 = .ok (.iadd, 1) := by decide +kernel
theorem dX1_doActs_150 : decode cX1_doActs 150 = .ok (.iload_n 2, 1) := by decide +kernel
theorem dX1_doActs_151 : decode cX1_doActs 151 = .ok (.invokevirtual 187, 3) := by decide +kernel
theorem dX1_doActs_154 : decode cX1_doActs 154 = .ok (.invokevirtual 191, 3) := by decide +kernel
theorem dX1_doActs_157 : decode cX1_doActs 157 = .ok (.goto 137, 3) := by decide +kernel
theorem dX1_doActs_160 : decode cX1_doActs 160 = .ok (.aload_n 0, 1) := by decide +kernel
theorem dX1_doActs_161 : decode cX1_doActs 161 = .ok (.iload 6, 2) := by decide +kernel
theorem dX1_doActs_163 : decode cX1_doActs 163 = .ok (.aload_n 0, 1) := by decide +kernel
theorem dX1_doActs_164 : decode cX1_doActs 164 = .ok (.iload 4, 2) := by decide +kernel
theorem dX1_doActs_166 : decode cX1_doActs 166 = .ok (.iconst 2, 1) := by decide +kernel
theorem dX1_doActs_167 : decode cX1_doActs 167 = .ok (.iadd, 1) := by decide +kernel
theorem dX1_doActs_168 : decode cX1_doActs 168 = .ok (.iload_n 2, 1) := by decide +kernel
theorem dX1_doActs_169 : decode cX1_doActs 169 = .ok (.invokevirtual 187, 3) := by decide +kernel
theorem dX1_doActs_172 : decode cX1_doActs 172 = .ok (.invokevirtual 194, 3) := by decide +kernel
theorem dX1_doActs_175 : decode cX1_doActs 175 = .ok (.goto 119, 3) := by decide +kernel
theorem dX1_doActs_178 : decode cX1_doActs 178 = .ok (.aload_n 0, 1) := by decide +kernel
theorem dX1_doActs_179 : decode cX1_doActs 179 = .ok (.getfield 87, 3) := by decide +kernel
theorem dX1_doActs_182 : decode cX1_doActs 182 = .ok (.iload 6, 2) := by decide +kernel
theorem dX1_doActs_184 : decode cX1_doActs 184 = .ok (.invokevirtual 106, 3) := by decide +kernel
theorem dX1_doActs_187 : decode cX1_doActs 187 = .ok (.ifCond .eq 107, 3) := by decide +kernel
theorem dX1_doActs_190 : decode cX1_doActs 190 = .ok (.aload_n 0, 1) := by decide +kernel
theorem dX1_doActs_191 : decode cX1_doActs 191 = .ok (.iload 6, 2) := by decide +kernel
theorem dX1_doActs_193 : decode cX1_doActs 193 = .ok (.iconst (-1), 1) := by decide +kernel
theorem dX1_doActs_194 : decode cX1_doActs 194 = .ok (.iload_n 3, 1) := by decide +kernel
theorem dX1_doActs_195 : decode cX1_doActs 195 = .ok (.iconst 1, 1) := by decide +kernel
theorem dX1_doActs_196 : decode cX1_doActs 196 = .ok (.iadd, 1) := by decide +kernel
theorem dX1_doActs_197 : decode cX1_doActs 197 = .ok (.invokevirtual 110, 3) := by decide +kernel
theorem dX1_doActs_200 : decode cX1_doActs 200 = .ok (.goto 94, 3) := by decide +kernel
theorem dX1_doActs_203 : decode cX1_doActs 203 = .ok (.aload_n 0, 1) := by decide +kernel
theorem dX1_doActs_204 : decode cX1_doActs 204 = .ok (.getfield 87, 3) := by decide +kernel
theorem dX1_doActs_207 : decode cX1_doActs 207 = .ok (.iload_n 2, 1) := by decide +kernel
theorem dX1_doActs_208 : decode cX1_doActs 208 = .ok (.invokevirtual 141, 3) := by decide +kernel
theorem dX1_doActs_211 : decode cX1_doActs 211 = .ok (.ifCond .eq 83, 3) := by decide +kernel
theorem dX1_doActs_214 : decode cX1_doActs 214 = .ok (.aload_n 0, 1) := by decide +kernel
theorem dX1_doActs_215 : decode cX1_doActs 215 = .ok (.iload_n 2, 1) := by decide +kernel
theorem dX1_doActs_216 : decode cX1_doActs 216 = .ok (.bipush (-2), 2) := by decide +kernel
theorem dX1_doActs_218 : decode cX1_doActs 218 = .ok (.iload_n 3, 1) := by decide +kernel
theorem dX1_doActs_219 : decode cX1_doActs 219 = .ok (.iconst 1, 1) := by decide +kernel
theorem dX1_doActs_220 : decode cX1_doActs 220 = .ok (.iadd, 1) := by decide +kernel
theorem dX1_doActs_221 : decode cX1_doActs 221 = .ok (.invokevirtual 110, 3) := by decide +kernel
theorem dX1_doActs_224 : decode cX1_doActs 224 = .ok (.goto 70, 3) := by decide +kernel
theorem dX1_doActs_227 : decode cX1_doActs 227 = .ok (.aload_n 0, 1) := by decide +kernel
theorem dX1_doActs_228 : decode cX1_doActs 228 = .ok (.getfield 71, 3) := by decide +kernel
theorem dX1_doActs_231 : decode cX1_doActs 231 = .ok (.iload 6, 2) := by decide +kernel
theorem dX1_doActs_233 : decode cX1_doActs 233 = .ok (.invokevirtual 198, 3) := by decide +kernel
theorem dX1_doActs_236 : decode cX1_doActs 236 = .ok (.goto 58, 3) := by decide +kernel
theorem dX1_doActs_239 : decode cX1_doActs 239 = .ok (.aload_n 0, 1) := by decide +kernel
theorem dX1_doActs_240 : decode cX1_doActs 240 = .ok (.aload_n 0, 1) := by decide +kernel
theorem dX1_doActs_241 : decode cX1_doActs 241 = .ok (.getfield 36, 3) := by decide +kernel
theorem dX1_doActs_244 : decode cX1_doActs 244 = .ok (.ifCond .ne 7, 3) := by decide +kernel
theorem dX1_doActs_247 : decode cX1_doActs 247 = .ok (.iload_n 3, 1) := by decide +kernel
theorem dX1_doActs_248 : decode cX1_doActs 248 = .ok (.ifCond .ne 7, 3) := by decide +kernel
theorem dX1_doActs_251 : decode cX1_doActs 251 = .ok (.iconst 1, 1) := by decide +kernel
theorem dX1_doActs_252 : decode cX1_doActs 252 = .ok (.goto 4, 3) := by decide +kernel
theorem dX1_doActs_255 : decode cX1_doActs 255 = .ok (.iconst 0, 1) := by decide +kernel
theorem dX1_doActs_256 : decode cX1_doActs 256 = .ok (.putfield 36, 3) := by decide +kernel
theorem dX1_doActs_259 : decode cX1_doActs 259 = .ok (.goto 35, 3) := by decide +kernel
theorem dX1_doActs_262 : decode cX1_doActs 262 = .ok (.aload_n 0, 1) := by decide +kernel
theorem dX1_doActs_263 : decode cX1_doActs 263 = .ok (.getfield 80, 3) := by decide +kernel
theorem dX1_doActs_266 : decode cX1_doActs 266 = .ok (.invokevirtual 201, 3) := by decide +kernel
theorem dX1_doActs_269 : decode cX1_doActs 269 = .ok (.goto 25, 3) := by decide +kernel
theorem dX1_doActs_272 : decode cX1_doActs 272 = .ok (.aload_n 0, 1) := by decide +kernel
theorem dX1_doActs_273 : decode cX1_doActs 273 = .ok (.getfield 80, 3) := by decide +kernel
theorem dX1_doActs_276 : decode cX1_doActs 276 = .ok (.invokevirtual 100, 3) := by decide +kernel
theorem dX1_doActs_279 : decode cX1_doActs 279 = .ok (.goto 15, 3) := by decide +kernel
theorem dX1_doActs_282 : decode cX1_doActs 282 = .ok (.aload_n 0, 1) := by decide +kernel
theorem dX1_doActs_283 : decode cX1_doActs 283 = .ok (.iconst 1, 1) := by decide +kernel
theorem dX1_doActs_284 : decode cX1_doActs 284 = .ok (.putfield 30, 3) := by decide +kernel
theorem dX1_doActs_287 : decode cX1_doActs 287 = .ok (.aload_n 0, 1) := by decide +kernel
theorem dX1_doActs_288 : decode cX1_doActs 288 = .ok (.getfield 87, 3) := by decide +kernel
theorem dX1_doActs_291 : decode cX1_doActs 291 = .ok (.invokevirtual 153, 3) := by decide +kernel
theorem dX1_doActs_294 : decode cX1_doActs 294 = .ok (.iinc 4 1, 3) := by decide +kernel
theorem dX1_doActs_297 : decode cX1_doActs 297 = .ok (.goto (-287), 3) := by decide +kernel
theorem dX1_doActs_300 : decode cX1_doActs 300 = .ok (.return_, 1) := by decide +kernel
theorem dX1_gain_0 : decode cX1_gain 0 = .ok (.aload_n 0, 1) := by decide +kernel
theorem dX1_gain_1 : decode cX1_gain 1 = .ok (.getfield 30, 3) := by decide +kernel
theorem dX1_gain_4 : decode cX1_gain 4 = .ok (.ifCond .ne 18, 3) := by decide +kernel
theorem dX1_gain_7 : decode cX1_gain 7 = .ok (.aload_n 0, 1) := by decide +kernel
theorem dX1_gain_8 : decode cX1_gain 8 = .ok (.lconst 0, 1) := by decide +kernel
theorem dX1_gain_9 : decode cX1_gain 9 = .ok (.aload_n 0, 1) := by decide +kernel
theorem dX1_gain_10 : decode cX1_gain 10 = .ok (.getfield 15, 3) := by decide +kernel
theorem dX1_gain_13 : decode cX1_gain 13 = .ok (.iload_n 1, 1) := by decide +kernel
theorem dX1_gain_14 : decode cX1_gain 14 = .ok (.i2l, 1) := by decide +kernel
theorem dX1_gain_15 : decode cX1_gain 15 = .ok (.ladd, 1) := by decide +kernel
theorem dX1_gain_16 : decode cX1_gain 16 = .ok (.invokestatic 204, 3) := by decide +kernel
theorem dX1_gain_19 : decode cX1_gain 19 = .ok (.putfield 15, 3) := by decide +kernel
theorem dX1_gain_22 : decode cX1_gain 22 = .ok (.return_, 1) := by decide +kernel
theorem dX1_assign_0 : decode cX1_assign 0 = .ok (.iload_n 1, 1) := by decide +kernel
theorem dX1_assign_1 : decode cX1_assign 1 = .ok (.ifCond .lt 19, 3) := by decide +kernel
theorem dX1_assign_4 : decode cX1_assign 4 = .ok (.iload_n 1, 1) := by decide +kernel
theorem dX1_assign_5 : decode cX1_assign 5 = .ok (.aload_n 0, 1) := by decide +kernel
theorem dX1_assign_6 : decode cX1_assign 6 = .ok (.getfield 9, 3) := by decide +kernel
theorem dX1_assign_9 : decode cX1_assign 9 = .ok (.arraylength, 1) := by decide +kernel
theorem dX1_assign_10 : decode cX1_assign 10 = .ok (.if_icmp .ge 10, 3) := by decide +kernel
theorem dX1_assign_13 : decode cX1_assign 13 = .ok (.aload_n 0, 1) := by decide +kernel
theorem dX1_assign_14 : decode cX1_assign 14 = .ok (.getfield 9, 3) := by decide +kernel
theorem dX1_assign_17 : decode cX1_assign 17 = .ok (.iload_n 1, 1) := by decide +kernel
theorem dX1_assign_18 : decode cX1_assign 18 = .ok (.iload_n 2, 1) := by decide +kernel
theorem dX1_assign_19 : decode cX1_assign 19 = .ok (.iastore, 1) := by decide +kernel
theorem dX1_assign_20 : decode cX1_assign 20 = .ok (.return_, 1) := by decide +kernel
theorem dX1_work_0 : decode cX1_work 0 = .ok (.aload_n 0, 1) := by decide +kernel
theorem dX1_work_1 : decode cX1_work 1 = .ok (.getfield 55, 3) := by decide +kernel
theorem dX1_work_4 : decode cX1_work 4 = .ok (.iload_n 1, 1) := by decide +kernel
theorem dX1_work_5 : decode cX1_work 5 = .ok (.aload_n 0, 1) := by decide +kernel
theorem dX1_work_6 : decode cX1_work 6 = .ok (.getfield 9, 3) := by decide +kernel
theorem dX1_work_9 : decode cX1_work 9 = .ok (.aload_n 0, 1) := by decide +kernel
theorem dX1_work_10 : decode cX1_work 10 = .ok (.getfield 87, 3) := by decide +kernel
theorem dX1_work_13 : decode cX1_work 13 = .ok (.iload_n 2, 1) := by decide +kernel
theorem dX1_work_14 : decode cX1_work 14 = .ok (.invokevirtual 210, 3) := by decide +kernel
theorem dX1_work_17 : decode cX1_work 17 = .ok (.aload_n 0, 1) := by decide +kernel
theorem dX1_work_18 : decode cX1_work 18 = .ok (.getfield 80, 3) := by decide +kernel
theorem dX1_work_21 : decode cX1_work 21 = .ok (.getfield 150, 3) := by decide +kernel
theorem dX1_work_24 : decode cX1_work 24 = .ok (.invokevirtual 213, 3) := by decide +kernel
theorem dX1_work_27 : decode cX1_work 27 = .ok (.ireturn, 1) := by decide +kernel
theorem dX1_holds_0 : decode cX1_holds 0 = .ok (.aload_n 0, 1) := by decide +kernel
theorem dX1_holds_1 : decode cX1_holds 1 = .ok (.getfield 49, 3) := by decide +kernel
theorem dX1_holds_4 : decode cX1_holds 4 = .ok (.iload_n 1, 1) := by decide +kernel
theorem dX1_holds_5 : decode cX1_holds 5 = .ok (.invokevirtual 216, 3) := by decide +kernel
theorem dX1_holds_8 : decode cX1_holds 8 = .ok (.istore_n 3, 1) := by decide +kernel
theorem dX1_holds_9 : decode cX1_holds 9 = .ok (.iconst 0, 1) := by decide +kernel
theorem dX1_holds_10 : decode cX1_holds 10 = .ok (.istore 4, 2) := by decide +kernel
theorem dX1_holds_12 : decode cX1_holds 12 = .ok (.iload 4, 2) := by decide +kernel
theorem dX1_holds_14 : decode cX1_holds 14 = .ok (.sipush 1000, 3) := by decide +kernel
theorem dX1_holds_17 : decode cX1_holds 17 = .ok (.if_icmp .gt 101, 3) := by decide +kernel
theorem dX1_holds_20 : decode cX1_holds 20 = .ok (.iload_n 3, 1) := by decide +kernel
theorem dX1_holds_21 : decode cX1_holds 21 = .ok (.iconst (-1), 1) := by decide +kernel
theorem dX1_holds_22 : decode cX1_holds 22 = .ok (.if_icmp .eq 96, 3) := by decide +kernel
theorem dX1_holds_25 : decode cX1_holds 25 = .ok (.aload_n 0, 1) := by decide +kernel
theorem dX1_holds_26 : decode cX1_holds 26 = .ok (.iload_n 3, 1) := by decide +kernel
theorem dX1_holds_27 : decode cX1_holds 27 = .ok (.iload_n 2, 1) := by decide +kernel
theorem dX1_holds_28 : decode cX1_holds 28 = .ok (.invokevirtual 187, 3) := by decide +kernel
theorem dX1_holds_31 : decode cX1_holds 31 = .ok (.istore 5, 2) := by decide +kernel
theorem dX1_holds_33 : decode cX1_holds 33 = .ok (.aload_n 0, 1) := by decide +kernel
theorem dX1_holds_34 : decode cX1_holds 34 = .ok (.getfield 49, 3) := by decide +kernel
theorem dX1_holds_37 : decode cX1_holds 37 = .ok (.aload_n 0, 1) := by decide +kernel
theorem dX1_holds_38 : decode cX1_holds 38 = .ok (.getfield 55, 3) := by decide +kernel
theorem dX1_holds_41 : decode cX1_holds 41 = .ok (.getfield 219, 3) := by decide +kernel
theorem dX1_holds_44 : decode cX1_holds 44 = .ok (.invokevirtual 181, 3) := by decide +kernel
theorem dX1_holds_47 : decode cX1_holds 47 = .ok (.istore 6, 2) := by decide +kernel
theorem dX1_holds_49 : decode cX1_holds 49 = .ok (.aload_n 0, 1) := by decide +kernel
theorem dX1_holds_50 : decode cX1_holds 50 = .ok (.aload_n 0, 1) := by decide +kernel
theorem dX1_holds_51 : decode cX1_holds 51 = .ok (.getfield 55, 3) := by decide +kernel
theorem dX1_holds_54 : decode cX1_holds 54 = .ok (.getfield 219, 3) := by decide +kernel
theorem dX1_holds_57 : decode cX1_holds 57 = .ok (.iconst 1, 1) := by decide +kernel
theorem dX1_holds_58 : decode cX1_holds 58 = .ok (.iadd, 1) := by decide +kernel
theorem dX1_holds_59 : decode cX1_holds 59 = .ok (.iload_n 2, 1) := by decide +kernel
theorem dX1_holds_60 : decode cX1_holds 60 = .ok (.invokevirtual 187, 3) := by decide +kernel
theorem dX1_holds_63 : decode cX1_holds 63 = .ok (.istore 7, 2) := by decide +kernel
theorem dX1_holds_65 : decode cX1_holds 65 = .ok (.iload 5, 2) := by decide +kernel
theorem dX1_holds_67 : decode cX1_holds 67 = .ok (.iload 6, 2) := by decide +kernel
theorem dX1_holds_69 : decode cX1_holds 69 = .ok (.iload 7, 2) := by decide +kernel
theorem dX1_holds_71 : decode cX1_holds 71 = .ok (.invokestatic 222, 3) := by decide +kernel
theorem dX1_holds_74 : decode cX1_holds 74 = .ok (.ifCond .ne 5, 3) := by decide +kernel
theorem dX1_holds_77 : decode cX1_holds 77 = .ok (.iconst 0, 1) := by decide +kernel
theorem dX1_holds_78 : decode cX1_holds 78 = .ok (.ireturn, 1) := by decide +kernel
theorem dX1_holds_79 : decode cX1_holds 79 = .ok (.aload_n 0, 1) := by decide +kernel
theorem dX1_holds_80 : decode cX1_holds 80 = .ok (.getfield 49, 3) := by decide +kernel
theorem dX1_holds_83 : decode cX1_holds 83 = .ok (.aload_n 0, 1) := by decide +kernel
theorem dX1_holds_84 : decode cX1_holds 84 = .ok (.getfield 55, 3) := by decide +kernel
theorem dX1_holds_87 : decode cX1_holds 87 = .ok (.getfield 219, 3) := by decide +kernel
theorem dX1_holds_90 : decode cX1_holds 90 = .ok (.invokevirtual 181, 3) := by decide +kernel
theorem dX1_holds_93 : decode cX1_holds 93 = .ok (.bipush 15, 2) := by decide +kernel
theorem dX1_holds_95 : decode cX1_holds 95 = .ok (.if_icmp .ne 15, 3) := by decide +kernel
theorem dX1_holds_98 : decode cX1_holds 98 = .ok (.aload_n 0, 1) := by decide +kernel
theorem dX1_holds_99 : decode cX1_holds 99 = .ok (.getfield 55, 3) := by decide +kernel
theorem dX1_holds_102 : decode cX1_holds 102 = .ok (.getfield 219, 3) := by decide +kernel
theorem dX1_holds_105 : decode cX1_holds 105 = .ok (.iconst 1, 1) := by decide +kernel
theorem dX1_holds_106 : decode cX1_holds 106 = .ok (.iadd, 1) := by decide +kernel
theorem dX1_holds_107 : decode cX1_holds 107 = .ok (.goto 4, 3) := by decide +kernel
theorem dX1_holds_110 : decode cX1_holds 110 = .ok (.iconst (-1), 1) := by decide +kernel
theorem dX1_holds_111 : decode cX1_holds 111 = .ok (.istore_n 3, 1) := by decide +kernel
theorem dX1_holds_112 : decode cX1_holds 112 = .ok (.iinc 4 1, 3) := by decide +kernel
theorem dX1_holds_115 : decode cX1_holds 115 = .ok (.goto (-103), 3) := by decide +kernel
theorem dX1_holds_118 : decode cX1_holds 118 = .ok (.iconst 1, 1) := by decide +kernel
theorem dX1_holds_119 : decode cX1_holds 119 = .ok (.ireturn, 1) := by decide +kernel
theorem dX1_compares_0 : decode cX1_compares 0 = .ok (.iload_n 1, 1) := by decide +kernel
theorem dX1_compares_1 : decode cX1_compares 1 = .ok (.tableswitch 60 37 39 #[27, 38, 49], 27) := by decide +kernel
theorem dX1_compares_28 : decode cX1_compares 28 = .ok (.iload_n 0, 1) := by decide +kernel
theorem dX1_compares_29 : decode cX1_compares 29 = .ok (.iload_n 2, 1) := by decide +kernel
theorem dX1_compares_30 : decode cX1_compares 30 = .ok (.if_icmp .ne 7, 3) := by decide +kernel
theorem dX1_compares_33 : decode cX1_compares 33 = .ok (.iconst 1, 1) := by decide +kernel
theorem dX1_compares_34 : decode cX1_compares 34 = .ok (.goto 4, 3) := by decide +kernel
theorem dX1_compares_37 : decode cX1_compares 37 = .ok (.iconst 0, 1) := by decide +kernel
theorem dX1_compares_38 : decode cX1_compares 38 = .ok (.ireturn, 1) := by decide +kernel
theorem dX1_compares_39 : decode cX1_compares 39 = .ok (.iload_n 0, 1) := by decide +kernel
theorem dX1_compares_40 : decode cX1_compares 40 = .ok (.iload_n 2, 1) := by decide +kernel
theorem dX1_compares_41 : decode cX1_compares 41 = .ok (.if_icmp .eq 7, 3) := by decide +kernel
theorem dX1_compares_44 : decode cX1_compares 44 = .ok (.iconst 1, 1) := by decide +kernel
theorem dX1_compares_45 : decode cX1_compares 45 = .ok (.goto 4, 3) := by decide +kernel
theorem dX1_compares_48 : decode cX1_compares 48 = .ok (.iconst 0, 1) := by decide +kernel
theorem dX1_compares_49 : decode cX1_compares 49 = .ok (.ireturn, 1) := by decide +kernel
theorem dX1_compares_50 : decode cX1_compares 50 = .ok (.iload_n 0, 1) := by decide +kernel
theorem dX1_compares_51 : decode cX1_compares 51 = .ok (.iload_n 2, 1) := by decide +kernel
theorem dX1_compares_52 : decode cX1_compares 52 = .ok (.if_icmp .ge 7, 3) := by decide +kernel
theorem dX1_compares_55 : decode cX1_compares 55 = .ok (.iconst 1, 1) := by decide +kernel
theorem dX1_compares_56 : decode cX1_compares 56 = .ok (.goto 4, 3) := by decide +kernel
theorem dX1_compares_59 : decode cX1_compares 59 = .ok (.iconst 0, 1) := by decide +kernel
theorem dX1_compares_60 : decode cX1_compares 60 = .ok (.ireturn, 1) := by decide +kernel
theorem dX1_compares_61 : decode cX1_compares 61 = .ok (.iload_n 0, 1) := by decide +kernel
theorem dX1_compares_62 : decode cX1_compares 62 = .ok (.iload_n 2, 1) := by decide +kernel
theorem dX1_compares_63 : decode cX1_compares 63 = .ok (.if_icmp .gt 7, 3) := by decide +kernel
theorem dX1_compares_66 : decode cX1_compares 66 = .ok (.iconst 1, 1) := by decide +kernel
theorem dX1_compares_67 : decode cX1_compares 67 = .ok (.goto 4, 3) := by decide +kernel
theorem dX1_compares_70 : decode cX1_compares 70 = .ok (.iconst 0, 1) := by decide +kernel
theorem dX1_compares_71 : decode cX1_compares 71 = .ok (.ireturn, 1) := by decide +kernel
theorem dX1_wouldPay_0 : decode cX1_wouldPay 0 = .ok (.aload_n 0, 1) := by decide +kernel
theorem dX1_wouldPay_1 : decode cX1_wouldPay 1 = .ok (.getfield 19, 3) := by decide +kernel
theorem dX1_wouldPay_4 : decode cX1_wouldPay 4 = .ok (.ifCond .eq 10, 3) := by decide +kernel
theorem dX1_wouldPay_7 : decode cX1_wouldPay 7 = .ok (.aload_n 0, 1) := by decide +kernel
theorem dX1_wouldPay_8 : decode cX1_wouldPay 8 = .ok (.getfield 30, 3) := by decide +kernel
theorem dX1_wouldPay_11 : decode cX1_wouldPay 11 = .ok (.ifCond .eq 5, 3) := by decide +kernel
theorem dX1_wouldPay_14 : decode cX1_wouldPay 14 = .ok (.iconst 0, 1) := by decide +kernel
theorem dX1_wouldPay_15 : decode cX1_wouldPay 15 = .ok (.ireturn, 1) := by decide +kernel
theorem dX1_wouldPay_16 : decode cX1_wouldPay 16 = .ok (.iconst 0, 1) := by decide +kernel
theorem dX1_wouldPay_17 : decode cX1_wouldPay 17 = .ok (.istore_n 2, 1) := by decide +kernel
theorem dX1_wouldPay_18 : decode cX1_wouldPay 18 = .ok (.iload_n 2, 1) := by decide +kernel
theorem dX1_wouldPay_19 : decode cX1_wouldPay 19 = .ok (.aload_n 0, 1) := by decide +kernel
theorem dX1_wouldPay_20 : decode cX1_wouldPay 20 = .ok (.getfield 39, 3) := by decide +kernel
theorem dX1_wouldPay_23 : decode cX1_wouldPay 23 = .ok (.getfield 125, 3) := by decide +kernel
theorem dX1_wouldPay_26 : decode cX1_wouldPay 26 = .ok (.bipush 7, 2) := by decide +kernel
theorem dX1_wouldPay_28 : decode cX1_wouldPay 28 = .ok (.iaload, 1) := by decide +kernel
theorem dX1_wouldPay_29 : decode cX1_wouldPay 29 = .ok (.if_icmp .ge 137, 3) := by decide +kernel
theorem dX1_wouldPay_32 : decode cX1_wouldPay 32 = .ok (.aload_n 0, 1) := by decide +kernel
theorem dX1_wouldPay_33 : decode cX1_wouldPay 33 = .ok (.getfield 39, 3) := by decide +kernel
theorem dX1_wouldPay_36 : decode cX1_wouldPay 36 = .ok (.iload_n 2, 1) := by decide +kernel
theorem dX1_wouldPay_37 : decode cX1_wouldPay 37 = .ok (.invokevirtual 128, 3) := by decide +kernel
theorem dX1_wouldPay_40 : decode cX1_wouldPay 40 = .ok (.istore_n 3, 1) := by decide +kernel
theorem dX1_wouldPay_41 : decode cX1_wouldPay 41 = .ok (.aload_n 0, 1) := by decide +kernel
theorem dX1_wouldPay_42 : decode cX1_wouldPay 42 = .ok (.getfield 87, 3) := by decide +kernel
theorem dX1_wouldPay_45 : decode cX1_wouldPay 45 = .ok (.iload_n 3, 1) := by decide +kernel
theorem dX1_wouldPay_46 : decode cX1_wouldPay 46 = .ok (.invokevirtual 225, 3) := by decide +kernel
theorem dX1_wouldPay_49 : decode cX1_wouldPay 49 = .ok (.ifCond .eq 16, 3) := by decide +kernel
theorem dX1_wouldPay_52 : decode cX1_wouldPay 52 = .ok (.aload_n 0, 1) := by decide +kernel
theorem dX1_wouldPay_53 : decode cX1_wouldPay 53 = .ok (.getfield 49, 3) := by decide +kernel
theorem dX1_wouldPay_56 : decode cX1_wouldPay 56 = .ok (.iload_n 3, 1) := by decide +kernel
theorem dX1_wouldPay_57 : decode cX1_wouldPay 57 = .ok (.iconst 1, 1) := by decide +kernel
theorem dX1_wouldPay_58 : decode cX1_wouldPay 58 = .ok (.iadd, 1) := by decide +kernel
theorem dX1_wouldPay_59 : decode cX1_wouldPay 59 = .ok (.invokevirtual 159, 3) := by decide +kernel
theorem dX1_wouldPay_62 : decode cX1_wouldPay 62 = .ok (.goto 4, 3) := by decide +kernel
theorem dX1_wouldPay_65 : decode cX1_wouldPay 65 = .ok (.iconst 0, 1) := by decide +kernel
theorem dX1_wouldPay_66 : decode cX1_wouldPay 66 = .ok (.istore 4, 2) := by decide +kernel
theorem dX1_wouldPay_68 : decode cX1_wouldPay 68 = .ok (.aload_n 0, 1) := by decide +kernel
theorem dX1_wouldPay_69 : decode cX1_wouldPay 69 = .ok (.getfield 49, 3) := by decide +kernel
theorem dX1_wouldPay_72 : decode cX1_wouldPay 72 = .ok (.iload_n 3, 1) := by decide +kernel
theorem dX1_wouldPay_73 : decode cX1_wouldPay 73 = .ok (.invokevirtual 159, 3) := by decide +kernel
theorem dX1_wouldPay_76 : decode cX1_wouldPay 76 = .ok (.istore 5, 2) := by decide +kernel
theorem dX1_wouldPay_78 : decode cX1_wouldPay 78 = .ok (.iload 5, 2) := by decide +kernel
theorem dX1_wouldPay_80 : decode cX1_wouldPay 80 = .ok (.iload 4, 2) := by decide +kernel
theorem dX1_wouldPay_82 : decode cX1_wouldPay 82 = .ok (.if_icmp .ge 78, 3) := by decide +kernel
theorem dX1_wouldPay_85 : decode cX1_wouldPay 85 = .ok (.aload_n 0, 1) := by decide +kernel
theorem dX1_wouldPay_86 : decode cX1_wouldPay 86 = .ok (.getfield 49, 3) := by decide +kernel
theorem dX1_wouldPay_89 : decode cX1_wouldPay 89 = .ok (.iload 5, 2) := by decide +kernel
theorem dX1_wouldPay_91 : decode cX1_wouldPay 91 = .ok (.iload_n 1, 1) := by decide +kernel
theorem dX1_wouldPay_92 : decode cX1_wouldPay 92 = .ok (.invokevirtual 164, 3) := by decide +kernel
theorem dX1_wouldPay_95 : decode cX1_wouldPay 95 = .ok (.ifCond .eq 31, 3) := by decide +kernel
theorem dX1_wouldPay_98 : decode cX1_wouldPay 98 = .ok (.aload_n 0, 1) := by decide +kernel
theorem dX1_wouldPay_99 : decode cX1_wouldPay 99 = .ok (.getfield 49, 3) := by decide +kernel
theorem dX1_wouldPay_102 : decode cX1_wouldPay 102 = .ok (.iload 5, 2) := by decide +kernel
theorem dX1_wouldPay_104 : decode cX1_wouldPay 104 = .ok (.invokevirtual 227, 3) := by decide +kernel
theorem dX1_wouldPay_107 : decode cX1_wouldPay 107 = .ok (.ifCond .ne 15, 3) := by decide +kernel
theorem dX1_wouldPay_110 : decode cX1_wouldPay 110 = .ok (.aload_n 0, 1) := by decide +kernel
theorem dX1_wouldPay_111 : decode cX1_wouldPay 111 = .ok (.getfield 49, 3) := by decide +kernel
theorem dX1_wouldPay_114 : decode cX1_wouldPay 114 = .ok (.iload 5, 2) := by decide +kernel
theorem dX1_wouldPay_116 : decode cX1_wouldPay 116 = .ok (.invokevirtual 230, 3) := by decide +kernel
theorem dX1_wouldPay_119 : decode cX1_wouldPay 119 = .ok (.ifCond .eq 7, 3) := by decide +kernel
theorem dX1_wouldPay_122 : decode cX1_wouldPay 122 = .ok (.iconst 1, 1) := by decide +kernel
theorem dX1_wouldPay_123 : decode cX1_wouldPay 123 = .ok (.goto 4, 3) := by decide +kernel
theorem dX1_wouldPay_126 : decode cX1_wouldPay 126 = .ok (.iconst 0, 1) := by decide +kernel
theorem dX1_wouldPay_127 : decode cX1_wouldPay 127 = .ok (.istore 6, 2) := by decide +kernel
theorem dX1_wouldPay_129 : decode cX1_wouldPay 129 = .ok (.iload 6, 2) := by decide +kernel
theorem dX1_wouldPay_131 : decode cX1_wouldPay 131 = .ok (.ifCond .eq 23, 3) := by decide +kernel
theorem dX1_wouldPay_134 : decode cX1_wouldPay 134 = .ok (.aload_n 0, 1) := by decide +kernel
theorem dX1_wouldPay_135 : decode cX1_wouldPay 135 = .ok (.iload 5, 2) := by decide +kernel
theorem dX1_wouldPay_137 : decode cX1_wouldPay 137 = .ok (.iload_n 3, 1) := by decide +kernel
theorem dX1_wouldPay_138 : decode cX1_wouldPay 138 = .ok (.invokevirtual 168, 3) := by decide +kernel
theorem dX1_wouldPay_141 : decode cX1_wouldPay 141 = .ok (.ifCond .eq 13, 3) := by decide +kernel
theorem dX1_wouldPay_144 : decode cX1_wouldPay 144 = .ok (.aload_n 0, 1) := by decide +kernel
theorem dX1_wouldPay_145 : decode cX1_wouldPay 145 = .ok (.getfield 49, 3) := by decide +kernel
theorem dX1_wouldPay_148 : decode cX1_wouldPay 148 = .ok (.iload 5, 2) := by decide +kernel
theorem dX1_wouldPay_150 : decode cX1_wouldPay 150 = .ok (.invokevirtual 227, 3) := by decide +kernel
theorem dX1_wouldPay_153 : decode cX1_wouldPay 153 = .ok (.ireturn, 1) := by decide +kernel
theorem dX1_wouldPay_154 : decode cX1_wouldPay 154 = .ok (.iinc 5 1, 3) := by decide +kernel
theorem dX1_wouldPay_157 : decode cX1_wouldPay 157 = .ok (.goto (-79), 3) := by decide +kernel
theorem dX1_wouldPay_160 : decode cX1_wouldPay 160 = .ok (.iinc 2 1, 3) := by decide +kernel
theorem dX1_wouldPay_163 : decode cX1_wouldPay 163 = .ok (.goto (-145), 3) := by decide +kernel
theorem dX1_wouldPay_166 : decode cX1_wouldPay 166 = .ok (.iconst 0, 1) := by decide +kernel
theorem dX1_wouldPay_167 : decode cX1_wouldPay 167 = .ok (.ireturn, 1) := by decide +kernel
theorem dX2_init_0 : decode cX2_init 0 = .ok (.aload_n 0, 1) := by decide +kernel
theorem dX2_init_1 : decode cX2_init 1 = .ok (.invokespecial 3, 3) := by decide +kernel
theorem dX2_init_4 : decode cX2_init 4 = .ok (.aload_n 0, 1) := by decide +kernel
theorem dX2_init_5 : decode cX2_init 5 = .ok (.iconst 0, 1) := by decide +kernel
theorem dX2_init_6 : decode cX2_init 6 = .ok (.putfield 9, 3) := by decide +kernel
theorem dX2_init_9 : decode cX2_init 9 = .ok (.aload_n 0, 1) := by decide +kernel
theorem dX2_init_10 : decode cX2_init 10 = .ok (.bipush 27, 2) := by decide +kernel
theorem dX2_init_12 : decode cX2_init 12 = .ok (.newarray .int, 2) := by decide +kernel
theorem dX2_init_14 : decode cX2_init 14 = .ok (.putfield 15, 3) := by decide +kernel
theorem dX2_init_17 : decode cX2_init 17 = .ok (.aload_n 0, 1) := by decide +kernel
theorem dX2_init_18 : decode cX2_init 18 = .ok (.aload_n 1, 1) := by decide +kernel
theorem dX2_init_19 : decode cX2_init 19 = .ok (.putfield 19, 3) := by decide +kernel
theorem dX2_init_22 : decode cX2_init 22 = .ok (.return_, 1) := by decide +kernel
theorem dX2_check_0 : decode cX2_check 0 = .ok (.aload_n 0, 1) := by decide +kernel
theorem dX2_check_1 : decode cX2_check 1 = .ok (.iconst 0, 1) := by decide +kernel
theorem dX2_check_2 : decode cX2_check 2 = .ok (.putfield 9, 3) := by decide +kernel
theorem dX2_check_5 : decode cX2_check 5 = .ok (.iconst 0, 1) := by decide +kernel
theorem dX2_check_6 : decode cX2_check 6 = .ok (.istore_n 1, 1) := by decide +kernel
theorem dX2_check_7 : decode cX2_check 7 = .ok (.iload_n 1, 1) := by decide +kernel
theorem dX2_check_8 : decode cX2_check 8 = .ok (.aload_n 0, 1) := by decide +kernel
theorem dX2_check_9 : decode cX2_check 9 = .ok (.getfield 15, 3) := by decide +kernel
theorem dX2_check_12 : decode cX2_check 12 = .ok (.arraylength, 1) := by decide +kernel
theorem dX2_check_13 : decode cX2_check 13 = .ok (.if_icmp .ge 16, 3) := by decide +kernel
theorem dX2_check_16 : decode cX2_check 16 = .ok (.aload_n 0, 1) := by decide +kernel
theorem dX2_check_17 : decode cX2_check 17 = .ok (.getfield 15, 3) := by decide +kernel
theorem dX2_check_20 : decode cX2_check 20 = .ok (.iload_n 1, 1) := by decide +kernel
theorem dX2_check_21 : decode cX2_check 21 = .ok (.iconst 0, 1) := by decide +kernel
theorem dX2_check_22 : decode cX2_check 22 = .ok (.iastore, 1) := by decide +kernel
theorem dX2_check_23 : decode cX2_check 23 = .ok (.iinc 1 1, 3) := by decide +kernel
theorem dX2_check_26 : decode cX2_check 26 = .ok (.goto (-19), 3) := by decide +kernel
theorem dX2_check_29 : decode cX2_check 29 = .ok (.iconst 0, 1) := by decide +kernel
theorem dX2_check_30 : decode cX2_check 30 = .ok (.istore_n 1, 1) := by decide +kernel
theorem dX2_check_31 : decode cX2_check 31 = .ok (.iload_n 1, 1) := by decide +kernel
theorem dX2_check_32 : decode cX2_check 32 = .ok (.sipush 1000, 3) := by decide +kernel
theorem dX2_check_35 : decode cX2_check 35 = .ok (.if_icmp .gt 20, 3) := by decide +kernel
theorem dX2_check_38 : decode cX2_check 38 = .ok (.aload_n 0, 1) := by decide +kernel
theorem dX2_check_39 : decode cX2_check 39 = .ok (.invokevirtual 23, 3) := by decide +kernel
theorem dX2_check_42 : decode cX2_check 42 = .ok (.ifCond .eq 13, 3) := by decide +kernel
theorem dX2_check_45 : decode cX2_check 45 = .ok (.aload_n 0, 1) := by decide +kernel
theorem dX2_check_46 : decode cX2_check 46 = .ok (.invokevirtual 27, 3) := by decide +kernel
theorem dX2_check_49 : decode cX2_check 49 = .ok (.iinc 1 1, 3) := by decide +kernel
theorem dX2_check_52 : decode cX2_check 52 = .ok (.goto (-21), 3) := by decide +kernel
theorem dX2_check_55 : decode cX2_check 55 = .ok (.iconst 0, 1) := by decide +kernel
theorem dX2_check_56 : decode cX2_check 56 = .ok (.istore_n 1, 1) := by decide +kernel
theorem dX2_check_57 : decode cX2_check 57 = .ok (.iload_n 1, 1) := by decide +kernel
theorem dX2_check_58 : decode cX2_check 58 = .ok (.sipush 1000, 3) := by decide +kernel
theorem dX2_check_61 : decode cX2_check 61 = .ok (.if_icmp .gt 56, 3) := by decide +kernel
theorem dX2_check_64 : decode cX2_check 64 = .ok (.aload_n 0, 1) := by decide +kernel
theorem dX2_check_65 : decode cX2_check 65 = .ok (.bipush 7, 2) := by decide +kernel
theorem dX2_check_67 : decode cX2_check 67 = .ok (.invokevirtual 30, 3) := by decide +kernel
theorem dX2_check_70 : decode cX2_check 70 = .ok (.ifCond .eq 47, 3) := by decide +kernel
theorem dX2_check_73 : decode cX2_check 73 = .ok (.aload_n 0, 1) := by decide +kernel
theorem dX2_check_74 : decode cX2_check 74 = .ok (.invokevirtual 34, 3) := by decide +kernel
theorem dX2_check_77 : decode cX2_check 77 = .ok (.iconst 0, 1) := by decide +kernel
theorem dX2_check_78 : decode cX2_check 78 = .ok (.istore_n 2, 1) := by decide +kernel
theorem dX2_check_79 : decode cX2_check 79 = .ok (.iload_n 2, 1) := by decide +kernel
theorem dX2_check_80 : decode cX2_check 80 = .ok (.sipush 1000, 3) := by decide +kernel
theorem dX2_check_83 : decode cX2_check 83 = .ok (.if_icmp .gt 22, 3) := by decide +kernel
theorem dX2_check_86 : decode cX2_check 86 = .ok (.aload_n 0, 1) := by decide +kernel
theorem dX2_check_87 : decode cX2_check 87 = .ok (.bipush 11, 2) := by decide +kernel
theorem dX2_check_89 : decode cX2_check 89 = .ok (.invokevirtual 30, 3) := by decide +kernel
theorem dX2_check_92 : decode cX2_check 92 = .ok (.ifCond .eq 13, 3) := by decide +kernel
theorem dX2_check_95 : decode cX2_check 95 = .ok (.aload_n 0, 1) := by decide +kernel
theorem dX2_check_96 : decode cX2_check 96 = .ok (.invokevirtual 37, 3) := by decide +kernel
theorem dX2_check_99 : decode cX2_check 99 = .ok (.iinc 2 1, 3) := by decide +kernel
theorem dX2_check_102 : decode cX2_check 102 = .ok (.goto (-23), 3) := by decide +kernel
theorem dX2_check_105 : decode cX2_check 105 = .ok (.aload_n 0, 1) := by decide +kernel
theorem dX2_check_106 : decode cX2_check 106 = .ok (.bipush 10, 2) := by decide +kernel
theorem dX2_check_108 : decode cX2_check 108 = .ok (.invokevirtual 40, 3) := by decide +kernel
theorem dX2_check_111 : decode cX2_check 111 = .ok (.iinc 1 1, 3) := by decide +kernel
theorem dX2_check_114 : decode cX2_check 114 = .ok (.goto (-57), 3) := by decide +kernel
theorem dX2_check_117 : decode cX2_check 117 = .ok (.aload_n 0, 1) := by decide +kernel
theorem dX2_check_118 : decode cX2_check 118 = .ok (.bipush 41, 2) := by decide +kernel
theorem dX2_check_120 : decode cX2_check 120 = .ok (.invokevirtual 30, 3) := by decide +kernel
theorem dX2_check_123 : decode cX2_check 123 = .ok (.ifCond .ne 15, 3) := by decide +kernel
theorem dX2_check_126 : decode cX2_check 126 = .ok (.aload_n 0, 1) := by decide +kernel
theorem dX2_check_127 : decode cX2_check 127 = .ok (.getfield 19, 3) := by decide +kernel
theorem dX2_check_130 : decode cX2_check 130 = .ok (.iconst 1, 1) := by decide +kernel
theorem dX2_check_131 : decode cX2_check 131 = .ok (.aload_n 0, 1) := by decide +kernel
theorem dX2_check_132 : decode cX2_check 132 = .ok (.getfield 9, 3) := by decide +kernel
theorem dX2_check_135 : decode cX2_check 135 = .ok (.invokevirtual 44, 3) := by decide +kernel
theorem dX2_check_138 : decode cX2_check 138 = .ok (.return_, 1) := by decide +kernel
theorem dX2_sees_0 : decode cX2_sees 0 = .ok (.aload_n 0, 1) := by decide +kernel
theorem dX2_sees_1 : decode cX2_sees 1 = .ok (.getfield 19, 3) := by decide +kernel
theorem dX2_sees_4 : decode cX2_sees 4 = .ok (.getfield 50, 3) := by decide +kernel
theorem dX2_sees_7 : decode cX2_sees 7 = .ok (.ifCond .ne 22, 3) := by decide +kernel
theorem dX2_sees_10 : decode cX2_sees 10 = .ok (.aload_n 0, 1) := by decide +kernel
theorem dX2_sees_11 : decode cX2_sees 11 = .ok (.getfield 19, 3) := by decide +kernel
theorem dX2_sees_14 : decode cX2_sees 14 = .ok (.aload_n 0, 1) := by decide +kernel
theorem dX2_sees_15 : decode cX2_sees 15 = .ok (.getfield 9, 3) := by decide +kernel
theorem dX2_sees_18 : decode cX2_sees 18 = .ok (.invokevirtual 53, 3) := by decide +kernel
theorem dX2_sees_21 : decode cX2_sees 21 = .ok (.iload_n 1, 1) := by decide +kernel
theorem dX2_sees_22 : decode cX2_sees 22 = .ok (.if_icmp .ne 7, 3) := by decide +kernel
theorem dX2_sees_25 : decode cX2_sees 25 = .ok (.iconst 1, 1) := by decide +kernel
theorem dX2_sees_26 : decode cX2_sees 26 = .ok (.goto 4, 3) := by decide +kernel
theorem dX2_sees_29 : decode cX2_sees 29 = .ok (.iconst 0, 1) := by decide +kernel
theorem dX2_sees_30 : decode cX2_sees 30 = .ok (.ireturn, 1) := by decide +kernel
theorem dX2_goesOnWithPart_0 : decode cX2_goesOnWithPart 0 = .ok (.aload_n 0, 1) := by decide +kernel
theorem dX2_goesOnWithPart_1 : decode cX2_goesOnWithPart 1 = .ok (.getfield 19, 3) := by decide +kernel
theorem dX2_goesOnWithPart_4 : decode cX2_goesOnWithPart 4 = .ok (.getfield 50, 3) := by decide +kernel
theorem dX2_goesOnWithPart_7 : decode cX2_goesOnWithPart 7 = .ok (.ifCond .ne 23, 3) := by decide +kernel
theorem dX2_goesOnWithPart_10 : decode cX2_goesOnWithPart 10 = .ok (.aload_n 0, 1) := by decide +kernel
theorem dX2_goesOnWithPart_11 : decode cX2_goesOnWithPart 11 = .ok (.getfield 19, 3) := by decide +kernel
theorem dX2_goesOnWithPart_14 : decode cX2_goesOnWithPart 14 = .ok (.aload_n 0, 1) := by decide +kernel
theorem dX2_goesOnWithPart_15 : decode cX2_goesOnWithPart 15 = .ok (.getfield 9, 3) := by decide +kernel
theorem dX2_goesOnWithPart_18 : decode cX2_goesOnWithPart 18 = .ok (.invokevirtual 53, 3) := by decide +kernel
theorem dX2_goesOnWithPart_21 : decode cX2_goesOnWithPart 21 = .ok (.bipush 6, 2) := by decide +kernel
theorem dX2_goesOnWithPart_23 : decode cX2_goesOnWithPart 23 = .ok (.if_icmp .gt 7, 3) := by decide +kernel
theorem dX2_goesOnWithPart_26 : decode cX2_goesOnWithPart 26 = .ok (.iconst 1, 1) := by decide +kernel
theorem dX2_goesOnWithPart_27 : decode cX2_goesOnWithPart 27 = .ok (.goto 4, 3) := by decide +kernel
theorem dX2_goesOnWithPart_30 : decode cX2_goesOnWithPart 30 = .ok (.iconst 0, 1) := by decide +kernel
theorem dX2_goesOnWithPart_31 : decode cX2_goesOnWithPart 31 = .ok (.ireturn, 1) := by decide +kernel
theorem dX2_pass_0 : decode cX2_pass 0 = .ok (.aload_n 0, 1) := by decide +kernel
theorem dX2_pass_1 : decode cX2_pass 1 = .ok (.getfield 9, 3) := by decide +kernel
theorem dX2_pass_4 : decode cX2_pass 4 = .ok (.sipush 1000, 3) := by decide +kernel
theorem dX2_pass_7 : decode cX2_pass 7 = .ok (.if_icmp .lt 18, 3) := by decide +kernel
theorem dX2_pass_10 : decode cX2_pass 10 = .ok (.aload_n 0, 1) := by decide +kernel
theorem dX2_pass_11 : decode cX2_pass 11 = .ok (.getfield 19, 3) := by decide +kernel
theorem dX2_pass_14 : decode cX2_pass 14 = .ok (.iconst 2, 1) := by decide +kernel
theorem dX2_pass_15 : decode cX2_pass 15 = .ok (.aload_n 0, 1) := by decide +kernel
theorem dX2_pass_16 : decode cX2_pass 16 = .ok (.getfield 9, 3) := by decide +kernel
theorem dX2_pass_19 : decode cX2_pass 19 = .ok (.invokevirtual 44, 3) := by decide +kernel
theorem dX2_pass_22 : decode cX2_pass 22 = .ok (.goto 13, 3) := by decide +kernel
theorem dX2_pass_25 : decode cX2_pass 25 = .ok (.aload_n 0, 1) := by decide +kernel
theorem dX2_pass_26 : decode cX2_pass 26 = .ok (.dup, 1) := by decide +kernel
theorem dX2_pass_27 : decode cX2_pass 27 = .ok (.getfield 9, 3) := by decide +kernel
theorem dX2_pass_30 : decode cX2_pass 30 = .ok (.iconst 1, 1) := by decide +kernel
theorem dX2_pass_31 : decode cX2_pass 31 = .ok (.iadd, 1) := by decide +kernel
theorem dX2_pass_32 : decode cX2_pass 32 = .ok (.putfield 9, 3) := by decide +kernel
theorem dX2_pass_35 : decode cX2_pass 35 = .ok (.return_, 1) := by decide +kernel
theorem dX2_need_0 : decode cX2_need 0 = .ok (.aload_n 0, 1) := by decide +kernel
theorem dX2_need_1 : decode cX2_need 1 = .ok (.iload_n 1, 1) := by decide +kernel
theorem dX2_need_2 : decode cX2_need 2 = .ok (.invokevirtual 30, 3) := by decide +kernel
theorem dX2_need_5 : decode cX2_need 5 = .ok (.ifCond .eq 10, 3) := by decide +kernel
theorem dX2_need_8 : decode cX2_need 8 = .ok (.aload_n 0, 1) := by decide +kernel
theorem dX2_need_9 : decode cX2_need 9 = .ok (.invokevirtual 57, 3) := by decide +kernel
theorem dX2_need_12 : decode cX2_need 12 = .ok (.goto 15, 3) := by decide +kernel
theorem dX2_need_15 : decode cX2_need 15 = .ok (.aload_n 0, 1) := by decide +kernel
theorem dX2_need_16 : decode cX2_need 16 = .ok (.getfield 19, 3) := by decide +kernel
theorem dX2_need_19 : decode cX2_need 19 = .ok (.iconst 1, 1) := by decide +kernel
theorem dX2_need_20 : decode cX2_need 20 = .ok (.aload_n 0, 1) := by decide +kernel
theorem dX2_need_21 : decode cX2_need 21 = .ok (.getfield 9, 3) := by decide +kernel
theorem dX2_need_24 : decode cX2_need 24 = .ok (.invokevirtual 44, 3) := by decide +kernel
theorem dX2_need_27 : decode cX2_need 27 = .ok (.return_, 1) := by decide +kernel
theorem dX2_passNewOne_0 : decode cX2_passNewOne 0 = .ok (.iload_n 1, 1) := by decide +kernel
theorem dX2_passNewOne_1 : decode cX2_passNewOne 1 = .ok (.ifCond .lt 44, 3) := by decide +kernel
theorem dX2_passNewOne_4 : decode cX2_passNewOne 4 = .ok (.iload_n 1, 1) := by decide +kernel
theorem dX2_passNewOne_5 : decode cX2_passNewOne 5 = .ok (.aload_n 0, 1) := by decide +kernel
theorem dX2_passNewOne_6 : decode cX2_passNewOne 6 = .ok (.getfield 15, 3) := by decide +kernel
theorem dX2_passNewOne_9 : decode cX2_passNewOne 9 = .ok (.arraylength, 1) := by decide +kernel
theorem dX2_passNewOne_10 : decode cX2_passNewOne 10 = .ok (.if_icmp .ge 35, 3) := by decide +kernel
theorem dX2_passNewOne_13 : decode cX2_passNewOne 13 = .ok (.aload_n 0, 1) := by decide +kernel
theorem dX2_passNewOne_14 : decode cX2_passNewOne 14 = .ok (.getfield 15, 3) := by decide +kernel
theorem dX2_passNewOne_17 : decode cX2_passNewOne 17 = .ok (.iload_n 1, 1) := by decide +kernel
theorem dX2_passNewOne_18 : decode cX2_passNewOne 18 = .ok (.dup2, 1) := by decide +kernel
theorem dX2_passNewOne_19 : decode cX2_passNewOne 19 = .ok (.iaload, 1) := by decide +kernel
theorem dX2_passNewOne_20 : decode cX2_passNewOne 20 = .ok (.iconst 1, 1) := by decide +kernel
theorem dX2_passNewOne_21 : decode cX2_passNewOne 21 = .ok (.iadd, 1) := by decide +kernel
theorem dX2_passNewOne_22 : decode cX2_passNewOne 22 = .ok (.iastore, 1) := by decide +kernel
theorem dX2_passNewOne_23 : decode cX2_passNewOne 23 = .ok (.aload_n 0, 1) := by decide +kernel
theorem dX2_passNewOne_24 : decode cX2_passNewOne 24 = .ok (.getfield 15, 3) := by decide +kernel
theorem dX2_passNewOne_27 : decode cX2_passNewOne 27 = .ok (.iload_n 1, 1) := by decide +kernel
theorem dX2_passNewOne_28 : decode cX2_passNewOne 28 = .ok (.iaload, 1) := by decide +kernel
theorem dX2_passNewOne_29 : decode cX2_passNewOne 29 = .ok (.iload_n 2, 1) := by decide +kernel
theorem dX2_passNewOne_30 : decode cX2_passNewOne 30 = .ok (.if_icmp .le 15, 3) := by decide +kernel
theorem dX2_passNewOne_33 : decode cX2_passNewOne 33 = .ok (.aload_n 0, 1) := by decide +kernel
theorem dX2_passNewOne_34 : decode cX2_passNewOne 34 = .ok (.getfield 19, 3) := by decide +kernel
theorem dX2_passNewOne_37 : decode cX2_passNewOne 37 = .ok (.iconst 2, 1) := by decide +kernel
theorem dX2_passNewOne_38 : decode cX2_passNewOne 38 = .ok (.aload_n 0, 1) := by decide +kernel
theorem dX2_passNewOne_39 : decode cX2_passNewOne 39 = .ok (.getfield 9, 3) := by decide +kernel
theorem dX2_passNewOne_42 : decode cX2_passNewOne 42 = .ok (.invokevirtual 44, 3) := by decide +kernel
theorem dX2_passNewOne_45 : decode cX2_passNewOne 45 = .ok (.aload_n 0, 1) := by decide +kernel
theorem dX2_passNewOne_46 : decode cX2_passNewOne 46 = .ok (.invokevirtual 57, 3) := by decide +kernel
theorem dX2_passNewOne_49 : decode cX2_passNewOne 49 = .ok (.return_, 1) := by decide +kernel
theorem dX2_checkPart_0 : decode cX2_checkPart 0 = .ok (.aload_n 0, 1) := by decide +kernel
theorem dX2_checkPart_1 : decode cX2_checkPart 1 = .ok (.getfield 19, 3) := by decide +kernel
theorem dX2_checkPart_4 : decode cX2_checkPart 4 = .ok (.aload_n 0, 1) := by decide +kernel
theorem dX2_checkPart_5 : decode cX2_checkPart 5 = .ok (.getfield 9, 3) := by decide +kernel
theorem dX2_checkPart_8 : decode cX2_checkPart 8 = .ok (.invokevirtual 53, 3) := by decide +kernel
theorem dX2_checkPart_11 : decode cX2_checkPart 11 = .ok (.istore_n 1, 1) := by decide +kernel
theorem dX2_checkPart_12 : decode cX2_checkPart 12 = .ok (.aload_n 0, 1) := by decide +kernel
theorem dX2_checkPart_13 : decode cX2_checkPart 13 = .ok (.iload_n 1, 1) := by decide +kernel
theorem dX2_checkPart_14 : decode cX2_checkPart 14 = .ok (.iload_n 1, 1) := by decide +kernel
theorem dX2_checkPart_15 : decode cX2_checkPart 15 = .ok (.invokestatic 60, 3) := by decide +kernel
theorem dX2_checkPart_18 : decode cX2_checkPart 18 = .ok (.invokevirtual 65, 3) := by decide +kernel
theorem dX2_checkPart_21 : decode cX2_checkPart 21 = .ok (.aload_n 0, 1) := by decide +kernel
theorem dX2_checkPart_22 : decode cX2_checkPart 22 = .ok (.bipush 27, 2) := by decide +kernel
theorem dX2_checkPart_24 : decode cX2_checkPart 24 = .ok (.invokevirtual 40, 3) := by decide +kernel
theorem dX2_checkPart_27 : decode cX2_checkPart 27 = .ok (.iload_n 1, 1) := by decide +kernel
theorem dX2_checkPart_28 : decode cX2_checkPart 28 = .ok (.tableswitch 90 0 6 #[44, 44, 53, 53, 90, 62, 44], 44) := by decide +kernel
theorem dX2_checkPart_72 : decode cX2_checkPart 72 = .ok (.aload_n 0, 1) := by decide +kernel
theorem dX2_checkPart_73 : decode cX2_checkPart 73 = .ok (.bipush 28, 2) := by decide +kernel
theorem dX2_checkPart_75 : decode cX2_checkPart 75 = .ok (.invokevirtual 40, 3) := by decide +kernel
theorem dX2_checkPart_78 : decode cX2_checkPart 78 = .ok (.goto 40, 3) := by decide +kernel
theorem dX2_checkPart_81 : decode cX2_checkPart 81 = .ok (.aload_n 0, 1) := by decide +kernel
theorem dX2_checkPart_82 : decode cX2_checkPart 82 = .ok (.bipush 27, 2) := by decide +kernel
theorem dX2_checkPart_84 : decode cX2_checkPart 84 = .ok (.invokevirtual 40, 3) := by decide +kernel
theorem dX2_checkPart_87 : decode cX2_checkPart 87 = .ok (.goto 31, 3) := by decide +kernel
theorem dX2_checkPart_90 : decode cX2_checkPart 90 = .ok (.aload_n 0, 1) := by decide +kernel
theorem dX2_checkPart_91 : decode cX2_checkPart 91 = .ok (.bipush 27, 2) := by decide +kernel
theorem dX2_checkPart_93 : decode cX2_checkPart 93 = .ok (.invokevirtual 40, 3) := by decide +kernel
theorem dX2_checkPart_96 : decode cX2_checkPart 96 = .ok (.aload_n 0, 1) := by decide +kernel
theorem dX2_checkPart_97 : decode cX2_checkPart 97 = .ok (.bipush 8, 2) := by decide +kernel
theorem dX2_checkPart_99 : decode cX2_checkPart 99 = .ok (.invokevirtual 30, 3) := by decide +kernel
theorem dX2_checkPart_102 : decode cX2_checkPart 102 = .ok (.ifCond .eq 16, 3) := by decide +kernel
theorem dX2_checkPart_105 : decode cX2_checkPart 105 = .ok (.aload_n 0, 1) := by decide +kernel
theorem dX2_checkPart_106 : decode cX2_checkPart 106 = .ok (.invokevirtual 57, 3) := by decide +kernel
theorem dX2_checkPart_109 : decode cX2_checkPart 109 = .ok (.aload_n 0, 1) := by decide +kernel
theorem dX2_checkPart_110 : decode cX2_checkPart 110 = .ok (.bipush 27, 2) := by decide +kernel
theorem dX2_checkPart_112 : decode cX2_checkPart 112 = .ok (.invokevirtual 40, 3) := by decide +kernel
theorem dX2_checkPart_115 : decode cX2_checkPart 115 = .ok (.goto 3, 3) := by decide +kernel
theorem dX2_checkPart_118 : decode cX2_checkPart 118 = .ok (.aload_n 0, 1) := by decide +kernel
theorem dX2_checkPart_119 : decode cX2_checkPart 119 = .ok (.bipush 29, 2) := by decide +kernel
theorem dX2_checkPart_121 : decode cX2_checkPart 121 = .ok (.invokevirtual 40, 3) := by decide +kernel
theorem dX2_checkPart_124 : decode cX2_checkPart 124 = .ok (.return_, 1) := by decide +kernel
theorem dX2_checkModeHead_0 : decode cX2_checkModeHead 0 = .ok (.aload_n 0, 1) := by decide +kernel
theorem dX2_checkModeHead_1 : decode cX2_checkModeHead 1 = .ok (.bipush 7, 2) := by decide +kernel
theorem dX2_checkModeHead_3 : decode cX2_checkModeHead 3 = .ok (.bipush 12, 2) := by decide +kernel
theorem dX2_checkModeHead_5 : decode cX2_checkModeHead 5 = .ok (.invokevirtual 65, 3) := by decide +kernel
theorem dX2_checkModeHead_8 : decode cX2_checkModeHead 8 = .ok (.aload_n 0, 1) := by decide +kernel
theorem dX2_checkModeHead_9 : decode cX2_checkModeHead 9 = .ok (.bipush 27, 2) := by decide +kernel
theorem dX2_checkModeHead_11 : decode cX2_checkModeHead 11 = .ok (.invokevirtual 40, 3) := by decide +kernel
theorem dX2_checkModeHead_14 : decode cX2_checkModeHead 14 = .ok (.aload_n 0, 1) := by decide +kernel
theorem dX2_checkModeHead_15 : decode cX2_checkModeHead 15 = .ok (.bipush 28, 2) := by decide +kernel
theorem dX2_checkModeHead_17 : decode cX2_checkModeHead 17 = .ok (.invokevirtual 40, 3) := by decide +kernel
theorem dX2_checkModeHead_20 : decode cX2_checkModeHead 20 = .ok (.aload_n 0, 1) := by decide +kernel
theorem dX2_checkModeHead_21 : decode cX2_checkModeHead 21 = .ok (.bipush 9, 2) := by decide +kernel
theorem dX2_checkModeHead_23 : decode cX2_checkModeHead 23 = .ok (.invokevirtual 30, 3) := by decide +kernel
theorem dX2_checkModeHead_26 : decode cX2_checkModeHead 26 = .ok (.ifCond .eq 13, 3) := by decide +kernel
theorem dX2_checkModeHead_29 : decode cX2_checkModeHead 29 = .ok (.aload_n 0, 1) := by decide +kernel
theorem dX2_checkModeHead_30 : decode cX2_checkModeHead 30 = .ok (.invokevirtual 57, 3) := by decide +kernel
theorem dX2_checkModeHead_33 : decode cX2_checkModeHead 33 = .ok (.aload_n 0, 1) := by decide +kernel
theorem dX2_checkModeHead_34 : decode cX2_checkModeHead 34 = .ok (.bipush 28, 2) := by decide +kernel
theorem dX2_checkModeHead_36 : decode cX2_checkModeHead 36 = .ok (.invokevirtual 40, 3) := by decide +kernel
theorem dX2_checkModeHead_39 : decode cX2_checkModeHead 39 = .ok (.aload_n 0, 1) := by decide +kernel
theorem dX2_checkModeHead_40 : decode cX2_checkModeHead 40 = .ok (.bipush 29, 2) := by decide +kernel
theorem dX2_checkModeHead_42 : decode cX2_checkModeHead 42 = .ok (.invokevirtual 40, 3) := by decide +kernel
theorem dX2_checkModeHead_45 : decode cX2_checkModeHead 45 = .ok (.return_, 1) := by decide +kernel
theorem dX2_checkRule_0 : decode cX2_checkRule 0 = .ok (.aload_n 0, 1) := by decide +kernel
theorem dX2_checkRule_1 : decode cX2_checkRule 1 = .ok (.bipush 11, 2) := by decide +kernel
theorem dX2_checkRule_3 : decode cX2_checkRule 3 = .ok (.bipush 80, 2) := by decide +kernel
theorem dX2_checkRule_5 : decode cX2_checkRule 5 = .ok (.invokevirtual 65, 3) := by decide +kernel
theorem dX2_checkRule_8 : decode cX2_checkRule 8 = .ok (.aload_n 0, 1) := by decide +kernel
theorem dX2_checkRule_9 : decode cX2_checkRule 9 = .ok (.bipush 12, 2) := by decide +kernel
theorem dX2_checkRule_11 : decode cX2_checkRule 11 = .ok (.invokevirtual 30, 3) := by decide +kernel
theorem dX2_checkRule_14 : decode cX2_checkRule 14 = .ok (.ifCond .ne 12, 3) := by decide +kernel
theorem dX2_checkRule_17 : decode cX2_checkRule 17 = .ok (.aload_n 0, 1) := by decide +kernel
theorem dX2_checkRule_18 : decode cX2_checkRule 18 = .ok (.bipush 13, 2) := by decide +kernel
theorem dX2_checkRule_20 : decode cX2_checkRule 20 = .ok (.invokevirtual 30, 3) := by decide +kernel
theorem dX2_checkRule_23 : decode cX2_checkRule 23 = .ok (.ifCond .eq 10, 3) := by decide +kernel
theorem dX2_checkRule_26 : decode cX2_checkRule 26 = .ok (.aload_n 0, 1) := by decide +kernel
theorem dX2_checkRule_27 : decode cX2_checkRule 27 = .ok (.invokevirtual 57, 3) := by decide +kernel
theorem dX2_checkRule_30 : decode cX2_checkRule 30 = .ok (.goto 9, 3) := by decide +kernel
theorem dX2_checkRule_33 : decode cX2_checkRule 33 = .ok (.aload_n 0, 1) := by decide +kernel
theorem dX2_checkRule_34 : decode cX2_checkRule 34 = .ok (.bipush 27, 2) := by decide +kernel
theorem dX2_checkRule_36 : decode cX2_checkRule 36 = .ok (.invokevirtual 40, 3) := by decide +kernel
theorem dX2_checkRule_39 : decode cX2_checkRule 39 = .ok (.aload_n 0, 1) := by decide +kernel
theorem dX2_checkRule_40 : decode cX2_checkRule 40 = .ok (.bipush 14, 2) := by decide +kernel
theorem dX2_checkRule_42 : decode cX2_checkRule 42 = .ok (.invokevirtual 30, 3) := by decide +kernel
theorem dX2_checkRule_45 : decode cX2_checkRule 45 = .ok (.ifCond .eq 11, 3) := by decide +kernel
theorem dX2_checkRule_48 : decode cX2_checkRule 48 = .ok (.aload_n 0, 1) := by decide +kernel
theorem dX2_checkRule_49 : decode cX2_checkRule 49 = .ok (.invokevirtual 57, 3) := by decide +kernel
theorem dX2_checkRule_52 : decode cX2_checkRule 52 = .ok (.aload_n 0, 1) := by decide +kernel
theorem dX2_checkRule_53 : decode cX2_checkRule 53 = .ok (.invokevirtual 68, 3) := by decide +kernel
theorem dX2_checkRule_56 : decode cX2_checkRule 56 = .ok (.aload_n 0, 1) := by decide +kernel
theorem dX2_checkRule_57 : decode cX2_checkRule 57 = .ok (.bipush 30, 2) := by decide +kernel
theorem dX2_checkRule_59 : decode cX2_checkRule 59 = .ok (.invokevirtual 40, 3) := by decide +kernel
theorem dX2_checkRule_62 : decode cX2_checkRule 62 = .ok (.aload_n 0, 1) := by decide +kernel
theorem dX2_checkRule_63 : decode cX2_checkRule 63 = .ok (.invokevirtual 71, 3) := by decide +kernel
theorem dX2_checkRule_66 : decode cX2_checkRule 66 = .ok (.iconst 1, 1) := by decide +kernel
theorem dX2_checkRule_67 : decode cX2_checkRule 67 = .ok (.istore_n 1, 1) := by decide +kernel
theorem dX2_checkRule_68 : decode cX2_checkRule 68 = .ok (.iload_n 1, 1) := by decide +kernel
theorem dX2_checkRule_69 : decode cX2_checkRule 69 = .ok (.bipush 12, 2) := by decide +kernel
theorem dX2_checkRule_71 : decode cX2_checkRule 71 = .ok (.if_icmp .gt 61, 3) := by decide +kernel
theorem dX2_checkRule_74 : decode cX2_checkRule 74 = .ok (.aload_n 0, 1) := by decide +kernel
theorem dX2_checkRule_75 : decode cX2_checkRule 75 = .ok (.bipush 31, 2) := by decide +kernel
theorem dX2_checkRule_77 : decode cX2_checkRule 77 = .ok (.invokevirtual 30, 3) := by decide +kernel
theorem dX2_checkRule_80 : decode cX2_checkRule 80 = .ok (.ifCond .eq 52, 3) := by decide +kernel
theorem dX2_checkRule_83 : decode cX2_checkRule 83 = .ok (.aload_n 0, 1) := by decide +kernel
theorem dX2_checkRule_84 : decode cX2_checkRule 84 = .ok (.invokevirtual 57, 3) := by decide +kernel
theorem dX2_checkRule_87 : decode cX2_checkRule 87 = .ok (.iload_n 1, 1) := by decide +kernel
theorem dX2_checkRule_88 : decode cX2_checkRule 88 = .ok (.bipush 12, 2) := by decide +kernel
theorem dX2_checkRule_90 : decode cX2_checkRule 90 = .ok (.if_icmp .ne 32, 3) := by decide +kernel
theorem dX2_checkRule_93 : decode cX2_checkRule 93 = .ok (.aload_n 0, 1) := by decide +kernel
theorem dX2_checkRule_94 : decode cX2_checkRule 94 = .ok (.getfield 19, 3) := by decide +kernel
theorem dX2_checkRule_97 : decode cX2_checkRule 97 = .ok (.aload_n 0, 1) := by decide +kernel
theorem dX2_checkRule_98 : decode cX2_checkRule 98 = .ok (.getfield 9, 3) := by decide +kernel
theorem dX2_checkRule_101 : decode cX2_checkRule 101 = .ok (.invokevirtual 53, 3) := by decide +kernel
theorem dX2_checkRule_104 : decode cX2_checkRule 104 = .ok (.invokestatic 74, 3) := by decide +kernel
theorem dX2_checkRule_107 : decode cX2_checkRule 107 = .ok (.ifCond .eq 15, 3) := by decide +kernel
theorem dX2_checkRule_110 : decode cX2_checkRule 110 = .ok (.aload_n 0, 1) := by decide +kernel
theorem dX2_checkRule_111 : decode cX2_checkRule 111 = .ok (.getfield 19, 3) := by decide +kernel
theorem dX2_checkRule_114 : decode cX2_checkRule 114 = .ok (.iconst 2, 1) := by decide +kernel
theorem dX2_checkRule_115 : decode cX2_checkRule 115 = .ok (.aload_n 0, 1) := by decide +kernel
theorem dX2_checkRule_116 : decode cX2_checkRule 116 = .ok (.getfield 9, 3) := by decide +kernel
theorem dX2_checkRule_119 : decode cX2_checkRule 119 = .ok (.invokevirtual 44, 3) := by decide +kernel
theorem dX2_checkRule_122 : decode cX2_checkRule 122 = .ok (.aload_n 0, 1) := by decide +kernel
theorem dX2_checkRule_123 : decode cX2_checkRule 123 = .ok (.invokevirtual 71, 3) := by decide +kernel
theorem dX2_checkRule_126 : decode cX2_checkRule 126 = .ok (.iinc 1 1, 3) := by decide +kernel
theorem dX2_checkRule_129 : decode cX2_checkRule 129 = .ok (.goto (-61), 3) := by decide +kernel
theorem dX2_checkRule_132 : decode cX2_checkRule 132 = .ok (.aload_n 0, 1) := by decide +kernel
theorem dX2_checkRule_133 : decode cX2_checkRule 133 = .ok (.bipush 29, 2) := by decide +kernel
theorem dX2_checkRule_135 : decode cX2_checkRule 135 = .ok (.invokevirtual 40, 3) := by decide +kernel
theorem dX2_checkRule_138 : decode cX2_checkRule 138 = .ok (.return_, 1) := by decide +kernel
theorem dX2_isAct_0 : decode cX2_isAct 0 = .ok (.iload_n 0, 1) := by decide +kernel
theorem dX2_isAct_1 : decode cX2_isAct 1 = .ok (.bipush 16, 2) := by decide +kernel
theorem dX2_isAct_3 : decode cX2_isAct 3 = .ok (.if_icmp .lt 13, 3) := by decide +kernel
theorem dX2_isAct_6 : decode cX2_isAct 6 = .ok (.iload_n 0, 1) := by decide +kernel
theorem dX2_isAct_7 : decode cX2_isAct 7 = .ok (.bipush 24, 2) := by decide +kernel
theorem dX2_isAct_9 : decode cX2_isAct 9 = .ok (.if_icmp .gt 7, 3) := by decide +kernel
theorem dX2_isAct_12 : decode cX2_isAct 12 = .ok (.iconst 1, 1) := by decide +kernel
theorem dX2_isAct_13 : decode cX2_isAct 13 = .ok (.goto 4, 3) := by decide +kernel
theorem dX2_isAct_16 : decode cX2_isAct 16 = .ok (.iconst 0, 1) := by decide +kernel
theorem dX2_isAct_17 : decode cX2_isAct 17 = .ok (.ireturn, 1) := by decide +kernel
theorem dX2_checkAct_0 : decode cX2_checkAct 0 = .ok (.aload_n 0, 1) := by decide +kernel
theorem dX2_checkAct_1 : decode cX2_checkAct 1 = .ok (.getfield 19, 3) := by decide +kernel
theorem dX2_checkAct_4 : decode cX2_checkAct 4 = .ok (.aload_n 0, 1) := by decide +kernel
theorem dX2_checkAct_5 : decode cX2_checkAct 5 = .ok (.getfield 9, 3) := by decide +kernel
theorem dX2_checkAct_8 : decode cX2_checkAct 8 = .ok (.invokevirtual 53, 3) := by decide +kernel
theorem dX2_checkAct_11 : decode cX2_checkAct 11 = .ok (.istore_n 1, 1) := by decide +kernel
theorem dX2_checkAct_12 : decode cX2_checkAct 12 = .ok (.iload_n 1, 1) := by decide +kernel
theorem dX2_checkAct_13 : decode cX2_checkAct 13 = .ok (.invokestatic 74, 3) := by decide +kernel
theorem dX2_checkAct_16 : decode cX2_checkAct 16 = .ok (.ifCond .ne 16, 3) := by decide +kernel
theorem dX2_checkAct_19 : decode cX2_checkAct 19 = .ok (.aload_n 0, 1) := by decide +kernel
theorem dX2_checkAct_20 : decode cX2_checkAct 20 = .ok (.getfield 19, 3) := by decide +kernel
theorem dX2_checkAct_23 : decode cX2_checkAct 23 = .ok (.iconst 1, 1) := by decide +kernel
theorem dX2_checkAct_24 : decode cX2_checkAct 24 = .ok (.aload_n 0, 1) := by decide +kernel
theorem dX2_checkAct_25 : decode cX2_checkAct 25 = .ok (.getfield 9, 3) := by decide +kernel
theorem dX2_checkAct_28 : decode cX2_checkAct 28 = .ok (.invokevirtual 44, 3) := by decide +kernel
theorem dX2_checkAct_31 : decode cX2_checkAct 31 = .ok (.return_, 1) := by decide +kernel
theorem dX2_checkAct_32 : decode cX2_checkAct 32 = .ok (.aload_n 0, 1) := by decide +kernel
theorem dX2_checkAct_33 : decode cX2_checkAct 33 = .ok (.invokevirtual 57, 3) := by decide +kernel
theorem dX2_checkAct_36 : decode cX2_checkAct 36 = .ok (.iload_n 1, 1) := by decide +kernel
theorem dX2_checkAct_37 : decode cX2_checkAct 37 = .ok (.bipush 17, 2) := by decide +kernel
theorem dX2_checkAct_39 : decode cX2_checkAct 39 = .ok (.if_icmp .eq 15, 3) := by decide +kernel
theorem dX2_checkAct_42 : decode cX2_checkAct 42 = .ok (.iload_n 1, 1) := by decide +kernel
theorem dX2_checkAct_43 : decode cX2_checkAct 43 = .ok (.bipush 18, 2) := by decide +kernel
theorem dX2_checkAct_45 : decode cX2_checkAct 45 = .ok (.if_icmp .eq 9, 3) := by decide +kernel
theorem dX2_checkAct_48 : decode cX2_checkAct 48 = .ok (.iload_n 1, 1) := by decide +kernel
theorem dX2_checkAct_49 : decode cX2_checkAct 49 = .ok (.bipush 20, 2) := by decide +kernel
theorem dX2_checkAct_51 : decode cX2_checkAct 51 = .ok (.if_icmp .ne 9, 3) := by decide +kernel
theorem dX2_checkAct_54 : decode cX2_checkAct 54 = .ok (.aload_n 0, 1) := by decide +kernel
theorem dX2_checkAct_55 : decode cX2_checkAct 55 = .ok (.bipush 27, 2) := by decide +kernel
theorem dX2_checkAct_57 : decode cX2_checkAct 57 = .ok (.invokevirtual 40, 3) := by decide +kernel
theorem dX2_checkAct_60 : decode cX2_checkAct 60 = .ok (.iload_n 1, 1) := by decide +kernel
theorem dX2_checkAct_61 : decode cX2_checkAct 61 = .ok (.bipush 16, 2) := by decide +kernel
theorem dX2_checkAct_63 : decode cX2_checkAct 63 = .ok (.if_icmp .eq 9, 3) := by decide +kernel
theorem dX2_checkAct_66 : decode cX2_checkAct 66 = .ok (.iload_n 1, 1) := by decide +kernel
theorem dX2_checkAct_67 : decode cX2_checkAct 67 = .ok (.bipush 17, 2) := by decide +kernel
theorem dX2_checkAct_69 : decode cX2_checkAct 69 = .ok (.if_icmp .ne 7, 3) := by decide +kernel
theorem dX2_checkAct_72 : decode cX2_checkAct 72 = .ok (.aload_n 0, 1) := by decide +kernel
theorem dX2_checkAct_73 : decode cX2_checkAct 73 = .ok (.invokevirtual 77, 3) := by decide +kernel
theorem dX2_checkAct_76 : decode cX2_checkAct 76 = .ok (.return_, 1) := by decide +kernel
theorem dX2_checkCond_0 : decode cX2_checkCond 0 = .ok (.iconst 1, 1) := by decide +kernel
theorem dX2_checkCond_1 : decode cX2_checkCond 1 = .ok (.istore_n 1, 1) := by decide +kernel
theorem dX2_checkCond_2 : decode cX2_checkCond 2 = .ok (.iconst 0, 1) := by decide +kernel
theorem dX2_checkCond_3 : decode cX2_checkCond 3 = .ok (.istore_n 2, 1) := by decide +kernel
theorem dX2_checkCond_4 : decode cX2_checkCond 4 = .ok (.iload_n 2, 1) := by decide +kernel
theorem dX2_checkCond_5 : decode cX2_checkCond 5 = .ok (.sipush 1000, 3) := by decide +kernel
theorem dX2_checkCond_8 : decode cX2_checkCond 8 = .ok (.if_icmp .gt 72, 3) := by decide +kernel
theorem dX2_checkCond_11 : decode cX2_checkCond 11 = .ok (.iload_n 1, 1) := by decide +kernel
theorem dX2_checkCond_12 : decode cX2_checkCond 12 = .ok (.ifCond .eq 68, 3) := by decide +kernel
theorem dX2_checkCond_15 : decode cX2_checkCond 15 = .ok (.aload_n 0, 1) := by decide +kernel
theorem dX2_checkCond_16 : decode cX2_checkCond 16 = .ok (.invokevirtual 77, 3) := by decide +kernel
theorem dX2_checkCond_19 : decode cX2_checkCond 19 = .ok (.aload_n 0, 1) := by decide +kernel
theorem dX2_checkCond_20 : decode cX2_checkCond 20 = .ok (.getfield 19, 3) := by decide +kernel
theorem dX2_checkCond_23 : decode cX2_checkCond 23 = .ok (.aload_n 0, 1) := by decide +kernel
theorem dX2_checkCond_24 : decode cX2_checkCond 24 = .ok (.getfield 9, 3) := by decide +kernel
theorem dX2_checkCond_27 : decode cX2_checkCond 27 = .ok (.invokevirtual 53, 3) := by decide +kernel
theorem dX2_checkCond_30 : decode cX2_checkCond 30 = .ok (.invokestatic 80, 3) := by decide +kernel
theorem dX2_checkCond_33 : decode cX2_checkCond 33 = .ok (.ifCond .eq 10, 3) := by decide +kernel
theorem dX2_checkCond_36 : decode cX2_checkCond 36 = .ok (.aload_n 0, 1) := by decide +kernel
theorem dX2_checkCond_37 : decode cX2_checkCond 37 = .ok (.invokevirtual 57, 3) := by decide +kernel
theorem dX2_checkCond_40 : decode cX2_checkCond 40 = .ok (.goto 15, 3) := by decide +kernel
theorem dX2_checkCond_43 : decode cX2_checkCond 43 = .ok (.aload_n 0, 1) := by decide +kernel
theorem dX2_checkCond_44 : decode cX2_checkCond 44 = .ok (.getfield 19, 3) := by decide +kernel
theorem dX2_checkCond_47 : decode cX2_checkCond 47 = .ok (.iconst 1, 1) := by decide +kernel
theorem dX2_checkCond_48 : decode cX2_checkCond 48 = .ok (.aload_n 0, 1) := by decide +kernel
theorem dX2_checkCond_49 : decode cX2_checkCond 49 = .ok (.getfield 9, 3) := by decide +kernel
theorem dX2_checkCond_52 : decode cX2_checkCond 52 = .ok (.invokevirtual 44, 3) := by decide +kernel
theorem dX2_checkCond_55 : decode cX2_checkCond 55 = .ok (.aload_n 0, 1) := by decide +kernel
theorem dX2_checkCond_56 : decode cX2_checkCond 56 = .ok (.invokevirtual 77, 3) := by decide +kernel
theorem dX2_checkCond_59 : decode cX2_checkCond 59 = .ok (.aload_n 0, 1) := by decide +kernel
theorem dX2_checkCond_60 : decode cX2_checkCond 60 = .ok (.bipush 15, 2) := by decide +kernel
theorem dX2_checkCond_62 : decode cX2_checkCond 62 = .ok (.invokevirtual 30, 3) := by decide +kernel
theorem dX2_checkCond_65 : decode cX2_checkCond 65 = .ok (.istore_n 1, 1) := by decide +kernel
theorem dX2_checkCond_66 : decode cX2_checkCond 66 = .ok (.iload_n 1, 1) := by decide +kernel
theorem dX2_checkCond_67 : decode cX2_checkCond 67 = .ok (.ifCond .eq 7, 3) := by decide +kernel
theorem dX2_checkCond_70 : decode cX2_checkCond 70 = .ok (.aload_n 0, 1) := by decide +kernel
theorem dX2_checkCond_71 : decode cX2_checkCond 71 = .ok (.invokevirtual 57, 3) := by decide +kernel
theorem dX2_checkCond_74 : decode cX2_checkCond 74 = .ok (.iinc 2 1, 3) := by decide +kernel
theorem dX2_checkCond_77 : decode cX2_checkCond 77 = .ok (.goto (-73), 3) := by decide +kernel
theorem dX2_checkCond_80 : decode cX2_checkCond 80 = .ok (.return_, 1) := by decide +kernel
theorem dX2_isRelation_0 : decode cX2_isRelation 0 = .ok (.iload_n 0, 1) := by decide +kernel
theorem dX2_isRelation_1 : decode cX2_isRelation 1 = .ok (.bipush 37, 2) := by decide +kernel
theorem dX2_isRelation_3 : decode cX2_isRelation 3 = .ok (.if_icmp .lt 13, 3) := by decide +kernel
theorem dX2_isRelation_6 : decode cX2_isRelation 6 = .ok (.iload_n 0, 1) := by decide +kernel
theorem dX2_isRelation_7 : decode cX2_isRelation 7 = .ok (.bipush 40, 2) := by decide +kernel
theorem dX2_isRelation_9 : decode cX2_isRelation 9 = .ok (.if_icmp .gt 7, 3) := by decide +kernel
theorem dX2_isRelation_12 : decode cX2_isRelation 12 = .ok (.iconst 1, 1) := by decide +kernel
theorem dX2_isRelation_13 : decode cX2_isRelation 13 = .ok (.goto 4, 3) := by decide +kernel
theorem dX2_isRelation_16 : decode cX2_isRelation 16 = .ok (.iconst 0, 1) := by decide +kernel
theorem dX2_isRelation_17 : decode cX2_isRelation 17 = .ok (.ireturn, 1) := by decide +kernel
theorem dX2_checkSum_0 : decode cX2_checkSum 0 = .ok (.iconst 0, 1) := by decide +kernel
theorem dX2_checkSum_1 : decode cX2_checkSum 1 = .ok (.istore_n 1, 1) := by decide +kernel
theorem dX2_checkSum_2 : decode cX2_checkSum 2 = .ok (.iconst 1, 1) := by decide +kernel
theorem dX2_checkSum_3 : decode cX2_checkSum 3 = .ok (.istore_n 2, 1) := by decide +kernel
theorem dX2_checkSum_4 : decode cX2_checkSum 4 = .ok (.iconst 1, 1) := by decide +kernel
theorem dX2_checkSum_5 : decode cX2_checkSum 5 = .ok (.istore_n 3, 1) := by decide +kernel
theorem dX2_checkSum_6 : decode cX2_checkSum 6 = .ok (.iconst 0, 1) := by decide +kernel
theorem dX2_checkSum_7 : decode cX2_checkSum 7 = .ok (.istore 4, 2) := by decide +kernel
theorem dX2_checkSum_9 : decode cX2_checkSum 9 = .ok (.iload 4, 2) := by decide +kernel
theorem dX2_checkSum_11 : decode cX2_checkSum 11 = .ok (.sipush 1000, 3) := by decide +kernel
theorem dX2_checkSum_14 : decode cX2_checkSum 14 = .ok (.if_icmp .gt 200, 3) := by decide +kernel
theorem dX2_checkSum_17 : decode cX2_checkSum 17 = .ok (.aload_n 0, 1) := by decide +kernel
theorem dX2_checkSum_18 : decode cX2_checkSum 18 = .ok (.getfield 19, 3) := by decide +kernel
theorem dX2_checkSum_21 : decode cX2_checkSum 21 = .ok (.getfield 50, 3) := by decide +kernel
theorem dX2_checkSum_24 : decode cX2_checkSum 24 = .ok (.ifCond .ne 190, 3) := by decide +kernel
theorem dX2_checkSum_27 : decode cX2_checkSum 27 = .ok (.aload_n 0, 1) := by decide +kernel
theorem dX2_checkSum_28 : decode cX2_checkSum 28 = .ok (.getfield 19, 3) := by decide +kernel
theorem dX2_checkSum_31 : decode cX2_checkSum 31 = .ok (.aload_n 0, 1) := by decide +kernel
theorem dX2_checkSum_32 : decode cX2_checkSum 32 = .ok (.getfield 9, 3) := by decide +kernel
theorem dX2_checkSum_35 : decode cX2_checkSum 35 = .ok (.invokevirtual 53, 3) := by decide +kernel
theorem dX2_checkSum_38 : decode cX2_checkSum 38 = .ok (.istore 5, 2) := by decide +kernel
theorem dX2_checkSum_40 : decode cX2_checkSum 40 = .ok (.iload_n 2, 1) := by decide +kernel
theorem dX2_checkSum_41 : decode cX2_checkSum 41 = .ok (.ifCond .eq 36, 3) := by decide +kernel
theorem dX2_checkSum_44 : decode cX2_checkSum 44 = .ok (.iload 5, 2) := by decide +kernel
theorem dX2_checkSum_46 : decode cX2_checkSum 46 = .ok (.bipush 32, 2) := by decide +kernel
theorem dX2_checkSum_48 : decode cX2_checkSum 48 = .ok (.if_icmp .ne 29, 3) := by decide +kernel
theorem dX2_checkSum_51 : decode cX2_checkSum 51 = .ok (.iinc 1 1, 3) := by decide +kernel
theorem dX2_checkSum_54 : decode cX2_checkSum 54 = .ok (.iload_n 1, 1) := by decide +kernel
theorem dX2_checkSum_55 : decode cX2_checkSum 55 = .ok (.bipush 6, 2) := by decide +kernel
theorem dX2_checkSum_57 : decode cX2_checkSum 57 = .ok (.if_icmp .le 15, 3) := by decide +kernel
theorem dX2_checkSum_60 : decode cX2_checkSum 60 = .ok (.aload_n 0, 1) := by decide +kernel
theorem dX2_checkSum_61 : decode cX2_checkSum 61 = .ok (.getfield 19, 3) := by decide +kernel
theorem dX2_checkSum_64 : decode cX2_checkSum 64 = .ok (.iconst 2, 1) := by decide +kernel
theorem dX2_checkSum_65 : decode cX2_checkSum 65 = .ok (.aload_n 0, 1) := by decide +kernel
theorem dX2_checkSum_66 : decode cX2_checkSum 66 = .ok (.getfield 9, 3) := by decide +kernel
theorem dX2_checkSum_69 : decode cX2_checkSum 69 = .ok (.invokevirtual 44, 3) := by decide +kernel
theorem dX2_checkSum_72 : decode cX2_checkSum 72 = .ok (.iconst 1, 1) := by decide +kernel
theorem dX2_checkSum_73 : decode cX2_checkSum 73 = .ok (.istore_n 3, 1) := by decide +kernel
theorem dX2_checkSum_74 : decode cX2_checkSum 74 = .ok (.goto 130, 3) := by decide +kernel
theorem dX2_checkSum_77 : decode cX2_checkSum 77 = .ok (.iload_n 2, 1) := by decide +kernel
theorem dX2_checkSum_78 : decode cX2_checkSum 78 = .ok (.ifCond .eq 19, 3) := by decide +kernel
theorem dX2_checkSum_81 : decode cX2_checkSum 81 = .ok (.iload 5, 2) := by decide +kernel
theorem dX2_checkSum_83 : decode cX2_checkSum 83 = .ok (.bipush 35, 2) := by decide +kernel
theorem dX2_checkSum_85 : decode cX2_checkSum 85 = .ok (.if_icmp .ne 12, 3) := by decide +kernel
theorem dX2_checkSum_88 : decode cX2_checkSum 88 = .ok (.iload_n 3, 1) := by decide +kernel
theorem dX2_checkSum_89 : decode cX2_checkSum 89 = .ok (.ifCond .eq 8, 3) := by decide +kernel
theorem dX2_checkSum_92 : decode cX2_checkSum 92 = .ok (.iconst 0, 1) := by decide +kernel
theorem dX2_checkSum_93 : decode cX2_checkSum 93 = .ok (.istore_n 3, 1) := by decide +kernel
theorem dX2_checkSum_94 : decode cX2_checkSum 94 = .ok (.goto 110, 3) := by decide +kernel
theorem dX2_checkSum_97 : decode cX2_checkSum 97 = .ok (.iload_n 2, 1) := by decide +kernel
theorem dX2_checkSum_98 : decode cX2_checkSum 98 = .ok (.ifCond .eq 48, 3) := by decide +kernel
theorem dX2_checkSum_101 : decode cX2_checkSum 101 = .ok (.iload 5, 2) := by decide +kernel
theorem dX2_checkSum_103 : decode cX2_checkSum 103 = .ok (.bipush 28, 2) := by decide +kernel
theorem dX2_checkSum_105 : decode cX2_checkSum 105 = .ok (.if_icmp .eq 36, 3) := by decide +kernel
theorem dX2_checkSum_108 : decode cX2_checkSum 108 = .ok (.iload 5, 2) := by decide +kernel
theorem dX2_checkSum_110 : decode cX2_checkSum 110 = .ok (.bipush 27, 2) := by decide +kernel
theorem dX2_checkSum_112 : decode cX2_checkSum 112 = .ok (.if_icmp .eq 29, 3) := by decide +kernel
theorem dX2_checkSum_115 : decode cX2_checkSum 115 = .ok (.iload 5, 2) := by decide +kernel
theorem dX2_checkSum_117 : decode cX2_checkSum 117 = .ok (.bipush 25, 2) := by decide +kernel
theorem dX2_checkSum_119 : decode cX2_checkSum 119 = .ok (.if_icmp .eq 22, 3) := by decide +kernel
theorem dX2_checkSum_122 : decode cX2_checkSum 122 = .ok (.iload 5, 2) := by decide +kernel
theorem dX2_checkSum_124 : decode cX2_checkSum 124 = .ok (.bipush 26, 2) := by decide +kernel
theorem dX2_checkSum_126 : decode cX2_checkSum 126 = .ok (.if_icmp .eq 15, 3) := by decide +kernel
theorem dX2_checkSum_129 : decode cX2_checkSum 129 = .ok (.aload_n 0, 1) := by decide +kernel
theorem dX2_checkSum_130 : decode cX2_checkSum 130 = .ok (.getfield 19, 3) := by decide +kernel
theorem dX2_checkSum_133 : decode cX2_checkSum 133 = .ok (.iconst 1, 1) := by decide +kernel
theorem dX2_checkSum_134 : decode cX2_checkSum 134 = .ok (.aload_n 0, 1) := by decide +kernel
theorem dX2_checkSum_135 : decode cX2_checkSum 135 = .ok (.getfield 9, 3) := by decide +kernel
theorem dX2_checkSum_138 : decode cX2_checkSum 138 = .ok (.invokevirtual 44, 3) := by decide +kernel
theorem dX2_checkSum_141 : decode cX2_checkSum 141 = .ok (.iconst 0, 1) := by decide +kernel
theorem dX2_checkSum_142 : decode cX2_checkSum 142 = .ok (.istore_n 2, 1) := by decide +kernel
theorem dX2_checkSum_143 : decode cX2_checkSum 143 = .ok (.goto 61, 3) := by decide +kernel
theorem dX2_checkSum_146 : decode cX2_checkSum 146 = .ok (.iload 5, 2) := by decide +kernel
theorem dX2_checkSum_148 : decode cX2_checkSum 148 = .ok (.bipush 34, 2) := by decide +kernel
theorem dX2_checkSum_150 : decode cX2_checkSum 150 = .ok (.if_icmp .eq 17, 3) := by decide +kernel
theorem dX2_checkSum_153 : decode cX2_checkSum 153 = .ok (.iload 5, 2) := by decide +kernel
theorem dX2_checkSum_155 : decode cX2_checkSum 155 = .ok (.bipush 35, 2) := by decide +kernel
theorem dX2_checkSum_157 : decode cX2_checkSum 157 = .ok (.if_icmp .eq 10, 3) := by decide +kernel
theorem dX2_checkSum_160 : decode cX2_checkSum 160 = .ok (.iload 5, 2) := by decide +kernel
theorem dX2_checkSum_162 : decode cX2_checkSum 162 = .ok (.bipush 36, 2) := by decide +kernel
theorem dX2_checkSum_164 : decode cX2_checkSum 164 = .ok (.if_icmp .ne 10, 3) := by decide +kernel
theorem dX2_checkSum_167 : decode cX2_checkSum 167 = .ok (.iconst 1, 1) := by decide +kernel
theorem dX2_checkSum_168 : decode cX2_checkSum 168 = .ok (.istore_n 2, 1) := by decide +kernel
theorem dX2_checkSum_169 : decode cX2_checkSum 169 = .ok (.iconst 0, 1) := by decide +kernel
theorem dX2_checkSum_170 : decode cX2_checkSum 170 = .ok (.istore_n 3, 1) := by decide +kernel
theorem dX2_checkSum_171 : decode cX2_checkSum 171 = .ok (.goto 33, 3) := by decide +kernel
theorem dX2_checkSum_174 : decode cX2_checkSum 174 = .ok (.iload_n 1, 1) := by decide +kernel
theorem dX2_checkSum_175 : decode cX2_checkSum 175 = .ok (.ifCond .le 28, 3) := by decide +kernel
theorem dX2_checkSum_178 : decode cX2_checkSum 178 = .ok (.iload 5, 2) := by decide +kernel
theorem dX2_checkSum_180 : decode cX2_checkSum 180 = .ok (.bipush 33, 2) := by decide +kernel
theorem dX2_checkSum_182 : decode cX2_checkSum 182 = .ok (.if_icmp .eq 15, 3) := by decide +kernel
theorem dX2_checkSum_185 : decode cX2_checkSum 185 = .ok (.aload_n 0, 1) := by decide +kernel
theorem dX2_checkSum_186 : decode cX2_checkSum 186 = .ok (.getfield 19, 3) := by decide +kernel
theorem dX2_checkSum_189 : decode cX2_checkSum 189 = .ok (.iconst 1, 1) := by decide +kernel
theorem dX2_checkSum_190 : decode cX2_checkSum 190 = .ok (.aload_n 0, 1) := by decide +kernel
theorem dX2_checkSum_191 : decode cX2_checkSum 191 = .ok (.getfield 9, 3) := by decide +kernel
theorem dX2_checkSum_194 : decode cX2_checkSum 194 = .ok (.invokevirtual 44, 3) := by decide +kernel
theorem dX2_checkSum_197 : decode cX2_checkSum 197 = .ok (.iinc 1 (-1), 3) := by decide +kernel
theorem dX2_checkSum_200 : decode cX2_checkSum 200 = .ok (.goto 4, 3) := by decide +kernel
theorem dX2_checkSum_203 : decode cX2_checkSum 203 = .ok (.return_, 1) := by decide +kernel
theorem dX2_checkSum_204 : decode cX2_checkSum 204 = .ok (.aload_n 0, 1) := by decide +kernel
theorem dX2_checkSum_205 : decode cX2_checkSum 205 = .ok (.invokevirtual 57, 3) := by decide +kernel
theorem dX2_checkSum_208 : decode cX2_checkSum 208 = .ok (.iinc 4 1, 3) := by decide +kernel
theorem dX2_checkSum_211 : decode cX2_checkSum 211 = .ok (.goto (-202), 3) := by decide +kernel
theorem dX2_checkSum_214 : decode cX2_checkSum 214 = .ok (.return_, 1) := by decide +kernel
theorem dX3_init_0 : decode cX3_init 0 = .ok (.aload_n 0, 1) := by decide +kernel
theorem dX3_init_1 : decode cX3_init 1 = .ok (.invokespecial 5, 3) := by decide +kernel
theorem dX3_init_4 : decode cX3_init 4 = .ok (.aload_n 0, 1) := by decide +kernel
theorem dX3_init_5 : decode cX3_init 5 = .ok (.iconst 0, 1) := by decide +kernel
theorem dX3_init_6 : decode cX3_init 6 = .ok (.putfield 11, 3) := by decide +kernel
theorem dX3_init_9 : decode cX3_init 9 = .ok (.aload_n 0, 1) := by decide +kernel
theorem dX3_init_10 : decode cX3_init 10 = .ok (.iconst 0, 1) := by decide +kernel
theorem dX3_init_11 : decode cX3_init 11 = .ok (.putfield 15, 3) := by decide +kernel
theorem dX3_init_14 : decode cX3_init 14 = .ok (.aload_n 0, 1) := by decide +kernel
theorem dX3_init_15 : decode cX3_init 15 = .ok (.iconst 0, 1) := by decide +kernel
theorem dX3_init_16 : decode cX3_init 16 = .ok (.putfield 18, 3) := by decide +kernel
theorem dX3_init_19 : decode cX3_init 19 = .ok (.aload_n 0, 1) := by decide +kernel
theorem dX3_init_20 : decode cX3_init 20 = .ok (.iconst 0, 1) := by decide +kernel
theorem dX3_init_21 : decode cX3_init 21 = .ok (.putfield 21, 3) := by decide +kernel
theorem dX3_init_24 : decode cX3_init 24 = .ok (.aload_n 0, 1) := by decide +kernel
theorem dX3_init_25 : decode cX3_init 25 = .ok (.iconst 0, 1) := by decide +kernel
theorem dX3_init_26 : decode cX3_init 26 = .ok (.putfield 24, 3) := by decide +kernel
theorem dX3_init_29 : decode cX3_init 29 = .ok (.aload_n 0, 1) := by decide +kernel
theorem dX3_init_30 : decode cX3_init 30 = .ok (.aload_n 1, 1) := by decide +kernel
theorem dX3_init_31 : decode cX3_init 31 = .ok (.putfield 27, 3) := by decide +kernel
theorem dX3_init_34 : decode cX3_init 34 = .ok (.aload_n 0, 1) := by decide +kernel
theorem dX3_init_35 : decode cX3_init 35 = .ok (.iload_n 2, 1) := by decide +kernel
theorem dX3_init_36 : decode cX3_init 36 = .ok (.ifCond .eq 8, 3) := by decide +kernel
theorem dX3_init_39 : decode cX3_init 39 = .ok (.bipush 120, 2) := by decide +kernel
theorem dX3_init_41 : decode cX3_init 41 = .ok (.goto 4, 3) := by decide +kernel
theorem dX3_init_44 : decode cX3_init 44 = .ok (.iconst 0, 1) := by decide +kernel
theorem dX3_init_45 : decode cX3_init 45 = .ok (.newarray .int, 2) := by decide +kernel
theorem dX3_init_47 : decode cX3_init 47 = .ok (.putfield 31, 3) := by decide +kernel
theorem dX3_init_50 : decode cX3_init 50 = .ok (.aload_n 0, 1) := by decide +kernel
theorem dX3_init_51 : decode cX3_init 51 = .ok (.iload_n 2, 1) := by decide +kernel
theorem dX3_init_52 : decode cX3_init 52 = .ok (.ifCond .eq 8, 3) := by decide +kernel
theorem dX3_init_55 : decode cX3_init 55 = .ok (.bipush 120, 2) := by decide +kernel
theorem dX3_init_57 : decode cX3_init 57 = .ok (.goto 4, 3) := by decide +kernel
theorem dX3_init_60 : decode cX3_init 60 = .ok (.iconst 0, 1) := by decide +kernel
theorem dX3_init_61 : decode cX3_init 61 = .ok (.newarray .int, 2) := by decide +kernel
theorem dX3_init_63 : decode cX3_init 63 = .ok (.putfield 35, 3) := by decide +kernel
theorem dX3_init_66 : decode cX3_init 66 = .ok (.aload_n 0, 1) := by decide +kernel
theorem dX3_init_67 : decode cX3_init 67 = .ok (.iload_n 2, 1) := by decide +kernel
theorem dX3_init_68 : decode cX3_init 68 = .ok (.ifCond .eq 9, 3) := by decide +kernel
theorem dX3_init_71 : decode cX3_init 71 = .ok (.sipush 729, 3) := by decide +kernel
theorem dX3_init_74 : decode cX3_init 74 = .ok (.goto 4, 3) := by decide +kernel
theorem dX3_init_77 : decode cX3_init 77 = .ok (.iconst 0, 1) := by decide +kernel
theorem dX3_init_78 : decode cX3_init 78 = .ok (.newarray .int, 2) := by decide +kernel
theorem dX3_init_80 : decode cX3_init 80 = .ok (.putfield 38, 3) := by decide +kernel
theorem dX3_init_83 : decode cX3_init 83 = .ok (.return_, 1) := by decide +kernel
theorem dX3_clear_0 : decode cX3_clear 0 = .ok (.aload_n 0, 1) := by decide +kernel
theorem dX3_clear_1 : decode cX3_clear 1 = .ok (.iconst 0, 1) := by decide +kernel
theorem dX3_clear_2 : decode cX3_clear 2 = .ok (.putfield 21, 3) := by decide +kernel
theorem dX3_clear_5 : decode cX3_clear 5 = .ok (.aload_n 0, 1) := by decide +kernel
theorem dX3_clear_6 : decode cX3_clear 6 = .ok (.iconst 0, 1) := by decide +kernel
theorem dX3_clear_7 : decode cX3_clear 7 = .ok (.putfield 24, 3) := by decide +kernel
theorem dX3_clear_10 : decode cX3_clear 10 = .ok (.aload_n 0, 1) := by decide +kernel
theorem dX3_clear_11 : decode cX3_clear 11 = .ok (.invokevirtual 41, 3) := by decide +kernel
theorem dX3_clear_14 : decode cX3_clear 14 = .ok (.aload_n 0, 1) := by decide +kernel
theorem dX3_clear_15 : decode cX3_clear 15 = .ok (.getfield 27, 3) := by decide +kernel
theorem dX3_clear_18 : decode cX3_clear 18 = .ok (.getfield 44, 3) := by decide +kernel
theorem dX3_clear_21 : decode cX3_clear 21 = .ok (.iconst 4, 1) := by decide +kernel
theorem dX3_clear_22 : decode cX3_clear 22 = .ok (.iaload, 1) := by decide +kernel
theorem dX3_clear_23 : decode cX3_clear 23 = .ok (.ifCond .le 8, 3) := by decide +kernel
theorem dX3_clear_26 : decode cX3_clear 26 = .ok (.aload_n 0, 1) := by decide +kernel
theorem dX3_clear_27 : decode cX3_clear 27 = .ok (.iconst 0, 1) := by decide +kernel
theorem dX3_clear_28 : decode cX3_clear 28 = .ok (.invokevirtual 49, 3) := by decide +kernel
theorem dX3_clear_31 : decode cX3_clear 31 = .ok (.return_, 1) := by decide +kernel
theorem dX3_takeBall_0 : decode cX3_takeBall 0 = .ok (.aload_n 0, 1) := by decide +kernel
theorem dX3_takeBall_1 : decode cX3_takeBall 1 = .ok (.getfield 21, 3) := by decide +kernel
theorem dX3_takeBall_4 : decode cX3_takeBall 4 = .ok (.iconst 3, 1) := by decide +kernel
theorem dX3_takeBall_5 : decode cX3_takeBall 5 = .ok (.if_icmp .ge 27, 3) := by decide +kernel
theorem dX3_takeBall_8 : decode cX3_takeBall 8 = .ok (.aload_n 0, 1) := by decide +kernel
theorem dX3_takeBall_9 : decode cX3_takeBall 9 = .ok (.dup, 1) := by decide +kernel
theorem dX3_takeBall_10 : decode cX3_takeBall 10 = .ok (.getfield 21, 3) := by decide +kernel
theorem dX3_takeBall_13 : decode cX3_takeBall 13 = .ok (.iconst 1, 1) := by decide +kernel
theorem dX3_takeBall_14 : decode cX3_takeBall 14 = .ok (.iadd, 1) := by decide +kernel
theorem dX3_takeBall_15 : decode cX3_takeBall 15 = .ok (.putfield 21, 3) := by decide +kernel
theorem dX3_takeBall_18 : decode cX3_takeBall 18 = .ok (.aload_n 0, 1) := by decide +kernel
theorem dX3_takeBall_19 : decode cX3_takeBall 19 = .ok (.invokevirtual 41, 3) := by decide +kernel
theorem dX3_takeBall_22 : decode cX3_takeBall 22 = .ok (.aload_n 0, 1) := by decide +kernel
theorem dX3_takeBall_23 : decode cX3_takeBall 23 = .ok (.iconst 0, 1) := by decide +kernel
theorem dX3_takeBall_24 : decode cX3_takeBall 24 = .ok (.iconst 1, 1) := by decide +kernel
theorem dX3_takeBall_25 : decode cX3_takeBall 25 = .ok (.invokevirtual 53, 3) := by decide +kernel
theorem dX3_takeBall_28 : decode cX3_takeBall 28 = .ok (.aload_n 0, 1) := by decide +kernel
theorem dX3_takeBall_29 : decode cX3_takeBall 29 = .ok (.invokevirtual 57, 3) := by decide +kernel
theorem dX3_takeBall_32 : decode cX3_takeBall 32 = .ok (.return_, 1) := by decide +kernel
theorem dX3_dropBall_0 : decode cX3_dropBall 0 = .ok (.aload_n 0, 1) := by decide +kernel
theorem dX3_dropBall_1 : decode cX3_dropBall 1 = .ok (.getfield 21, 3) := by decide +kernel
theorem dX3_dropBall_4 : decode cX3_dropBall 4 = .ok (.ifCond .le 44, 3) := by decide +kernel
theorem dX3_dropBall_7 : decode cX3_dropBall 7 = .ok (.aload_n 0, 1) := by decide +kernel
theorem dX3_dropBall_8 : decode cX3_dropBall 8 = .ok (.dup, 1) := by decide +kernel
theorem dX3_dropBall_9 : decode cX3_dropBall 9 = .ok (.getfield 21, 3) := by decide +kernel
theorem dX3_dropBall_12 : decode cX3_dropBall 12 = .ok (.iconst 1, 1) := by decide +kernel
theorem dX3_dropBall_13 : decode cX3_dropBall 13 = .ok (.isub, 1) := by decide +kernel
theorem dX3_dropBall_14 : decode cX3_dropBall 14 = .ok (.putfield 21, 3) := by decide +kernel
theorem dX3_dropBall_17 : decode cX3_dropBall 17 = .ok (.aload_n 0, 1) := by decide +kernel
theorem dX3_dropBall_18 : decode cX3_dropBall 18 = .ok (.invokevirtual 41, 3) := by decide +kernel
theorem dX3_dropBall_21 : decode cX3_dropBall 21 = .ok (.iconst 1, 1) := by decide +kernel
theorem dX3_dropBall_22 : decode cX3_dropBall 22 = .ok (.istore_n 1, 1) := by decide +kernel
theorem dX3_dropBall_23 : decode cX3_dropBall 23 = .ok (.iload_n 1, 1) := by decide +kernel
theorem dX3_dropBall_24 : decode cX3_dropBall 24 = .ok (.aload_n 0, 1) := by decide +kernel
theorem dX3_dropBall_25 : decode cX3_dropBall 25 = .ok (.getfield 27, 3) := by decide +kernel
theorem dX3_dropBall_28 : decode cX3_dropBall 28 = .ok (.getfield 44, 3) := by decide +kernel
theorem dX3_dropBall_31 : decode cX3_dropBall 31 = .ok (.iconst 4, 1) := by decide +kernel
theorem dX3_dropBall_32 : decode cX3_dropBall 32 = .ok (.iaload, 1) := by decide +kernel
theorem dX3_dropBall_33 : decode cX3_dropBall 33 = .ok (.if_icmp .gt 15, 3) := by decide +kernel
theorem dX3_dropBall_36 : decode cX3_dropBall 36 = .ok (.aload_n 0, 1) := by decide +kernel
theorem dX3_dropBall_37 : decode cX3_dropBall 37 = .ok (.iload_n 1, 1) := by decide +kernel
theorem dX3_dropBall_38 : decode cX3_dropBall 38 = .ok (.iconst 0, 1) := by decide +kernel
theorem dX3_dropBall_39 : decode cX3_dropBall 39 = .ok (.invokevirtual 53, 3) := by decide +kernel
theorem dX3_dropBall_42 : decode cX3_dropBall 42 = .ok (.iinc 1 1, 3) := by decide +kernel
theorem dX3_dropBall_45 : decode cX3_dropBall 45 = .ok (.goto (-22), 3) := by decide +kernel
theorem dX3_dropBall_48 : decode cX3_dropBall 48 = .ok (.return_, 1) := by decide +kernel
theorem dX3_moveBallBy_0 : decode cX3_moveBallBy 0 = .ok (.aload_n 0, 1) := by decide +kernel
theorem dX3_moveBallBy_1 : decode cX3_moveBallBy 1 = .ok (.getfield 31, 3) := by decide +kernel
theorem dX3_moveBallBy_4 : decode cX3_moveBallBy 4 = .ok (.arraylength, 1) := by decide +kernel
theorem dX3_moveBallBy_5 : decode cX3_moveBallBy 5 = .ok (.ifCond .ne 4, 3) := by decide +kernel
theorem dX3_moveBallBy_8 : decode cX3_moveBallBy 8 = .ok (.return_, 1) := by decide +kernel
theorem dX3_moveBallBy_9 : decode cX3_moveBallBy 9 = .ok (.iconst 0, 1) := by decide +kernel
theorem dX3_moveBallBy_10 : decode cX3_moveBallBy 10 = .ok (.istore_n 2, 1) := by decide +kernel
theorem dX3_moveBallBy_11 : decode cX3_moveBallBy 11 = .ok (.iconst 0, 1) := by decide +kernel
theorem dX3_moveBallBy_12 : decode cX3_moveBallBy 12 = .ok (.istore_n 3, 1) := by decide +kernel
theorem dX3_moveBallBy_13 : decode cX3_moveBallBy 13 = .ok (.iload_n 3, 1) := by decide +kernel
theorem dX3_moveBallBy_14 : decode cX3_moveBallBy 14 = .ok (.aload_n 0, 1) := by decide +kernel
theorem dX3_moveBallBy_15 : decode cX3_moveBallBy 15 = .ok (.getfield 27, 3) := by decide +kernel
theorem dX3_moveBallBy_18 : decode cX3_moveBallBy 18 = .ok (.getfield 44, 3) := by decide +kernel
theorem dX3_moveBallBy_21 : decode cX3_moveBallBy 21 = .ok (.iconst 5, 1) := by decide +kernel
theorem dX3_moveBallBy_22 : decode cX3_moveBallBy 22 = .ok (.iaload, 1) := by decide +kernel
theorem dX3_moveBallBy_23 : decode cX3_moveBallBy 23 = .ok (.if_icmp .ge 64, 3) := by decide +kernel
theorem dX3_moveBallBy_26 : decode cX3_moveBallBy 26 = .ok (.iload_n 3, 1) := by decide +kernel
theorem dX3_moveBallBy_27 : decode cX3_moveBallBy 27 = .ok (.bipush 24, 2) := by decide +kernel
theorem dX3_moveBallBy_29 : decode cX3_moveBallBy 29 = .ok (.if_icmp .ge 58, 3) := by decide +kernel
theorem dX3_moveBallBy_32 : decode cX3_moveBallBy 32 = .ok (.aload_n 0, 1) := by decide +kernel
theorem dX3_moveBallBy_33 : decode cX3_moveBallBy 33 = .ok (.getfield 27, 3) := by decide +kernel
theorem dX3_moveBallBy_36 : decode cX3_moveBallBy 36 = .ok (.getfield 60, 3) := by decide +kernel
theorem dX3_moveBallBy_39 : decode cX3_moveBallBy 39 = .ok (.iload_n 3, 1) := by decide +kernel
theorem dX3_moveBallBy_40 : decode cX3_moveBallBy 40 = .ok (.iaload, 1) := by decide +kernel
theorem dX3_moveBallBy_41 : decode cX3_moveBallBy 41 = .ok (.iload_n 1, 1) := by decide +kernel
theorem dX3_moveBallBy_42 : decode cX3_moveBallBy 42 = .ok (.if_icmp .ne 39, 3) := by decide +kernel
theorem dX3_moveBallBy_45 : decode cX3_moveBallBy 45 = .ok (.iload_n 2, 1) := by decide +kernel
theorem dX3_moveBallBy_46 : decode cX3_moveBallBy 46 = .ok (.ifCond .ne 7, 3) := by decide +kernel
theorem dX3_moveBallBy_49 : decode cX3_moveBallBy 49 = .ok (.aload_n 0, 1) := by decide +kernel
theorem dX3_moveBallBy_50 : decode cX3_moveBallBy 50 = .ok (.invokevirtual 41, 3) := by decide +kernel
theorem dX3_moveBallBy_53 : decode cX3_moveBallBy 53 = .ok (.iconst 1, 1) := by decide +kernel
theorem dX3_moveBallBy_54 : decode cX3_moveBallBy 54 = .ok (.istore_n 2, 1) := by decide +kernel
theorem dX3_moveBallBy_55 : decode cX3_moveBallBy 55 = .ok (.aload_n 0, 1) := by decide +kernel
theorem dX3_moveBallBy_56 : decode cX3_moveBallBy 56 = .ok (.aload_n 0, 1) := by decide +kernel
theorem dX3_moveBallBy_57 : decode cX3_moveBallBy 57 = .ok (.getfield 27, 3) := by decide +kernel
theorem dX3_moveBallBy_60 : decode cX3_moveBallBy 60 = .ok (.getfield 63, 3) := by decide +kernel
theorem dX3_moveBallBy_63 : decode cX3_moveBallBy 63 = .ok (.iload_n 3, 1) := by decide +kernel
theorem dX3_moveBallBy_64 : decode cX3_moveBallBy 64 = .ok (.iaload, 1) := by decide +kernel
theorem dX3_moveBallBy_65 : decode cX3_moveBallBy 65 = .ok (.iconst 1, 1) := by decide +kernel
theorem dX3_moveBallBy_66 : decode cX3_moveBallBy 66 = .ok (.iadd, 1) := by decide +kernel
theorem dX3_moveBallBy_67 : decode cX3_moveBallBy 67 = .ok (.aload_n 0, 1) := by decide +kernel
theorem dX3_moveBallBy_68 : decode cX3_moveBallBy 68 = .ok (.getfield 27, 3) := by decide +kernel
theorem dX3_moveBallBy_71 : decode cX3_moveBallBy 71 = .ok (.getfield 66, 3) := by decide +kernel
theorem dX3_moveBallBy_74 : decode cX3_moveBallBy 74 = .ok (.iload_n 3, 1) := by decide +kernel
theorem dX3_moveBallBy_75 : decode cX3_moveBallBy 75 = .ok (.iaload, 1) := by decide +kernel
theorem dX3_moveBallBy_76 : decode cX3_moveBallBy 76 = .ok (.iconst 1, 1) := by decide +kernel
theorem dX3_moveBallBy_77 : decode cX3_moveBallBy 77 = .ok (.iadd, 1) := by decide +kernel
theorem dX3_moveBallBy_78 : decode cX3_moveBallBy 78 = .ok (.invokevirtual 53, 3) := by decide +kernel
theorem dX3_moveBallBy_81 : decode cX3_moveBallBy 81 = .ok (.iinc 3 1, 3) := by decide +kernel
theorem dX3_moveBallBy_84 : decode cX3_moveBallBy 84 = .ok (.goto (-71), 3) := by decide +kernel
theorem dX3_moveBallBy_87 : decode cX3_moveBallBy 87 = .ok (.iload_n 2, 1) := by decide +kernel
theorem dX3_moveBallBy_88 : decode cX3_moveBallBy 88 = .ok (.ifCond .eq 27, 3) := by decide +kernel
theorem dX3_moveBallBy_91 : decode cX3_moveBallBy 91 = .ok (.aload_n 0, 1) := by decide +kernel
theorem dX3_moveBallBy_92 : decode cX3_moveBallBy 92 = .ok (.getfield 15, 3) := by decide +kernel
theorem dX3_moveBallBy_95 : decode cX3_moveBallBy 95 = .ok (.ifCond .ne 20, 3) := by decide +kernel
theorem dX3_moveBallBy_98 : decode cX3_moveBallBy 98 = .ok (.aload_n 0, 1) := by decide +kernel
theorem dX3_moveBallBy_99 : decode cX3_moveBallBy 99 = .ok (.dup, 1) := by decide +kernel
theorem dX3_moveBallBy_100 : decode cX3_moveBallBy 100 = .ok (.getfield 24, 3) := by decide +kernel
theorem dX3_moveBallBy_103 : decode cX3_moveBallBy 103 = .ok (.iconst 1, 1) := by decide +kernel
theorem dX3_moveBallBy_104 : decode cX3_moveBallBy 104 = .ok (.iadd, 1) := by decide +kernel
theorem dX3_moveBallBy_105 : decode cX3_moveBallBy 105 = .ok (.putfield 24, 3) := by decide +kernel
theorem dX3_moveBallBy_108 : decode cX3_moveBallBy 108 = .ok (.aload_n 0, 1) := by decide +kernel
theorem dX3_moveBallBy_109 : decode cX3_moveBallBy 109 = .ok (.invokevirtual 69, 3) := by decide +kernel
theorem dX3_moveBallBy_112 : decode cX3_moveBallBy 112 = .ok (.goto 11, 3) := by decide +kernel
theorem dX3_moveBallBy_115 : decode cX3_moveBallBy 115 = .ok (.iload_n 2, 1) := by decide +kernel
theorem dX3_moveBallBy_116 : decode cX3_moveBallBy 116 = .ok (.ifCond .eq 7, 3) := by decide +kernel
theorem dX3_moveBallBy_119 : decode cX3_moveBallBy 119 = .ok (.aload_n 0, 1) := by decide +kernel
theorem dX3_moveBallBy_120 : decode cX3_moveBallBy 120 = .ok (.invokevirtual 57, 3) := by decide +kernel
theorem dX3_moveBallBy_123 : decode cX3_moveBallBy 123 = .ok (.return_, 1) := by decide +kernel
theorem dX3_turnOver_0 : decode cX3_turnOver 0 = .ok (.aload_n 0, 1) := by decide +kernel
theorem dX3_turnOver_1 : decode cX3_turnOver 1 = .ok (.getfield 35, 3) := by decide +kernel
theorem dX3_turnOver_4 : decode cX3_turnOver 4 = .ok (.astore_n 1, 1) := by decide +kernel
theorem dX3_turnOver_5 : decode cX3_turnOver 5 = .ok (.aload_n 0, 1) := by decide +kernel
theorem dX3_turnOver_6 : decode cX3_turnOver 6 = .ok (.aload_n 0, 1) := by decide +kernel
theorem dX3_turnOver_7 : decode cX3_turnOver 7 = .ok (.getfield 31, 3) := by decide +kernel
theorem dX3_turnOver_10 : decode cX3_turnOver 10 = .ok (.putfield 35, 3) := by decide +kernel
theorem dX3_turnOver_13 : decode cX3_turnOver 13 = .ok (.aload_n 0, 1) := by decide +kernel
theorem dX3_turnOver_14 : decode cX3_turnOver 14 = .ok (.aload_n 0, 1) := by decide +kernel
theorem dX3_turnOver_15 : decode cX3_turnOver 15 = .ok (.getfield 15, 3) := by decide +kernel
theorem dX3_turnOver_18 : decode cX3_turnOver 18 = .ok (.putfield 18, 3) := by decide +kernel
theorem dX3_turnOver_21 : decode cX3_turnOver 21 = .ok (.aload_n 0, 1) := by decide +kernel
theorem dX3_turnOver_22 : decode cX3_turnOver 22 = .ok (.aload_n 1, 1) := by decide +kernel
theorem dX3_turnOver_23 : decode cX3_turnOver 23 = .ok (.putfield 31, 3) := by decide +kernel
theorem dX3_turnOver_26 : decode cX3_turnOver 26 = .ok (.aload_n 0, 1) := by decide +kernel
theorem dX3_turnOver_27 : decode cX3_turnOver 27 = .ok (.iconst 0, 1) := by decide +kernel
theorem dX3_turnOver_28 : decode cX3_turnOver 28 = .ok (.putfield 15, 3) := by decide +kernel
theorem dX3_turnOver_31 : decode cX3_turnOver 31 = .ok (.aload_n 0, 1) := by decide +kernel
theorem dX3_turnOver_32 : decode cX3_turnOver 32 = .ok (.dup, 1) := by decide +kernel
theorem dX3_turnOver_33 : decode cX3_turnOver 33 = .ok (.getfield 11, 3) := by decide +kernel
theorem dX3_turnOver_36 : decode cX3_turnOver 36 = .ok (.iconst 1, 1) := by decide +kernel
theorem dX3_turnOver_37 : decode cX3_turnOver 37 = .ok (.iadd, 1) := by decide +kernel
theorem dX3_turnOver_38 : decode cX3_turnOver 38 = .ok (.putfield 11, 3) := by decide +kernel
theorem dX3_turnOver_41 : decode cX3_turnOver 41 = .ok (.return_, 1) := by decide +kernel
theorem dX3_put_0 : decode cX3_put 0 = .ok (.iload_n 1, 1) := by decide +kernel
theorem dX3_put_1 : decode cX3_put 1 = .ok (.ifCond .lt 67, 3) := by decide +kernel
theorem dX3_put_4 : decode cX3_put 4 = .ok (.iload_n 1, 1) := by decide +kernel
theorem dX3_put_5 : decode cX3_put 5 = .ok (.aload_n 0, 1) := by decide +kernel
theorem dX3_put_6 : decode cX3_put 6 = .ok (.getfield 38, 3) := by decide +kernel
theorem dX3_put_9 : decode cX3_put 9 = .ok (.arraylength, 1) := by decide +kernel
theorem dX3_put_10 : decode cX3_put 10 = .ok (.if_icmp .ge 58, 3) := by decide +kernel
theorem dX3_put_13 : decode cX3_put 13 = .ok (.aload_n 0, 1) := by decide +kernel
theorem dX3_put_14 : decode cX3_put 14 = .ok (.getfield 38, 3) := by decide +kernel
theorem dX3_put_17 : decode cX3_put 17 = .ok (.iload_n 1, 1) := by decide +kernel
theorem dX3_put_18 : decode cX3_put 18 = .ok (.iaload, 1) := by decide +kernel
theorem dX3_put_19 : decode cX3_put 19 = .ok (.aload_n 0, 1) := by decide +kernel
theorem dX3_put_20 : decode cX3_put 20 = .ok (.getfield 11, 3) := by decide +kernel
theorem dX3_put_23 : decode cX3_put 23 = .ok (.if_icmp .eq 45, 3) := by decide +kernel
theorem dX3_put_26 : decode cX3_put 26 = .ok (.aload_n 0, 1) := by decide +kernel
theorem dX3_put_27 : decode cX3_put 27 = .ok (.getfield 15, 3) := by decide +kernel
theorem dX3_put_30 : decode cX3_put 30 = .ok (.aload_n 0, 1) := by decide +kernel
theorem dX3_put_31 : decode cX3_put 31 = .ok (.getfield 31, 3) := by decide +kernel
theorem dX3_put_34 : decode cX3_put 34 = .ok (.arraylength, 1) := by decide +kernel
theorem dX3_put_35 : decode cX3_put 35 = .ok (.if_icmp .ge 33, 3) := by decide +kernel
theorem dX3_put_38 : decode cX3_put 38 = .ok (.aload_n 0, 1) := by decide +kernel
theorem dX3_put_39 : decode cX3_put 39 = .ok (.getfield 38, 3) := by decide +kernel
theorem dX3_put_42 : decode cX3_put 42 = .ok (.iload_n 1, 1) := by decide +kernel
theorem dX3_put_43 : decode cX3_put 43 = .ok (.aload_n 0, 1) := by decide +kernel
theorem dX3_put_44 : decode cX3_put 44 = .ok (.getfield 11, 3) := by decide +kernel
theorem dX3_put_47 : decode cX3_put 47 = .ok (.iastore, 1) := by decide +kernel
theorem dX3_put_48 : decode cX3_put 48 = .ok (.aload_n 0, 1) := by decide +kernel
theorem dX3_put_49 : decode cX3_put 49 = .ok (.getfield 31, 3) := by decide +kernel
theorem dX3_put_52 : decode cX3_put 52 = .ok (.aload_n 0, 1) := by decide +kernel
theorem dX3_put_53 : decode cX3_put 53 = .ok (.getfield 15, 3) := by decide +kernel
theorem dX3_put_56 : decode cX3_put 56 = .ok (.iload_n 1, 1) := by decide +kernel
theorem dX3_put_57 : decode cX3_put 57 = .ok (.iastore, 1) := by decide +kernel
theorem dX3_put_58 : decode cX3_put 58 = .ok (.aload_n 0, 1) := by decide +kernel
theorem dX3_put_59 : decode cX3_put 59 = .ok (.dup, 1) := by decide +kernel
theorem dX3_put_60 : decode cX3_put 60 = .ok (.getfield 15, 3) := by decide +kernel
theorem dX3_put_63 : decode cX3_put 63 = .ok (.iconst 1, 1) := by decide +kernel
theorem dX3_put_64 : decode cX3_put 64 = .ok (.iadd, 1) := by decide +kernel
theorem dX3_put_65 : decode cX3_put 65 = .ok (.putfield 15, 3) := by decide +kernel
theorem dX3_put_68 : decode cX3_put 68 = .ok (.return_, 1) := by decide +kernel
theorem dX3_moveAll_0 : decode cX3_moveAll 0 = .ok (.iconst 0, 1) := by decide +kernel
theorem dX3_moveAll_1 : decode cX3_moveAll 1 = .ok (.istore_n 3, 1) := by decide +kernel
theorem dX3_moveAll_2 : decode cX3_moveAll 2 = .ok (.iload_n 3, 1) := by decide +kernel
theorem dX3_moveAll_3 : decode cX3_moveAll 3 = .ok (.aload_n 0, 1) := by decide +kernel
theorem dX3_moveAll_4 : decode cX3_moveAll 4 = .ok (.getfield 18, 3) := by decide +kernel
theorem dX3_moveAll_7 : decode cX3_moveAll 7 = .ok (.if_icmp .ge 33, 3) := by decide +kernel
theorem dX3_moveAll_10 : decode cX3_moveAll 10 = .ok (.iload_n 3, 1) := by decide +kernel
theorem dX3_moveAll_11 : decode cX3_moveAll 11 = .ok (.aload_n 0, 1) := by decide +kernel
theorem dX3_moveAll_12 : decode cX3_moveAll 12 = .ok (.getfield 35, 3) := by decide +kernel
theorem dX3_moveAll_15 : decode cX3_moveAll 15 = .ok (.arraylength, 1) := by decide +kernel
theorem dX3_moveAll_16 : decode cX3_moveAll 16 = .ok (.if_icmp .ge 24, 3) := by decide +kernel
theorem dX3_moveAll_19 : decode cX3_moveAll 19 = .ok (.aload_n 0, 1) := by decide +kernel
theorem dX3_moveAll_20 : decode cX3_moveAll 20 = .ok (.aload_n 0, 1) := by decide +kernel
theorem dX3_moveAll_21 : decode cX3_moveAll 21 = .ok (.getfield 35, 3) := by decide +kernel
theorem dX3_moveAll_24 : decode cX3_moveAll 24 = .ok (.iload_n 3, 1) := by decide +kernel
theorem dX3_moveAll_25 : decode cX3_moveAll 25 = .ok (.iaload, 1) := by decide +kernel
theorem dX3_moveAll_26 : decode cX3_moveAll 26 = .ok (.iload_n 1, 1) := by decide +kernel
theorem dX3_moveAll_27 : decode cX3_moveAll 27 = .ok (.iload_n 2, 1) := by decide +kernel
theorem dX3_moveAll_28 : decode cX3_moveAll 28 = .ok (.invokestatic 72, 3) := by decide +kernel
theorem dX3_moveAll_31 : decode cX3_moveAll 31 = .ok (.invokevirtual 49, 3) := by decide +kernel
theorem dX3_moveAll_34 : decode cX3_moveAll 34 = .ok (.iinc 3 1, 3) := by decide +kernel
theorem dX3_moveAll_37 : decode cX3_moveAll 37 = .ok (.goto (-35), 3) := by decide +kernel
theorem dX3_moveAll_40 : decode cX3_moveAll 40 = .ok (.return_, 1) := by decide +kernel
theorem dX3_spread_0 : decode cX3_spread 0 = .ok (.iconst 0, 1) := by decide +kernel
theorem dX3_spread_1 : decode cX3_spread 1 = .ok (.istore_n 1, 1) := by decide +kernel
theorem dX3_spread_2 : decode cX3_spread 2 = .ok (.iload_n 1, 1) := by decide +kernel
theorem dX3_spread_3 : decode cX3_spread 3 = .ok (.aload_n 0, 1) := by decide +kernel
theorem dX3_spread_4 : decode cX3_spread 4 = .ok (.getfield 15, 3) := by decide +kernel
theorem dX3_spread_7 : decode cX3_spread 7 = .ok (.if_icmp .ge 93, 3) := by decide +kernel
theorem dX3_spread_10 : decode cX3_spread 10 = .ok (.iload_n 1, 1) := by decide +kernel
theorem dX3_spread_11 : decode cX3_spread 11 = .ok (.aload_n 0, 1) := by decide +kernel
theorem dX3_spread_12 : decode cX3_spread 12 = .ok (.getfield 31, 3) := by decide +kernel
theorem dX3_spread_15 : decode cX3_spread 15 = .ok (.arraylength, 1) := by decide +kernel
theorem dX3_spread_16 : decode cX3_spread 16 = .ok (.if_icmp .ge 84, 3) := by decide +kernel
theorem dX3_spread_19 : decode cX3_spread 19 = .ok (.iconst 0, 1) := by decide +kernel
theorem dX3_spread_20 : decode cX3_spread 20 = .ok (.istore_n 2, 1) := by decide +kernel
theorem dX3_spread_21 : decode cX3_spread 21 = .ok (.iload_n 2, 1) := by decide +kernel
theorem dX3_spread_22 : decode cX3_spread 22 = .ok (.aload_n 0, 1) := by decide +kernel
theorem dX3_spread_23 : decode cX3_spread 23 = .ok (.getfield 27, 3) := by decide +kernel
theorem dX3_spread_26 : decode cX3_spread 26 = .ok (.getfield 44, 3) := by decide +kernel
theorem dX3_spread_29 : decode cX3_spread 29 = .ok (.iconst 5, 1) := by decide +kernel
theorem dX3_spread_30 : decode cX3_spread 30 = .ok (.iaload, 1) := by decide +kernel
theorem dX3_spread_31 : decode cX3_spread 31 = .ok (.if_icmp .ge 63, 3) := by decide +kernel
theorem dX3_spread_34 : decode cX3_spread 34 = .ok (.iload_n 2, 1) := by decide +kernel
theorem dX3_spread_35 : decode cX3_spread 35 = .ok (.bipush 24, 2) := by decide +kernel
theorem dX3_spread_37 : decode cX3_spread 37 = .ok (.if_icmp .ge 57, 3) := by decide +kernel
theorem dX3_spread_40 : decode cX3_spread 40 = .ok (.aload_n 0, 1) := by decide +kernel
theorem dX3_spread_41 : decode cX3_spread 41 = .ok (.getfield 27, 3) := by decide +kernel
theorem dX3_spread_44 : decode cX3_spread 44 = .ok (.getfield 60, 3) := by decide +kernel
theorem dX3_spread_47 : decode cX3_spread 47 = .ok (.iload_n 2, 1) := by decide +kernel
theorem dX3_spread_48 : decode cX3_spread 48 = .ok (.iaload, 1) := by decide +kernel
theorem dX3_spread_49 : decode cX3_spread 49 = .ok (.iconst (-1), 1) := by decide +kernel
theorem dX3_spread_50 : decode cX3_spread 50 = .ok (.if_icmp .ne 38, 3) := by decide +kernel
theorem dX3_spread_53 : decode cX3_spread 53 = .ok (.aload_n 0, 1) := by decide +kernel
theorem dX3_spread_54 : decode cX3_spread 54 = .ok (.aload_n 0, 1) := by decide +kernel
theorem dX3_spread_55 : decode cX3_spread 55 = .ok (.getfield 31, 3) := by decide +kernel
theorem dX3_spread_58 : decode cX3_spread 58 = .ok (.iload_n 1, 1) := by decide +kernel
theorem dX3_spread_59 : decode cX3_spread 59 = .ok (.iaload, 1) := by decide +kernel
theorem dX3_spread_60 : decode cX3_spread 60 = .ok (.aload_n 0, 1) := by decide +kernel
theorem dX3_spread_61 : decode cX3_spread 61 = .ok (.getfield 27, 3) := by decide +kernel
theorem dX3_spread_64 : decode cX3_spread 64 = .ok (.getfield 63, 3) := by decide +kernel
theorem dX3_spread_67 : decode cX3_spread 67 = .ok (.iload_n 2, 1) := by decide +kernel
theorem dX3_spread_68 : decode cX3_spread 68 = .ok (.iaload, 1) := by decide +kernel
theorem dX3_spread_69 : decode cX3_spread 69 = .ok (.iconst 1, 1) := by decide +kernel
theorem dX3_spread_70 : decode cX3_spread 70 = .ok (.iadd, 1) := by decide +kernel
theorem dX3_spread_71 : decode cX3_spread 71 = .ok (.aload_n 0, 1) := by decide +kernel
theorem dX3_spread_72 : decode cX3_spread 72 = .ok (.getfield 27, 3) := by decide +kernel
theorem dX3_spread_75 : decode cX3_spread 75 = .ok (.getfield 66, 3) := by decide +kernel
theorem dX3_spread_78 : decode cX3_spread 78 = .ok (.iload_n 2, 1) := by decide +kernel
theorem dX3_spread_79 : decode cX3_spread 79 = .ok (.iaload, 1) := by decide +kernel
theorem dX3_spread_80 : decode cX3_spread 80 = .ok (.iconst 1, 1) := by decide +kernel
theorem dX3_spread_81 : decode cX3_spread 81 = .ok (.iadd, 1) := by decide +kernel
theorem dX3_spread_82 : decode cX3_spread 82 = .ok (.invokestatic 72, 3) := by decide +kernel
theorem dX3_spread_85 : decode cX3_spread 85 = .ok (.invokevirtual 49, 3) := by decide +kernel
theorem dX3_spread_88 : decode cX3_spread 88 = .ok (.iinc 2 1, 3) := by decide +kernel
theorem dX3_spread_91 : decode cX3_spread 91 = .ok (.goto (-70), 3) := by decide +kernel
theorem dX3_spread_94 : decode cX3_spread 94 = .ok (.iinc 1 1, 3) := by decide +kernel
theorem dX3_spread_97 : decode cX3_spread 97 = .ok (.goto (-95), 3) := by decide +kernel
theorem dX3_spread_100 : decode cX3_spread 100 = .ok (.return_, 1) := by decide +kernel
theorem dX3_putAll_0 : decode cX3_putAll 0 = .ok (.iconst 0, 1) := by decide +kernel
theorem dX3_putAll_1 : decode cX3_putAll 1 = .ok (.istore_n 1, 1) := by decide +kernel
theorem dX3_putAll_2 : decode cX3_putAll 2 = .ok (.iload_n 1, 1) := by decide +kernel
theorem dX3_putAll_3 : decode cX3_putAll 3 = .ok (.sipush 729, 3) := by decide +kernel
theorem dX3_putAll_6 : decode cX3_putAll 6 = .ok (.if_icmp .ge 98, 3) := by decide +kernel
theorem dX3_putAll_9 : decode cX3_putAll 9 = .ok (.iload_n 1, 1) := by decide +kernel
theorem dX3_putAll_10 : decode cX3_putAll 10 = .ok (.bipush 81, 2) := by decide +kernel
theorem dX3_putAll_12 : decode cX3_putAll 12 = .ok (.idiv, 1) := by decide +kernel
theorem dX3_putAll_13 : decode cX3_putAll 13 = .ok (.istore_n 2, 1) := by decide +kernel
theorem dX3_putAll_14 : decode cX3_putAll 14 = .ok (.iload_n 1, 1) := by decide +kernel
theorem dX3_putAll_15 : decode cX3_putAll 15 = .ok (.bipush 9, 2) := by decide +kernel
theorem dX3_putAll_17 : decode cX3_putAll 17 = .ok (.idiv, 1) := by decide +kernel
theorem dX3_putAll_18 : decode cX3_putAll 18 = .ok (.bipush 9, 2) := by decide +kernel
theorem dX3_putAll_20 : decode cX3_putAll 20 = .ok (.irem, 1) := by decide +kernel
theorem dX3_putAll_21 : decode cX3_putAll 21 = .ok (.istore_n 3, 1) := by decide +kernel
theorem dX3_putAll_22 : decode cX3_putAll 22 = .ok (.iload_n 1, 1) := by decide +kernel
theorem dX3_putAll_23 : decode cX3_putAll 23 = .ok (.bipush 9, 2) := by decide +kernel
theorem dX3_putAll_25 : decode cX3_putAll 25 = .ok (.irem, 1) := by decide +kernel
theorem dX3_putAll_26 : decode cX3_putAll 26 = .ok (.istore 4, 2) := by decide +kernel
theorem dX3_putAll_28 : decode cX3_putAll 28 = .ok (.iload_n 2, 1) := by decide +kernel
theorem dX3_putAll_29 : decode cX3_putAll 29 = .ok (.ifCond .le 7, 3) := by decide +kernel
theorem dX3_putAll_32 : decode cX3_putAll 32 = .ok (.iconst 1, 1) := by decide +kernel
theorem dX3_putAll_33 : decode cX3_putAll 33 = .ok (.goto 4, 3) := by decide +kernel
theorem dX3_putAll_36 : decode cX3_putAll 36 = .ok (.iconst 0, 1) := by decide +kernel
theorem dX3_putAll_37 : decode cX3_putAll 37 = .ok (.iload_n 3, 1) := by decide +kernel
theorem dX3_putAll_38 : decode cX3_putAll 38 = .ok (.ifCond .le 7, 3) := by decide +kernel
theorem dX3_putAll_41 : decode cX3_putAll 41 = .ok (.iconst 1, 1) := by decide +kernel
theorem dX3_putAll_42 : decode cX3_putAll 42 = .ok (.goto 4, 3) := by decide +kernel
theorem dX3_putAll_45 : decode cX3_putAll 45 = .ok (.iconst 0, 1) := by decide +kernel
theorem dX3_putAll_46 : decode cX3_putAll 46 = .ok (.iadd, 1) := by decide +kernel
theorem dX3_putAll_47 : decode cX3_putAll 47 = .ok (.iload 4, 2) := by decide +kernel
theorem dX3_putAll_49 : decode cX3_putAll 49 = .ok (.ifCond .le 7, 3) := by decide +kernel
theorem dX3_putAll_52 : decode cX3_putAll 52 = .ok (.iconst 1, 1) := by decide +kernel
theorem dX3_putAll_53 : decode cX3_putAll 53 = .ok (.goto 4, 3) := by decide +kernel
theorem dX3_putAll_56 : decode cX3_putAll 56 = .ok (.iconst 0, 1) := by decide +kernel
theorem dX3_putAll_57 : decode cX3_putAll 57 = .ok (.iadd, 1) := by decide +kernel
theorem dX3_putAll_58 : decode cX3_putAll 58 = .ok (.istore 5, 2) := by decide +kernel
theorem dX3_putAll_60 : decode cX3_putAll 60 = .ok (.iload_n 2, 1) := by decide +kernel
theorem dX3_putAll_61 : decode cX3_putAll 61 = .ok (.aload_n 0, 1) := by decide +kernel
theorem dX3_putAll_62 : decode cX3_putAll 62 = .ok (.getfield 27, 3) := by decide +kernel
theorem dX3_putAll_65 : decode cX3_putAll 65 = .ok (.getfield 44, 3) := by decide +kernel
theorem dX3_putAll_68 : decode cX3_putAll 68 = .ok (.iconst 4, 1) := by decide +kernel
theorem dX3_putAll_69 : decode cX3_putAll 69 = .ok (.iaload, 1) := by decide +kernel
theorem dX3_putAll_70 : decode cX3_putAll 70 = .ok (.if_icmp .gt 28, 3) := by decide +kernel
theorem dX3_putAll_73 : decode cX3_putAll 73 = .ok (.iload_n 2, 1) := by decide +kernel
theorem dX3_putAll_74 : decode cX3_putAll 74 = .ok (.iload_n 3, 1) := by decide +kernel
theorem dX3_putAll_75 : decode cX3_putAll 75 = .ok (.if_icmp .lt 23, 3) := by decide +kernel
theorem dX3_putAll_78 : decode cX3_putAll 78 = .ok (.iload_n 3, 1) := by decide +kernel
theorem dX3_putAll_79 : decode cX3_putAll 79 = .ok (.iload 4, 2) := by decide +kernel
theorem dX3_putAll_81 : decode cX3_putAll 81 = .ok (.if_icmp .lt 17, 3) := by decide +kernel
theorem dX3_putAll_84 : decode cX3_putAll 84 = .ok (.iload 5, 2) := by decide +kernel
theorem dX3_putAll_86 : decode cX3_putAll 86 = .ok (.aload_n 0, 1) := by decide +kernel
theorem dX3_putAll_87 : decode cX3_putAll 87 = .ok (.getfield 21, 3) := by decide +kernel
theorem dX3_putAll_90 : decode cX3_putAll 90 = .ok (.if_icmp .ne 8, 3) := by decide +kernel
theorem dX3_putAll_93 : decode cX3_putAll 93 = .ok (.aload_n 0, 1) := by decide +kernel
theorem dX3_putAll_94 : decode cX3_putAll 94 = .ok (.iload_n 1, 1) := by decide +kernel
theorem dX3_putAll_95 : decode cX3_putAll 95 = .ok (.invokevirtual 49, 3) := by decide +kernel
theorem dX3_putAll_98 : decode cX3_putAll 98 = .ok (.iinc 1 1, 3) := by decide +kernel
theorem dX3_putAll_101 : decode cX3_putAll 101 = .ok (.goto (-99), 3) := by decide +kernel
theorem dX3_putAll_104 : decode cX3_putAll 104 = .ok (.return_, 1) := by decide +kernel
theorem dX3_moved_0 : decode cX3_moved 0 = .ok (.iload_n 0, 1) := by decide +kernel
theorem dX3_moved_1 : decode cX3_moved 1 = .ok (.bipush 81, 2) := by decide +kernel
theorem dX3_moved_3 : decode cX3_moved 3 = .ok (.idiv, 1) := by decide +kernel
theorem dX3_moved_4 : decode cX3_moved 4 = .ok (.istore_n 3, 1) := by decide +kernel
theorem dX3_moved_5 : decode cX3_moved 5 = .ok (.iload_n 0, 1) := by decide +kernel
theorem dX3_moved_6 : decode cX3_moved 6 = .ok (.bipush 9, 2) := by decide +kernel
theorem dX3_moved_8 : decode cX3_moved 8 = .ok (.idiv, 1) := by decide +kernel
theorem dX3_moved_9 : decode cX3_moved 9 = .ok (.bipush 9, 2) := by decide +kernel
theorem dX3_moved_11 : decode cX3_moved 11 = .ok (.irem, 1) := by decide +kernel
theorem dX3_moved_12 : decode cX3_moved 12 = .ok (.istore 4, 2) := by decide +kernel
theorem dX3_moved_14 : decode cX3_moved 14 = .ok (.iload_n 0, 1) := by decide +kernel
theorem dX3_moved_15 : decode cX3_moved 15 = .ok (.bipush 9, 2) := by decide +kernel
theorem dX3_moved_17 : decode cX3_moved 17 = .ok (.irem, 1) := by decide +kernel
theorem dX3_moved_18 : decode cX3_moved 18 = .ok (.istore 5, 2) := by decide +kernel
theorem dX3_moved_20 : decode cX3_moved 20 = .ok (.iload_n 3, 1) := by decide +kernel
theorem dX3_moved_21 : decode cX3_moved 21 = .ok (.iload_n 1, 1) := by decide +kernel
theorem dX3_moved_22 : decode cX3_moved 22 = .ok (.if_icmp .ne 8, 3) := by decide +kernel
theorem dX3_moved_25 : decode cX3_moved 25 = .ok (.iload_n 2, 1) := by decide +kernel
theorem dX3_moved_26 : decode cX3_moved 26 = .ok (.istore_n 3, 1) := by decide +kernel
theorem dX3_moved_27 : decode cX3_moved 27 = .ok (.goto 29, 3) := by decide +kernel
theorem dX3_moved_30 : decode cX3_moved 30 = .ok (.iload 4, 2) := by decide +kernel
theorem dX3_moved_32 : decode cX3_moved 32 = .ok (.iload_n 1, 1) := by decide +kernel
theorem dX3_moved_33 : decode cX3_moved 33 = .ok (.if_icmp .ne 9, 3) := by decide +kernel
theorem dX3_moved_36 : decode cX3_moved 36 = .ok (.iload_n 2, 1) := by decide +kernel
theorem dX3_moved_37 : decode cX3_moved 37 = .ok (.istore 4, 2) := by decide +kernel
theorem dX3_moved_39 : decode cX3_moved 39 = .ok (.goto 17, 3) := by decide +kernel
theorem dX3_moved_42 : decode cX3_moved 42 = .ok (.iload 5, 2) := by decide +kernel
theorem dX3_moved_44 : decode cX3_moved 44 = .ok (.iload_n 1, 1) := by decide +kernel
theorem dX3_moved_45 : decode cX3_moved 45 = .ok (.if_icmp .ne 9, 3) := by decide +kernel
theorem dX3_moved_48 : decode cX3_moved 48 = .ok (.iload_n 2, 1) := by decide +kernel
theorem dX3_moved_49 : decode cX3_moved 49 = .ok (.istore 5, 2) := by decide +kernel
theorem dX3_moved_51 : decode cX3_moved 51 = .ok (.goto 5, 3) := by decide +kernel
theorem dX3_moved_54 : decode cX3_moved 54 = .ok (.iconst (-1), 1) := by decide +kernel
theorem dX3_moved_55 : decode cX3_moved 55 = .ok (.ireturn, 1) := by decide +kernel
theorem dX3_moved_56 : decode cX3_moved 56 = .ok (.iload_n 3, 1) := by decide +kernel
theorem dX3_moved_57 : decode cX3_moved 57 = .ok (.iload 4, 2) := by decide +kernel
theorem dX3_moved_59 : decode cX3_moved 59 = .ok (.iload 5, 2) := by decide +kernel
theorem dX3_moved_61 : decode cX3_moved 61 = .ok (.invokestatic 76, 3) := by decide +kernel
theorem dX3_moved_64 : decode cX3_moved 64 = .ok (.invokestatic 76, 3) := by decide +kernel
theorem dX3_moved_67 : decode cX3_moved 67 = .ok (.istore 6, 2) := by decide +kernel
theorem dX3_moved_69 : decode cX3_moved 69 = .ok (.iload_n 3, 1) := by decide +kernel
theorem dX3_moved_70 : decode cX3_moved 70 = .ok (.iload 4, 2) := by decide +kernel
theorem dX3_moved_72 : decode cX3_moved 72 = .ok (.iload 5, 2) := by decide +kernel
theorem dX3_moved_74 : decode cX3_moved 74 = .ok (.invokestatic 82, 3) := by decide +kernel
theorem dX3_moved_77 : decode cX3_moved 77 = .ok (.invokestatic 82, 3) := by decide +kernel
theorem dX3_moved_80 : decode cX3_moved 80 = .ok (.istore 7, 2) := by decide +kernel
theorem dX3_moved_82 : decode cX3_moved 82 = .ok (.iload 6, 2) := by decide +kernel
theorem dX3_moved_84 : decode cX3_moved 84 = .ok (.bipush 9, 2) := by decide +kernel
theorem dX3_moved_86 : decode cX3_moved 86 = .ok (.imul, 1) := by decide +kernel
theorem dX3_moved_87 : decode cX3_moved 87 = .ok (.iload_n 3, 1) := by decide +kernel
theorem dX3_moved_88 : decode cX3_moved 88 = .ok (.iload 4, 2) := by decide +kernel
theorem dX3_moved_90 : decode cX3_moved 90 = .ok (.iadd, 1) := by decide +kernel
theorem dX3_moved_91 : decode cX3_moved 91 = .ok (.iload 5, 2) := by decide +kernel
theorem dX3_moved_93 : decode cX3_moved 93 = .ok (.iadd, 1) := by decide +kernel
theorem dX3_moved_94 : decode cX3_moved 94 = .ok (.iload 6, 2) := by decide +kernel
theorem dX3_moved_96 : decode cX3_moved 96 = .ok (.isub, 1) := by decide +kernel
theorem dX3_moved_97 : decode cX3_moved 97 = .ok (.iload 7, 2) := by decide +kernel
theorem dX3_moved_99 : decode cX3_moved 99 = .ok (.isub, 1) := by decide +kernel
theorem dX3_moved_100 : decode cX3_moved 100 = .ok (.iadd, 1) := by decide +kernel
theorem dX3_moved_101 : decode cX3_moved 101 = .ok (.bipush 9, 2) := by decide +kernel
theorem dX3_moved_103 : decode cX3_moved 103 = .ok (.imul, 1) := by decide +kernel
theorem dX3_moved_104 : decode cX3_moved 104 = .ok (.iload 7, 2) := by decide +kernel
theorem dX3_moved_106 : decode cX3_moved 106 = .ok (.iadd, 1) := by decide +kernel
theorem dX3_moved_107 : decode cX3_moved 107 = .ok (.ireturn, 1) := by decide +kernel
theorem dX3_ballsAt_0 : decode cX3_ballsAt 0 = .ok (.iload_n 1, 1) := by decide +kernel
theorem dX3_ballsAt_1 : decode cX3_ballsAt 1 = .ok (.iconst 1, 1) := by decide +kernel
theorem dX3_ballsAt_2 : decode cX3_ballsAt 2 = .ok (.iadd, 1) := by decide +kernel
theorem dX3_ballsAt_3 : decode cX3_ballsAt 3 = .ok (.istore_n 2, 1) := by decide +kernel
theorem dX3_ballsAt_4 : decode cX3_ballsAt 4 = .ok (.iload_n 0, 1) := by decide +kernel
theorem dX3_ballsAt_5 : decode cX3_ballsAt 5 = .ok (.bipush 81, 2) := by decide +kernel
theorem dX3_ballsAt_7 : decode cX3_ballsAt 7 = .ok (.idiv, 1) := by decide +kernel
theorem dX3_ballsAt_8 : decode cX3_ballsAt 8 = .ok (.iload_n 2, 1) := by decide +kernel
theorem dX3_ballsAt_9 : decode cX3_ballsAt 9 = .ok (.if_icmp .ne 7, 3) := by decide +kernel
theorem dX3_ballsAt_12 : decode cX3_ballsAt 12 = .ok (.iconst 1, 1) := by decide +kernel
theorem dX3_ballsAt_13 : decode cX3_ballsAt 13 = .ok (.goto 4, 3) := by decide +kernel
theorem dX3_ballsAt_16 : decode cX3_ballsAt 16 = .ok (.iconst 0, 1) := by decide +kernel
theorem dX3_ballsAt_17 : decode cX3_ballsAt 17 = .ok (.iload_n 0, 1) := by decide +kernel
theorem dX3_ballsAt_18 : decode cX3_ballsAt 18 = .ok (.bipush 9, 2) := by decide +kernel
theorem dX3_ballsAt_20 : decode cX3_ballsAt 20 = .ok (.idiv, 1) := by decide +kernel
theorem dX3_ballsAt_21 : decode cX3_ballsAt 21 = .ok (.bipush 9, 2) := by decide +kernel
theorem dX3_ballsAt_23 : decode cX3_ballsAt 23 = .ok (.irem, 1) := by decide +kernel
theorem dX3_ballsAt_24 : decode cX3_ballsAt 24 = .ok (.iload_n 2, 1) := by decide +kernel
theorem dX3_ballsAt_25 : decode cX3_ballsAt 25 = .ok (.if_icmp .ne 7, 3) := by decide +kernel
theorem dX3_ballsAt_28 : decode cX3_ballsAt 28 = .ok (.iconst 1, 1) := by decide +kernel
theorem dX3_ballsAt_29 : decode cX3_ballsAt 29 = .ok (.goto 4, 3) := by decide +kernel
theorem dX3_ballsAt_32 : decode cX3_ballsAt 32 = .ok (.iconst 0, 1) := by decide +kernel
theorem dX3_ballsAt_33 : decode cX3_ballsAt 33 = .ok (.iadd, 1) := by decide +kernel
theorem dX3_ballsAt_34 : decode cX3_ballsAt 34 = .ok (.iload_n 0, 1) := by decide +kernel
theorem dX3_ballsAt_35 : decode cX3_ballsAt 35 = .ok (.bipush 9, 2) := by decide +kernel
theorem dX3_ballsAt_37 : decode cX3_ballsAt 37 = .ok (.irem, 1) := by decide +kernel
theorem dX3_ballsAt_38 : decode cX3_ballsAt 38 = .ok (.iload_n 2, 1) := by decide +kernel
theorem dX3_ballsAt_39 : decode cX3_ballsAt 39 = .ok (.if_icmp .ne 7, 3) := by decide +kernel
theorem dX3_ballsAt_42 : decode cX3_ballsAt 42 = .ok (.iconst 1, 1) := by decide +kernel
theorem dX3_ballsAt_43 : decode cX3_ballsAt 43 = .ok (.goto 4, 3) := by decide +kernel
theorem dX3_ballsAt_46 : decode cX3_ballsAt 46 = .ok (.iconst 0, 1) := by decide +kernel
theorem dX3_ballsAt_47 : decode cX3_ballsAt 47 = .ok (.iadd, 1) := by decide +kernel
theorem dX3_ballsAt_48 : decode cX3_ballsAt 48 = .ok (.ireturn, 1) := by decide +kernel
theorem dX3_mostAt_0 : decode cX3_mostAt 0 = .ok (.iconst 0, 1) := by decide +kernel
theorem dX3_mostAt_1 : decode cX3_mostAt 1 = .ok (.istore_n 2, 1) := by decide +kernel
theorem dX3_mostAt_2 : decode cX3_mostAt 2 = .ok (.iconst 0, 1) := by decide +kernel
theorem dX3_mostAt_3 : decode cX3_mostAt 3 = .ok (.istore_n 3, 1) := by decide +kernel
theorem dX3_mostAt_4 : decode cX3_mostAt 4 = .ok (.iload_n 3, 1) := by decide +kernel
theorem dX3_mostAt_5 : decode cX3_mostAt 5 = .ok (.aload_n 0, 1) := by decide +kernel
theorem dX3_mostAt_6 : decode cX3_mostAt 6 = .ok (.getfield 15, 3) := by decide +kernel
theorem dX3_mostAt_9 : decode cX3_mostAt 9 = .ok (.if_icmp .ge 33, 3) := by decide +kernel
theorem dX3_mostAt_12 : decode cX3_mostAt 12 = .ok (.iload_n 3, 1) := by decide +kernel
theorem dX3_mostAt_13 : decode cX3_mostAt 13 = .ok (.aload_n 0, 1) := by decide +kernel
theorem dX3_mostAt_14 : decode cX3_mostAt 14 = .ok (.getfield 31, 3) := by decide +kernel
theorem dX3_mostAt_17 : decode cX3_mostAt 17 = .ok (.arraylength, 1) := by decide +kernel
theorem dX3_mostAt_18 : decode cX3_mostAt 18 = .ok (.if_icmp .ge 24, 3) := by decide +kernel
theorem dX3_mostAt_21 : decode cX3_mostAt 21 = .ok (.iload_n 2, 1) := by decide +kernel
theorem dX3_mostAt_22 : decode cX3_mostAt 22 = .ok (.aload_n 0, 1) := by decide +kernel
theorem dX3_mostAt_23 : decode cX3_mostAt 23 = .ok (.getfield 31, 3) := by decide +kernel
theorem dX3_mostAt_26 : decode cX3_mostAt 26 = .ok (.iload_n 3, 1) := by decide +kernel
theorem dX3_mostAt_27 : decode cX3_mostAt 27 = .ok (.iaload, 1) := by decide +kernel
theorem dX3_mostAt_28 : decode cX3_mostAt 28 = .ok (.iload_n 1, 1) := by decide +kernel
theorem dX3_mostAt_29 : decode cX3_mostAt 29 = .ok (.invokestatic 85, 3) := by decide +kernel
theorem dX3_mostAt_32 : decode cX3_mostAt 32 = .ok (.invokestatic 76, 3) := by decide +kernel
theorem dX3_mostAt_35 : decode cX3_mostAt 35 = .ok (.istore_n 2, 1) := by decide +kernel
theorem dX3_mostAt_36 : decode cX3_mostAt 36 = .ok (.iinc 3 1, 3) := by decide +kernel
theorem dX3_mostAt_39 : decode cX3_mostAt 39 = .ok (.goto (-35), 3) := by decide +kernel
theorem dX3_mostAt_42 : decode cX3_mostAt 42 = .ok (.iload_n 2, 1) := by decide +kernel
theorem dX3_mostAt_43 : decode cX3_mostAt 43 = .ok (.ireturn, 1) := by decide +kernel
theorem dX3_leastAt_0 : decode cX3_leastAt 0 = .ok (.iconst 3, 1) := by decide +kernel
theorem dX3_leastAt_1 : decode cX3_leastAt 1 = .ok (.istore_n 2, 1) := by decide +kernel
theorem dX3_leastAt_2 : decode cX3_leastAt 2 = .ok (.iconst 0, 1) := by decide +kernel
theorem dX3_leastAt_3 : decode cX3_leastAt 3 = .ok (.istore_n 3, 1) := by decide +kernel
theorem dX3_leastAt_4 : decode cX3_leastAt 4 = .ok (.iload_n 3, 1) := by decide +kernel
theorem dX3_leastAt_5 : decode cX3_leastAt 5 = .ok (.aload_n 0, 1) := by decide +kernel
theorem dX3_leastAt_6 : decode cX3_leastAt 6 = .ok (.getfield 15, 3) := by decide +kernel
theorem dX3_leastAt_9 : decode cX3_leastAt 9 = .ok (.if_icmp .ge 33, 3) := by decide +kernel
theorem dX3_leastAt_12 : decode cX3_leastAt 12 = .ok (.iload_n 3, 1) := by decide +kernel
theorem dX3_leastAt_13 : decode cX3_leastAt 13 = .ok (.aload_n 0, 1) := by decide +kernel
theorem dX3_leastAt_14 : decode cX3_leastAt 14 = .ok (.getfield 31, 3) := by decide +kernel
theorem dX3_leastAt_17 : decode cX3_leastAt 17 = .ok (.arraylength, 1) := by decide +kernel
theorem dX3_leastAt_18 : decode cX3_leastAt 18 = .ok (.if_icmp .ge 24, 3) := by decide +kernel
theorem dX3_leastAt_21 : decode cX3_leastAt 21 = .ok (.iload_n 2, 1) := by decide +kernel
theorem dX3_leastAt_22 : decode cX3_leastAt 22 = .ok (.aload_n 0, 1) := by decide +kernel
theorem dX3_leastAt_23 : decode cX3_leastAt 23 = .ok (.getfield 31, 3) := by decide +kernel
theorem dX3_leastAt_26 : decode cX3_leastAt 26 = .ok (.iload_n 3, 1) := by decide +kernel
theorem dX3_leastAt_27 : decode cX3_leastAt 27 = .ok (.iaload, 1) := by decide +kernel
theorem dX3_leastAt_28 : decode cX3_leastAt 28 = .ok (.iload_n 1, 1) := by decide +kernel
theorem dX3_leastAt_29 : decode cX3_leastAt 29 = .ok (.invokestatic 85, 3) := by decide +kernel
theorem dX3_leastAt_32 : decode cX3_leastAt 32 = .ok (.invokestatic 82, 3) := by decide +kernel
theorem dX3_leastAt_35 : decode cX3_leastAt 35 = .ok (.istore_n 2, 1) := by decide +kernel
theorem dX3_leastAt_36 : decode cX3_leastAt 36 = .ok (.iinc 3 1, 3) := by decide +kernel
theorem dX3_leastAt_39 : decode cX3_leastAt 39 = .ok (.goto (-35), 3) := by decide +kernel
theorem dX3_leastAt_42 : decode cX3_leastAt 42 = .ok (.iload_n 2, 1) := by decide +kernel
theorem dX3_leastAt_43 : decode cX3_leastAt 43 = .ok (.ireturn, 1) := by decide +kernel
theorem dX4_init_0 : decode cX4_init 0 = .ok (.aload_n 0, 1) := by decide +kernel
theorem dX4_init_1 : decode cX4_init 1 = .ok (.invokespecial 3, 3) := by decide +kernel
theorem dX4_init_4 : decode cX4_init 4 = .ok (.aload_n 0, 1) := by decide +kernel
theorem dX4_init_5 : decode cX4_init 5 = .ok (.bipush 12, 2) := by decide +kernel
theorem dX4_init_7 : decode cX4_init 7 = .ok (.newarray .boolean, 2) := by decide +kernel
theorem dX4_init_9 : decode cX4_init 9 = .ok (.putfield 9, 3) := by decide +kernel
theorem dX4_init_12 : decode cX4_init 12 = .ok (.aload_n 0, 1) := by decide +kernel
theorem dX4_init_13 : decode cX4_init 13 = .ok (.bipush 12, 2) := by decide +kernel
theorem dX4_init_15 : decode cX4_init 15 = .ok (.newarray .int, 2) := by decide +kernel
theorem dX4_init_17 : decode cX4_init 17 = .ok (.putfield 15, 3) := by decide +kernel
theorem dX4_init_20 : decode cX4_init 20 = .ok (.aload_n 0, 1) := by decide +kernel
theorem dX4_init_21 : decode cX4_init 21 = .ok (.bipush 12, 2) := by decide +kernel
theorem dX4_init_23 : decode cX4_init 23 = .ok (.newarray .int, 2) := by decide +kernel
theorem dX4_init_25 : decode cX4_init 25 = .ok (.putfield 19, 3) := by decide +kernel
theorem dX4_init_28 : decode cX4_init 28 = .ok (.aload_n 0, 1) := by decide +kernel
theorem dX4_init_29 : decode cX4_init 29 = .ok (.bipush 12, 2) := by decide +kernel
theorem dX4_init_31 : decode cX4_init 31 = .ok (.newarray .int, 2) := by decide +kernel
theorem dX4_init_33 : decode cX4_init 33 = .ok (.putfield 22, 3) := by decide +kernel
theorem dX4_init_36 : decode cX4_init 36 = .ok (.aload_n 0, 1) := by decide +kernel
theorem dX4_init_37 : decode cX4_init 37 = .ok (.bipush 12, 2) := by decide +kernel
theorem dX4_init_39 : decode cX4_init 39 = .ok (.newarray .int, 2) := by decide +kernel
theorem dX4_init_41 : decode cX4_init 41 = .ok (.putfield 25, 3) := by decide +kernel
theorem dX4_init_44 : decode cX4_init 44 = .ok (.aload_n 0, 1) := by decide +kernel
theorem dX4_init_45 : decode cX4_init 45 = .ok (.iconst 0, 1) := by decide +kernel
theorem dX4_init_46 : decode cX4_init 46 = .ok (.putfield 28, 3) := by decide +kernel
theorem dX4_init_49 : decode cX4_init 49 = .ok (.aload_n 0, 1) := by decide +kernel
theorem dX4_init_50 : decode cX4_init 50 = .ok (.aload_n 1, 1) := by decide +kernel
theorem dX4_init_51 : decode cX4_init 51 = .ok (.putfield 32, 3) := by decide +kernel
theorem dX4_init_54 : decode cX4_init 54 = .ok (.return_, 1) := by decide +kernel
theorem dX4_clear_0 : decode cX4_clear 0 = .ok (.aload_n 0, 1) := by decide +kernel
theorem dX4_clear_1 : decode cX4_clear 1 = .ok (.iconst 0, 1) := by decide +kernel
theorem dX4_clear_2 : decode cX4_clear 2 = .ok (.putfield 28, 3) := by decide +kernel
theorem dX4_clear_5 : decode cX4_clear 5 = .ok (.iconst 0, 1) := by decide +kernel
theorem dX4_clear_6 : decode cX4_clear 6 = .ok (.istore_n 1, 1) := by decide +kernel
theorem dX4_clear_7 : decode cX4_clear 7 = .ok (.iload_n 1, 1) := by decide +kernel
theorem dX4_clear_8 : decode cX4_clear 8 = .ok (.aload_n 0, 1) := by decide +kernel
theorem dX4_clear_9 : decode cX4_clear 9 = .ok (.getfield 9, 3) := by decide +kernel
theorem dX4_clear_12 : decode cX4_clear 12 = .ok (.arraylength, 1) := by decide +kernel
theorem dX4_clear_13 : decode cX4_clear 13 = .ok (.if_icmp .ge 37, 3) := by decide +kernel
theorem dX4_clear_16 : decode cX4_clear 16 = .ok (.aload_n 0, 1) := by decide +kernel
theorem dX4_clear_17 : decode cX4_clear 17 = .ok (.getfield 9, 3) := by decide +kernel
theorem dX4_clear_20 : decode cX4_clear 20 = .ok (.iload_n 1, 1) := by decide +kernel
theorem dX4_clear_21 : decode cX4_clear 21 = .ok (.iconst 0, 1) := by decide +kernel
theorem dX4_clear_22 : decode cX4_clear 22 = .ok (.bastore, 1) := by decide +kernel
theorem dX4_clear_23 : decode cX4_clear 23 = .ok (.aload_n 0, 1) := by decide +kernel
theorem dX4_clear_24 : decode cX4_clear 24 = .ok (.getfield 15, 3) := by decide +kernel
theorem dX4_clear_27 : decode cX4_clear 27 = .ok (.iload_n 1, 1) := by decide +kernel
theorem dX4_clear_28 : decode cX4_clear 28 = .ok (.iconst 0, 1) := by decide +kernel
theorem dX4_clear_29 : decode cX4_clear 29 = .ok (.iastore, 1) := by decide +kernel
theorem dX4_clear_30 : decode cX4_clear 30 = .ok (.aload_n 0, 1) := by decide +kernel
theorem dX4_clear_31 : decode cX4_clear 31 = .ok (.getfield 19, 3) := by decide +kernel
theorem dX4_clear_34 : decode cX4_clear 34 = .ok (.iload_n 1, 1) := by decide +kernel
theorem dX4_clear_35 : decode cX4_clear 35 = .ok (.iconst 0, 1) := by decide +kernel
theorem dX4_clear_36 : decode cX4_clear 36 = .ok (.iastore, 1) := by decide +kernel
theorem dX4_clear_37 : decode cX4_clear 37 = .ok (.aload_n 0, 1) := by decide +kernel
theorem dX4_clear_38 : decode cX4_clear 38 = .ok (.getfield 22, 3) := by decide +kernel
theorem dX4_clear_41 : decode cX4_clear 41 = .ok (.iload_n 1, 1) := by decide +kernel
theorem dX4_clear_42 : decode cX4_clear 42 = .ok (.iconst 0, 1) := by decide +kernel
theorem dX4_clear_43 : decode cX4_clear 43 = .ok (.iastore, 1) := by decide +kernel
theorem dX4_clear_44 : decode cX4_clear 44 = .ok (.iinc 1 1, 3) := by decide +kernel
theorem dX4_clear_47 : decode cX4_clear 47 = .ok (.goto (-40), 3) := by decide +kernel
theorem dX4_clear_50 : decode cX4_clear 50 = .ok (.return_, 1) := by decide +kernel
theorem dX4_remember_0 : decode cX4_remember 0 = .ok (.iconst 0, 1) := by decide +kernel
theorem dX4_remember_1 : decode cX4_remember 1 = .ok (.istore_n 1, 1) := by decide +kernel
theorem dX4_remember_2 : decode cX4_remember 2 = .ok (.iload_n 1, 1) := by decide +kernel
theorem dX4_remember_3 : decode cX4_remember 3 = .ok (.aload_n 0, 1) := by decide +kernel
theorem dX4_remember_4 : decode cX4_remember 4 = .ok (.getfield 32, 3) := by decide +kernel
theorem dX4_remember_7 : decode cX4_remember 7 = .ok (.getfield 36, 3) := by decide +kernel
theorem dX4_remember_10 : decode cX4_remember 10 = .ok (.bipush 7, 2) := by decide +kernel
theorem dX4_remember_12 : decode cX4_remember 12 = .ok (.iaload, 1) := by decide +kernel
theorem dX4_remember_13 : decode cX4_remember 13 = .ok (.if_icmp .ge 43, 3) := by decide +kernel
theorem dX4_remember_16 : decode cX4_remember 16 = .ok (.iload_n 1, 1) := by decide +kernel
theorem dX4_remember_17 : decode cX4_remember 17 = .ok (.aload_n 0, 1) := by decide +kernel
theorem dX4_remember_18 : decode cX4_remember 18 = .ok (.getfield 25, 3) := by decide +kernel
theorem dX4_remember_21 : decode cX4_remember 21 = .ok (.arraylength, 1) := by decide +kernel
theorem dX4_remember_22 : decode cX4_remember 22 = .ok (.if_icmp .ge 34, 3) := by decide +kernel
theorem dX4_remember_25 : decode cX4_remember 25 = .ok (.aload_n 0, 1) := by decide +kernel
theorem dX4_remember_26 : decode cX4_remember 26 = .ok (.getfield 25, 3) := by decide +kernel
theorem dX4_remember_29 : decode cX4_remember 29 = .ok (.iload_n 1, 1) := by decide +kernel
theorem dX4_remember_30 : decode cX4_remember 30 = .ok (.aload_n 0, 1) := by decide +kernel
theorem dX4_remember_31 : decode cX4_remember 31 = .ok (.getfield 9, 3) := by decide +kernel
theorem dX4_remember_34 : decode cX4_remember 34 = .ok (.iload_n 1, 1) := by decide +kernel
theorem dX4_remember_35 : decode cX4_remember 35 = .ok (.baload, 1) := by decide +kernel
theorem dX4_remember_36 : decode cX4_remember 36 = .ok (.ifCond .eq 12, 3) := by decide +kernel
theorem dX4_remember_39 : decode cX4_remember 39 = .ok (.aload_n 0, 1) := by decide +kernel
theorem dX4_remember_40 : decode cX4_remember 40 = .ok (.getfield 22, 3) := by decide +kernel
theorem dX4_remember_43 : decode cX4_remember 43 = .ok (.iload_n 1, 1) := by decide +kernel
