theorem dX12_passes_156 : decode cX12_passes 156 = .ok (.invokevirtual 370, 3) := by decide +kernel
theorem dX12_passes_159 : decode cX12_passes 159 = .ok (.if_icmp .ge 133, 3) := by decide +kernel
theorem dX12_passes_162 : decode cX12_passes 162 = .ok (.iload_n 3, 1) := by decide +kernel
theorem dX12_passes_163 : decode cX12_passes 163 = .ok (.istore 4, 2) := by decide +kernel
theorem dX12_passes_165 : decode cX12_passes 165 = .ok (.iload 4, 2) := by decide +kernel
theorem dX12_passes_167 : decode cX12_passes 167 = .ok (.aload_n 0, 1) := by decide +kernel
theorem dX12_passes_168 : decode cX12_passes 168 = .ok (.iconst 4, 1) := by decide +kernel
theorem dX12_passes_169 : decode cX12_passes 169 = .ok (.invokevirtual 370, 3) := by decide +kernel
theorem dX12_passes_172 : decode cX12_passes 172 = .ok (.if_icmp .ge 114, 3) := by decide +kernel
theorem dX12_passes_175 : decode cX12_passes 175 = .ok (.iload 4, 2) := by decide +kernel
theorem dX12_passes_177 : decode cX12_passes 177 = .ok (.istore 5, 2) := by decide +kernel
theorem dX12_passes_179 : decode cX12_passes 179 = .ok (.iload 5, 2) := by decide +kernel
theorem dX12_passes_181 : decode cX12_passes 181 = .ok (.aload_n 0, 1) := by decide +kernel
theorem dX12_passes_182 : decode cX12_passes 182 = .ok (.iconst 4, 1) := by decide +kernel
theorem dX12_passes_183 : decode cX12_passes 183 = .ok (.invokevirtual 370, 3) := by decide +kernel
theorem dX12_passes_186 : decode cX12_passes 186 = .ok (.if_icmp .ge 94, 3) := by decide +kernel
theorem dX12_passes_189 : decode cX12_passes 189 = .ok (.aload_n 0, 1) := by decide +kernel
theorem dX12_passes_190 : decode cX12_passes 190 = .ok (.getfield 382, 3) := by decide +kernel
theorem dX12_passes_193 : decode cX12_passes 193 = .ok (.ifCond .ne 11, 3) := by decide +kernel
theorem dX12_passes_196 : decode cX12_passes 196 = .ok (.aload_n 0, 1) := by decide +kernel
theorem dX12_passes_197 : decode cX12_passes 197 = .ok (.iconst 0, 1) := by decide +kernel
theorem dX12_passes_198 : decode cX12_passes 198 = .ok (.invokevirtual 373, 3) := by decide +kernel
theorem dX12_passes_201 : decode cX12_passes 201 = .ok (.goto 73, 3) := by decide +kernel
theorem dX12_passes_204 : decode cX12_passes 204 = .ok (.aload_n 0, 1) := by decide +kernel
theorem dX12_passes_205 : decode cX12_passes 205 = .ok (.getfield 382, 3) := by decide +kernel
theorem dX12_passes_208 : decode cX12_passes 208 = .ok (.iconst 1, 1) := by decide +kernel
theorem dX12_passes_209 : decode cX12_passes 209 = .ok (.if_icmp .ne 15, 3) := by decide +kernel
theorem dX12_passes_212 : decode cX12_passes 212 = .ok (.aload_n 0, 1) := by decide +kernel
theorem dX12_passes_213 : decode cX12_passes 213 = .ok (.iconst 1, 1) := by decide +kernel
theorem dX12_passes_214 : decode cX12_passes 214 = .ok (.iconst 2, 1) := by decide +kernel
theorem dX12_passes_215 : decode cX12_passes 215 = .ok (.iload_n 3, 1) := by decide +kernel
theorem dX12_passes_216 : decode cX12_passes 216 = .ok (.imul, 1) := by decide +kernel
theorem dX12_passes_217 : decode cX12_passes 217 = .ok (.ishl, 1) := by decide +kernel
theorem dX12_passes_218 : decode cX12_passes 218 = .ok (.invokevirtual 373, 3) := by decide +kernel
theorem dX12_passes_221 : decode cX12_passes 221 = .ok (.goto 53, 3) := by decide +kernel
theorem dX12_passes_224 : decode cX12_passes 224 = .ok (.aload_n 0, 1) := by decide +kernel
theorem dX12_passes_225 : decode cX12_passes 225 = .ok (.getfield 382, 3) := by decide +kernel
theorem dX12_passes_228 : decode cX12_passes 228 = .ok (.iconst 2, 1) := by decide +kernel
theorem dX12_passes_229 : decode cX12_passes 229 = .ok (.if_icmp .ne 22, 3) := by decide +kernel
theorem dX12_passes_232 : decode cX12_passes 232 = .ok (.aload_n 0, 1) := by decide +kernel
theorem dX12_passes_233 : decode cX12_passes 233 = .ok (.iconst 1, 1) := by decide +kernel
theorem dX12_passes_234 : decode cX12_passes 234 = .ok (.iconst 2, 1) := by decide +kernel
theorem dX12_passes_235 : decode cX12_passes 235 = .ok (.iload_n 3, 1) := by decide +kernel
theorem dX12_passes_236 : decode cX12_passes 236 = .ok (.imul, 1) := by decide +kernel
theorem dX12_passes_237 : decode cX12_passes 237 = .ok (.ishl, 1) := by decide +kernel
theorem dX12_passes_238 : decode cX12_passes 238 = .ok (.iconst 1, 1) := by decide +kernel
theorem dX12_passes_239 : decode cX12_passes 239 = .ok (.iconst 2, 1) := by decide +kernel
theorem dX12_passes_240 : decode cX12_passes 240 = .ok (.iload 4, 2) := by decide +kernel
theorem dX12_passes_242 : decode cX12_passes 242 = .ok (.imul, 1) := by decide +kernel
theorem dX12_passes_243 : decode cX12_passes 243 = .ok (.ishl, 1) := by decide +kernel
theorem dX12_passes_244 : decode cX12_passes 244 = .ok (.iadd, 1) := by decide +kernel
theorem dX12_passes_245 : decode cX12_passes 245 = .ok (.invokevirtual 373, 3) := by decide +kernel
theorem dX12_passes_248 : decode cX12_passes 248 = .ok (.goto 26, 3) := by decide +kernel
theorem dX12_passes_251 : decode cX12_passes 251 = .ok (.aload_n 0, 1) := by decide +kernel
theorem dX12_passes_252 : decode cX12_passes 252 = .ok (.iconst 1, 1) := by decide +kernel
theorem dX12_passes_253 : decode cX12_passes 253 = .ok (.iconst 2, 1) := by decide +kernel
theorem dX12_passes_254 : decode cX12_passes 254 = .ok (.iload_n 3, 1) := by decide +kernel
theorem dX12_passes_255 : decode cX12_passes 255 = .ok (.imul, 1) := by decide +kernel
theorem dX12_passes_256 : decode cX12_passes 256 = .ok (.ishl, 1) := by decide +kernel
theorem dX12_passes_257 : decode cX12_passes 257 = .ok (.iconst 1, 1) := by decide +kernel
theorem dX12_passes_258 : decode cX12_passes 258 = .ok (.iconst 2, 1) := by decide +kernel
theorem dX12_passes_259 : decode cX12_passes 259 = .ok (.iload 4, 2) := by decide +kernel
theorem dX12_passes_261 : decode cX12_passes 261 = .ok (.imul, 1) := by decide +kernel
theorem dX12_passes_262 : decode cX12_passes 262 = .ok (.ishl, 1) := by decide +kernel
theorem dX12_passes_263 : decode cX12_passes 263 = .ok (.iadd, 1) := by decide +kernel
theorem dX12_passes_264 : decode cX12_passes 264 = .ok (.iconst 1, 1) := by decide +kernel
theorem dX12_passes_265 : decode cX12_passes 265 = .ok (.iconst 2, 1) := by decide +kernel
theorem dX12_passes_266 : decode cX12_passes 266 = .ok (.iload 5, 2) := by decide +kernel
theorem dX12_passes_268 : decode cX12_passes 268 = .ok (.imul, 1) := by decide +kernel
theorem dX12_passes_269 : decode cX12_passes 269 = .ok (.ishl, 1) := by decide +kernel
theorem dX12_passes_270 : decode cX12_passes 270 = .ok (.iadd, 1) := by decide +kernel
theorem dX12_passes_271 : decode cX12_passes 271 = .ok (.invokevirtual 373, 3) := by decide +kernel
theorem dX12_passes_274 : decode cX12_passes 274 = .ok (.iinc 5 1, 3) := by decide +kernel
theorem dX12_passes_277 : decode cX12_passes 277 = .ok (.goto (-98), 3) := by decide +kernel
theorem dX12_passes_280 : decode cX12_passes 280 = .ok (.iinc 4 1, 3) := by decide +kernel
theorem dX12_passes_283 : decode cX12_passes 283 = .ok (.goto (-118), 3) := by decide +kernel
theorem dX12_passes_286 : decode cX12_passes 286 = .ok (.iinc 3 1, 3) := by decide +kernel
theorem dX12_passes_289 : decode cX12_passes 289 = .ok (.goto (-136), 3) := by decide +kernel
theorem dX12_passes_292 : decode cX12_passes 292 = .ok (.aload_n 0, 1) := by decide +kernel
theorem dX12_passes_293 : decode cX12_passes 293 = .ok (.invokevirtual 379, 3) := by decide +kernel
theorem dX12_passes_296 : decode cX12_passes 296 = .ok (.return_, 1) := by decide +kernel
theorem dX12_orders_0 : decode cX12_orders 0 = .ok (.aload_n 0, 1) := by decide +kernel
theorem dX12_orders_1 : decode cX12_orders 1 = .ok (.bipush 7, 2) := by decide +kernel
theorem dX12_orders_3 : decode cX12_orders 3 = .ok (.invokevirtual 370, 3) := by decide +kernel
theorem dX12_orders_6 : decode cX12_orders 6 = .ok (.istore_n 1, 1) := by decide +kernel
theorem dX12_orders_7 : decode cX12_orders 7 = .ok (.iconst 0, 1) := by decide +kernel
theorem dX12_orders_8 : decode cX12_orders 8 = .ok (.istore_n 2, 1) := by decide +kernel
theorem dX12_orders_9 : decode cX12_orders 9 = .ok (.iload_n 2, 1) := by decide +kernel
theorem dX12_orders_10 : decode cX12_orders 10 = .ok (.iload_n 1, 1) := by decide +kernel
theorem dX12_orders_11 : decode cX12_orders 11 = .ok (.if_icmp .ge 80, 3) := by decide +kernel
theorem dX12_orders_14 : decode cX12_orders 14 = .ok (.iload_n 2, 1) := by decide +kernel
theorem dX12_orders_15 : decode cX12_orders 15 = .ok (.istore_n 3, 1) := by decide +kernel
theorem dX12_orders_16 : decode cX12_orders 16 = .ok (.iload_n 3, 1) := by decide +kernel
theorem dX12_orders_17 : decode cX12_orders 17 = .ok (.ifCond .le 61, 3) := by decide +kernel
theorem dX12_orders_20 : decode cX12_orders 20 = .ok (.aload_n 0, 1) := by decide +kernel
theorem dX12_orders_21 : decode cX12_orders 21 = .ok (.getfield 79, 3) := by decide +kernel
theorem dX12_orders_24 : decode cX12_orders 24 = .ok (.bipush 12, 2) := by decide +kernel
theorem dX12_orders_26 : decode cX12_orders 26 = .ok (.aload_n 0, 1) := by decide +kernel
theorem dX12_orders_27 : decode cX12_orders 27 = .ok (.getfield 308, 3) := by decide +kernel
theorem dX12_orders_30 : decode cX12_orders 30 = .ok (.imul, 1) := by decide +kernel
theorem dX12_orders_31 : decode cX12_orders 31 = .ok (.aload_n 0, 1) := by decide +kernel
theorem dX12_orders_32 : decode cX12_orders 32 = .ok (.getfield 186, 3) := by decide +kernel
theorem dX12_orders_35 : decode cX12_orders 35 = .ok (.iload_n 3, 1) := by decide +kernel
theorem dX12_orders_36 : decode cX12_orders 36 = .ok (.iconst 1, 1) := by decide +kernel
theorem dX12_orders_37 : decode cX12_orders 37 = .ok (.isub, 1) := by decide +kernel
theorem dX12_orders_38 : decode cX12_orders 38 = .ok (.iaload, 1) := by decide +kernel
theorem dX12_orders_39 : decode cX12_orders 39 = .ok (.iadd, 1) := by decide +kernel
theorem dX12_orders_40 : decode cX12_orders 40 = .ok (.iaload, 1) := by decide +kernel
theorem dX12_orders_41 : decode cX12_orders 41 = .ok (.aload_n 0, 1) := by decide +kernel
theorem dX12_orders_42 : decode cX12_orders 42 = .ok (.getfield 79, 3) := by decide +kernel
theorem dX12_orders_45 : decode cX12_orders 45 = .ok (.bipush 12, 2) := by decide +kernel
theorem dX12_orders_47 : decode cX12_orders 47 = .ok (.aload_n 0, 1) := by decide +kernel
theorem dX12_orders_48 : decode cX12_orders 48 = .ok (.getfield 308, 3) := by decide +kernel
theorem dX12_orders_51 : decode cX12_orders 51 = .ok (.imul, 1) := by decide +kernel
theorem dX12_orders_52 : decode cX12_orders 52 = .ok (.iload_n 2, 1) := by decide +kernel
theorem dX12_orders_53 : decode cX12_orders 53 = .ok (.iadd, 1) := by decide +kernel
theorem dX12_orders_54 : decode cX12_orders 54 = .ok (.iaload, 1) := by decide +kernel
theorem dX12_orders_55 : decode cX12_orders 55 = .ok (.if_icmp .ge 23, 3) := by decide +kernel
theorem dX12_orders_58 : decode cX12_orders 58 = .ok (.aload_n 0, 1) := by decide +kernel
theorem dX12_orders_59 : decode cX12_orders 59 = .ok (.getfield 186, 3) := by decide +kernel
theorem dX12_orders_62 : decode cX12_orders 62 = .ok (.iload_n 3, 1) := by decide +kernel
theorem dX12_orders_63 : decode cX12_orders 63 = .ok (.aload_n 0, 1) := by decide +kernel
theorem dX12_orders_64 : decode cX12_orders 64 = .ok (.getfield 186, 3) := by decide +kernel
theorem dX12_orders_67 : decode cX12_orders 67 = .ok (.iload_n 3, 1) := by decide +kernel
theorem dX12_orders_68 : decode cX12_orders 68 = .ok (.iconst 1, 1) := by decide +kernel
theorem dX12_orders_69 : decode cX12_orders 69 = .ok (.isub, 1) := by decide +kernel
theorem dX12_orders_70 : decode cX12_orders 70 = .ok (.iaload, 1) := by decide +kernel
theorem dX12_orders_71 : decode cX12_orders 71 = .ok (.iastore, 1) := by decide +kernel
theorem dX12_orders_72 : decode cX12_orders 72 = .ok (.iinc 3 (-1), 3) := by decide +kernel
theorem dX12_orders_75 : decode cX12_orders 75 = .ok (.goto (-59), 3) := by decide +kernel
theorem dX12_orders_78 : decode cX12_orders 78 = .ok (.aload_n 0, 1) := by decide +kernel
theorem dX12_orders_79 : decode cX12_orders 79 = .ok (.getfield 186, 3) := by decide +kernel
theorem dX12_orders_82 : decode cX12_orders 82 = .ok (.iload_n 3, 1) := by decide +kernel
theorem dX12_orders_83 : decode cX12_orders 83 = .ok (.iload_n 2, 1) := by decide +kernel
theorem dX12_orders_84 : decode cX12_orders 84 = .ok (.iastore, 1) := by decide +kernel
theorem dX12_orders_85 : decode cX12_orders 85 = .ok (.iinc 2 1, 3) := by decide +kernel
theorem dX12_orders_88 : decode cX12_orders 88 = .ok (.goto (-79), 3) := by decide +kernel
theorem dX12_orders_91 : decode cX12_orders 91 = .ok (.return_, 1) := by decide +kernel
theorem dX12_begin_0 : decode cX12_begin 0 = .ok (.aload_n 0, 1) := by decide +kernel
theorem dX12_begin_1 : decode cX12_begin 1 = .ok (.getfield 329, 3) := by decide +kernel
theorem dX12_begin_4 : decode cX12_begin 4 = .ok (.ifCond .ne 5, 3) := by decide +kernel
theorem dX12_begin_7 : decode cX12_begin 7 = .ok (.iconst 0, 1) := by decide +kernel
theorem dX12_begin_8 : decode cX12_begin 8 = .ok (.ireturn, 1) := by decide +kernel
theorem dX12_begin_9 : decode cX12_begin 9 = .ok (.aload_n 0, 1) := by decide +kernel
theorem dX12_begin_10 : decode cX12_begin 10 = .ok (.iconst 1, 1) := by decide +kernel
theorem dX12_begin_11 : decode cX12_begin 11 = .ok (.putfield 333, 3) := by decide +kernel
theorem dX12_begin_14 : decode cX12_begin 14 = .ok (.aload_n 0, 1) := by decide +kernel
theorem dX12_begin_15 : decode cX12_begin 15 = .ok (.lconst 0, 1) := by decide +kernel
theorem dX12_begin_16 : decode cX12_begin 16 = .ok (.putfield 388, 3) := by decide +kernel
theorem dX12_begin_19 : decode cX12_begin 19 = .ok (.aload_n 0, 1) := by decide +kernel
theorem dX12_begin_20 : decode cX12_begin 20 = .ok (.iconst 1, 1) := by decide +kernel
theorem dX12_begin_21 : decode cX12_begin 21 = .ok (.putfield 392, 3) := by decide +kernel
theorem dX12_begin_24 : decode cX12_begin 24 = .ok (.aload_n 0, 1) := by decide +kernel
theorem dX12_begin_25 : decode cX12_begin 25 = .ok (.iconst 0, 1) := by decide +kernel
theorem dX12_begin_26 : decode cX12_begin 26 = .ok (.putfield 382, 3) := by decide +kernel
theorem dX12_begin_29 : decode cX12_begin 29 = .ok (.aload_n 0, 1) := by decide +kernel
theorem dX12_begin_30 : decode cX12_begin 30 = .ok (.iconst 0, 1) := by decide +kernel
theorem dX12_begin_31 : decode cX12_begin 31 = .ok (.putfield 395, 3) := by decide +kernel
theorem dX12_begin_34 : decode cX12_begin 34 = .ok (.aload_n 0, 1) := by decide +kernel
theorem dX12_begin_35 : decode cX12_begin 35 = .ok (.iconst 0, 1) := by decide +kernel
theorem dX12_begin_36 : decode cX12_begin 36 = .ok (.putfield 385, 3) := by decide +kernel
theorem dX12_begin_39 : decode cX12_begin 39 = .ok (.aload_n 0, 1) := by decide +kernel
theorem dX12_begin_40 : decode cX12_begin 40 = .ok (.iconst 0, 1) := by decide +kernel
theorem dX12_begin_41 : decode cX12_begin 41 = .ok (.putfield 398, 3) := by decide +kernel
theorem dX12_begin_44 : decode cX12_begin 44 = .ok (.aload_n 0, 1) := by decide +kernel
theorem dX12_begin_45 : decode cX12_begin 45 = .ok (.iconst 0, 1) := by decide +kernel
theorem dX12_begin_46 : decode cX12_begin 46 = .ok (.putfield 401, 3) := by decide +kernel
theorem dX12_begin_49 : decode cX12_begin 49 = .ok (.aload_n 0, 1) := by decide +kernel
theorem dX12_begin_50 : decode cX12_begin 50 = .ok (.iconst 0, 1) := by decide +kernel
theorem dX12_begin_51 : decode cX12_begin 51 = .ok (.putfield 404, 3) := by decide +kernel
theorem dX12_begin_54 : decode cX12_begin 54 = .ok (.aload_n 0, 1) := by decide +kernel
theorem dX12_begin_55 : decode cX12_begin 55 = .ok (.iconst 0, 1) := by decide +kernel
theorem dX12_begin_56 : decode cX12_begin 56 = .ok (.putfield 407, 3) := by decide +kernel
theorem dX12_begin_59 : decode cX12_begin 59 = .ok (.iconst 0, 1) := by decide +kernel
theorem dX12_begin_60 : decode cX12_begin 60 = .ok (.istore_n 1, 1) := by decide +kernel
theorem dX12_begin_61 : decode cX12_begin 61 = .ok (.iload_n 1, 1) := by decide +kernel
theorem dX12_begin_62 : decode cX12_begin 62 = .ok (.bipush 16, 2) := by decide +kernel
theorem dX12_begin_64 : decode cX12_begin 64 = .ok (.if_icmp .ge 29, 3) := by decide +kernel
theorem dX12_begin_67 : decode cX12_begin 67 = .ok (.aload_n 0, 1) := by decide +kernel
theorem dX12_begin_68 : decode cX12_begin 68 = .ok (.getfield 147, 3) := by decide +kernel
theorem dX12_begin_71 : decode cX12_begin 71 = .ok (.iload_n 1, 1) := by decide +kernel
theorem dX12_begin_72 : decode cX12_begin 72 = .ok (.aload_n 0, 1) := by decide +kernel
theorem dX12_begin_73 : decode cX12_begin 73 = .ok (.getfield 76, 3) := by decide +kernel
theorem dX12_begin_76 : decode cX12_begin 76 = .ok (.bipush 16, 2) := by decide +kernel
theorem dX12_begin_78 : decode cX12_begin 78 = .ok (.aload_n 0, 1) := by decide +kernel
theorem dX12_begin_79 : decode cX12_begin 79 = .ok (.getfield 308, 3) := by decide +kernel
theorem dX12_begin_82 : decode cX12_begin 82 = .ok (.imul, 1) := by decide +kernel
theorem dX12_begin_83 : decode cX12_begin 83 = .ok (.iload_n 1, 1) := by decide +kernel
theorem dX12_begin_84 : decode cX12_begin 84 = .ok (.iadd, 1) := by decide +kernel
theorem dX12_begin_85 : decode cX12_begin 85 = .ok (.iaload, 1) := by decide +kernel
theorem dX12_begin_86 : decode cX12_begin 86 = .ok (.iastore, 1) := by decide +kernel
theorem dX12_begin_87 : decode cX12_begin 87 = .ok (.iinc 1 1, 3) := by decide +kernel
theorem dX12_begin_90 : decode cX12_begin 90 = .ok (.goto (-29), 3) := by decide +kernel
theorem dX12_begin_93 : decode cX12_begin 93 = .ok (.iconst 0, 1) := by decide +kernel
theorem dX12_begin_94 : decode cX12_begin 94 = .ok (.istore_n 1, 1) := by decide +kernel
theorem dX12_begin_95 : decode cX12_begin 95 = .ok (.iload_n 1, 1) := by decide +kernel
theorem dX12_begin_96 : decode cX12_begin 96 = .ok (.bipush 16, 2) := by decide +kernel
theorem dX12_begin_98 : decode cX12_begin 98 = .ok (.if_icmp .ge 44, 3) := by decide +kernel
theorem dX12_begin_101 : decode cX12_begin 101 = .ok (.aload_n 0, 1) := by decide +kernel
theorem dX12_begin_102 : decode cX12_begin 102 = .ok (.getfield 150, 3) := by decide +kernel
theorem dX12_begin_105 : decode cX12_begin 105 = .ok (.iload_n 1, 1) := by decide +kernel
theorem dX12_begin_106 : decode cX12_begin 106 = .ok (.iconst 0, 1) := by decide +kernel
theorem dX12_begin_107 : decode cX12_begin 107 = .ok (.iastore, 1) := by decide +kernel
theorem dX12_begin_108 : decode cX12_begin 108 = .ok (.aload_n 0, 1) := by decide +kernel
theorem dX12_begin_109 : decode cX12_begin 109 = .ok (.getfield 153, 3) := by decide +kernel
theorem dX12_begin_112 : decode cX12_begin 112 = .ok (.iload_n 1, 1) := by decide +kernel
theorem dX12_begin_113 : decode cX12_begin 113 = .ok (.iconst 0, 1) := by decide +kernel
theorem dX12_begin_114 : decode cX12_begin 114 = .ok (.iastore, 1) := by decide +kernel
theorem dX12_begin_115 : decode cX12_begin 115 = .ok (.aload_n 0, 1) := by decide +kernel
theorem dX12_begin_116 : decode cX12_begin 116 = .ok (.getfield 156, 3) := by decide +kernel
theorem dX12_begin_119 : decode cX12_begin 119 = .ok (.iload_n 1, 1) := by decide +kernel
theorem dX12_begin_120 : decode cX12_begin 120 = .ok (.iconst (-1), 1) := by decide +kernel
theorem dX12_begin_121 : decode cX12_begin 121 = .ok (.iastore, 1) := by decide +kernel
theorem dX12_begin_122 : decode cX12_begin 122 = .ok (.aload_n 0, 1) := by decide +kernel
theorem dX12_begin_123 : decode cX12_begin 123 = .ok (.getfield 159, 3) := by decide +kernel
theorem dX12_begin_126 : decode cX12_begin 126 = .ok (.iload_n 1, 1) := by decide +kernel
theorem dX12_begin_127 : decode cX12_begin 127 = .ok (.iconst 0, 1) := by decide +kernel
theorem dX12_begin_128 : decode cX12_begin 128 = .ok (.bastore, 1) := by decide +kernel
theorem dX12_begin_129 : decode cX12_begin 129 = .ok (.aload_n 0, 1) := by decide +kernel
theorem dX12_begin_130 : decode cX12_begin 130 = .ok (.getfield 162, 3) := by decide +kernel
theorem dX12_begin_133 : decode cX12_begin 133 = .ok (.iload_n 1, 1) := by decide +kernel
theorem dX12_begin_134 : decode cX12_begin 134 = .ok (.iconst 0, 1) := by decide +kernel
theorem dX12_begin_135 : decode cX12_begin 135 = .ok (.iastore, 1) := by decide +kernel
theorem dX12_begin_136 : decode cX12_begin 136 = .ok (.iinc 1 1, 3) := by decide +kernel
theorem dX12_begin_139 : decode cX12_begin 139 = .ok (.goto (-44), 3) := by decide +kernel
theorem dX12_begin_142 : decode cX12_begin 142 = .ok (.iconst 0, 1) := by decide +kernel
theorem dX12_begin_143 : decode cX12_begin 143 = .ok (.istore_n 1, 1) := by decide +kernel
theorem dX12_begin_144 : decode cX12_begin 144 = .ok (.iload_n 1, 1) := by decide +kernel
theorem dX12_begin_145 : decode cX12_begin 145 = .ok (.bipush 12, 2) := by decide +kernel
theorem dX12_begin_147 : decode cX12_begin 147 = .ok (.if_icmp .ge 37, 3) := by decide +kernel
theorem dX12_begin_150 : decode cX12_begin 150 = .ok (.aload_n 0, 1) := by decide +kernel
theorem dX12_begin_151 : decode cX12_begin 151 = .ok (.getfield 165, 3) := by decide +kernel
theorem dX12_begin_154 : decode cX12_begin 154 = .ok (.iload_n 1, 1) := by decide +kernel
theorem dX12_begin_155 : decode cX12_begin 155 = .ok (.iconst 0, 1) := by decide +kernel
theorem dX12_begin_156 : decode cX12_begin 156 = .ok (.bastore, 1) := by decide +kernel
theorem dX12_begin_157 : decode cX12_begin 157 = .ok (.aload_n 0, 1) := by decide +kernel
theorem dX12_begin_158 : decode cX12_begin 158 = .ok (.getfield 168, 3) := by decide +kernel
theorem dX12_begin_161 : decode cX12_begin 161 = .ok (.iload_n 1, 1) := by decide +kernel
theorem dX12_begin_162 : decode cX12_begin 162 = .ok (.iconst 0, 1) := by decide +kernel
theorem dX12_begin_163 : decode cX12_begin 163 = .ok (.iastore, 1) := by decide +kernel
theorem dX12_begin_164 : decode cX12_begin 164 = .ok (.aload_n 0, 1) := by decide +kernel
theorem dX12_begin_165 : decode cX12_begin 165 = .ok (.getfield 171, 3) := by decide +kernel
theorem dX12_begin_168 : decode cX12_begin 168 = .ok (.iload_n 1, 1) := by decide +kernel
theorem dX12_begin_169 : decode cX12_begin 169 = .ok (.iconst 0, 1) := by decide +kernel
theorem dX12_begin_170 : decode cX12_begin 170 = .ok (.iastore, 1) := by decide +kernel
theorem dX12_begin_171 : decode cX12_begin 171 = .ok (.aload_n 0, 1) := by decide +kernel
theorem dX12_begin_172 : decode cX12_begin 172 = .ok (.getfield 174, 3) := by decide +kernel
theorem dX12_begin_175 : decode cX12_begin 175 = .ok (.iload_n 1, 1) := by decide +kernel
theorem dX12_begin_176 : decode cX12_begin 176 = .ok (.iconst 0, 1) := by decide +kernel
theorem dX12_begin_177 : decode cX12_begin 177 = .ok (.iastore, 1) := by decide +kernel
theorem dX12_begin_178 : decode cX12_begin 178 = .ok (.iinc 1 1, 3) := by decide +kernel
theorem dX12_begin_181 : decode cX12_begin 181 = .ok (.goto (-37), 3) := by decide +kernel
theorem dX12_begin_184 : decode cX12_begin 184 = .ok (.iconst 0, 1) := by decide +kernel
theorem dX12_begin_185 : decode cX12_begin 185 = .ok (.istore_n 1, 1) := by decide +kernel
theorem dX12_begin_186 : decode cX12_begin 186 = .ok (.iload_n 1, 1) := by decide +kernel
theorem dX12_begin_187 : decode cX12_begin 187 = .ok (.bipush 8, 2) := by decide +kernel
theorem dX12_begin_189 : decode cX12_begin 189 = .ok (.if_icmp .ge 23, 3) := by decide +kernel
theorem dX12_begin_192 : decode cX12_begin 192 = .ok (.aload_n 0, 1) := by decide +kernel
theorem dX12_begin_193 : decode cX12_begin 193 = .ok (.getfield 177, 3) := by decide +kernel
theorem dX12_begin_196 : decode cX12_begin 196 = .ok (.iload_n 1, 1) := by decide +kernel
theorem dX12_begin_197 : decode cX12_begin 197 = .ok (.iconst 0, 1) := by decide +kernel
theorem dX12_begin_198 : decode cX12_begin 198 = .ok (.iastore, 1) := by decide +kernel
theorem dX12_begin_199 : decode cX12_begin 199 = .ok (.aload_n 0, 1) := by decide +kernel
theorem dX12_begin_200 : decode cX12_begin 200 = .ok (.getfield 180, 3) := by decide +kernel
theorem dX12_begin_203 : decode cX12_begin 203 = .ok (.iload_n 1, 1) := by decide +kernel
theorem dX12_begin_204 : decode cX12_begin 204 = .ok (.iconst (-1), 1) := by decide +kernel
theorem dX12_begin_205 : decode cX12_begin 205 = .ok (.iastore, 1) := by decide +kernel
theorem dX12_begin_206 : decode cX12_begin 206 = .ok (.iinc 1 1, 3) := by decide +kernel
theorem dX12_begin_209 : decode cX12_begin 209 = .ok (.goto (-23), 3) := by decide +kernel
theorem dX12_begin_212 : decode cX12_begin 212 = .ok (.aload_n 0, 1) := by decide +kernel
theorem dX12_begin_213 : decode cX12_begin 213 = .ok (.invokevirtual 410, 3) := by decide +kernel
theorem dX12_begin_216 : decode cX12_begin 216 = .ok (.aload_n 0, 1) := by decide +kernel
theorem dX12_begin_217 : decode cX12_begin 217 = .ok (.invokevirtual 413, 3) := by decide +kernel
theorem dX12_begin_220 : decode cX12_begin 220 = .ok (.aload_n 0, 1) := by decide +kernel
theorem dX12_begin_221 : decode cX12_begin 221 = .ok (.invokevirtual 416, 3) := by decide +kernel
theorem dX12_begin_224 : decode cX12_begin 224 = .ok (.aload_n 0, 1) := by decide +kernel
theorem dX12_begin_225 : decode cX12_begin 225 = .ok (.iconst 0, 1) := by decide +kernel
theorem dX12_begin_226 : decode cX12_begin 226 = .ok (.putfield 419, 3) := by decide +kernel
theorem dX12_begin_229 : decode cX12_begin 229 = .ok (.aload_n 0, 1) := by decide +kernel
theorem dX12_begin_230 : decode cX12_begin 230 = .ok (.iconst 0, 1) := by decide +kernel
theorem dX12_begin_231 : decode cX12_begin 231 = .ok (.putfield 422, 3) := by decide +kernel
theorem dX12_begin_234 : decode cX12_begin 234 = .ok (.aload_n 0, 1) := by decide +kernel
theorem dX12_begin_235 : decode cX12_begin 235 = .ok (.iconst 0, 1) := by decide +kernel
theorem dX12_begin_236 : decode cX12_begin 236 = .ok (.putfield 425, 3) := by decide +kernel
theorem dX12_begin_239 : decode cX12_begin 239 = .ok (.aload_n 0, 1) := by decide +kernel
theorem dX12_begin_240 : decode cX12_begin 240 = .ok (.bipush 7, 2) := by decide +kernel
theorem dX12_begin_242 : decode cX12_begin 242 = .ok (.invokevirtual 370, 3) := by decide +kernel
theorem dX12_begin_245 : decode cX12_begin 245 = .ok (.ifCond .le 12, 3) := by decide +kernel
theorem dX12_begin_248 : decode cX12_begin 248 = .ok (.aload_n 0, 1) := by decide +kernel
theorem dX12_begin_249 : decode cX12_begin 249 = .ok (.iconst 0, 1) := by decide +kernel
theorem dX12_begin_250 : decode cX12_begin 250 = .ok (.invokevirtual 428, 3) := by decide +kernel
theorem dX12_begin_253 : decode cX12_begin 253 = .ok (.aload_n 0, 1) := by decide +kernel
theorem dX12_begin_254 : decode cX12_begin 254 = .ok (.invokevirtual 430, 3) := by decide +kernel
theorem dX12_begin_257 : decode cX12_begin 257 = .ok (.aload_n 0, 1) := by decide +kernel
theorem dX12_begin_258 : decode cX12_begin 258 = .ok (.invokevirtual 433, 3) := by decide +kernel
theorem dX12_begin_261 : decode cX12_begin 261 = .ok (.iconst 1, 1) := by decide +kernel
theorem dX12_begin_262 : decode cX12_begin 262 = .ok (.ireturn, 1) := by decide +kernel
theorem dX12_offs_0 : decode cX12_offs 0 = .ok (.iconst 1, 1) := by decide +kernel
theorem dX12_offs_1 : decode cX12_offs 1 = .ok (.istore_n 1, 1) := by decide +kernel
theorem dX12_offs_2 : decode cX12_offs 2 = .ok (.iload_n 1, 1) := by decide +kernel
theorem dX12_offs_3 : decode cX12_offs 3 = .ok (.aload_n 0, 1) := by decide +kernel
theorem dX12_offs_4 : decode cX12_offs 4 = .ok (.bipush 7, 2) := by decide +kernel
theorem dX12_offs_6 : decode cX12_offs 6 = .ok (.invokevirtual 370, 3) := by decide +kernel
theorem dX12_offs_9 : decode cX12_offs 9 = .ok (.if_icmp .ge 42, 3) := by decide +kernel
theorem dX12_offs_12 : decode cX12_offs 12 = .ok (.aload_n 0, 1) := by decide +kernel
theorem dX12_offs_13 : decode cX12_offs 13 = .ok (.getfield 165, 3) := by decide +kernel
theorem dX12_offs_16 : decode cX12_offs 16 = .ok (.iload_n 1, 1) := by decide +kernel
theorem dX12_offs_17 : decode cX12_offs 17 = .ok (.baload, 1) := by decide +kernel
theorem dX12_offs_18 : decode cX12_offs 18 = .ok (.ifCond .eq 13, 3) := by decide +kernel
theorem dX12_offs_21 : decode cX12_offs 21 = .ok (.aload_n 0, 1) := by decide +kernel
theorem dX12_offs_22 : decode cX12_offs 22 = .ok (.getfield 174, 3) := by decide +kernel
theorem dX12_offs_25 : decode cX12_offs 25 = .ok (.iload_n 1, 1) := by decide +kernel
theorem dX12_offs_26 : decode cX12_offs 26 = .ok (.dup2, 1) := by decide +kernel
theorem dX12_offs_27 : decode cX12_offs 27 = .ok (.iaload, 1) := by decide +kernel
theorem dX12_offs_28 : decode cX12_offs 28 = .ok (.iconst 1, 1) := by decide +kernel
theorem dX12_offs_29 : decode cX12_offs 29 = .ok (.iadd, 1) := by decide +kernel
theorem dX12_offs_30 : decode cX12_offs 30 = .ok (.iastore, 1) := by decide +kernel
theorem dX12_offs_31 : decode cX12_offs 31 = .ok (.aload_n 0, 1) := by decide +kernel
theorem dX12_offs_32 : decode cX12_offs 32 = .ok (.getfield 165, 3) := by decide +kernel
theorem dX12_offs_35 : decode cX12_offs 35 = .ok (.iload_n 1, 1) := by decide +kernel
theorem dX12_offs_36 : decode cX12_offs 36 = .ok (.iconst 0, 1) := by decide +kernel
theorem dX12_offs_37 : decode cX12_offs 37 = .ok (.bastore, 1) := by decide +kernel
theorem dX12_offs_38 : decode cX12_offs 38 = .ok (.aload_n 0, 1) := by decide +kernel
theorem dX12_offs_39 : decode cX12_offs 39 = .ok (.getfield 168, 3) := by decide +kernel
theorem dX12_offs_42 : decode cX12_offs 42 = .ok (.iload_n 1, 1) := by decide +kernel
theorem dX12_offs_43 : decode cX12_offs 43 = .ok (.iconst 0, 1) := by decide +kernel
theorem dX12_offs_44 : decode cX12_offs 44 = .ok (.iastore, 1) := by decide +kernel
theorem dX12_offs_45 : decode cX12_offs 45 = .ok (.iinc 1 1, 3) := by decide +kernel
theorem dX12_offs_48 : decode cX12_offs 48 = .ok (.goto (-46), 3) := by decide +kernel
theorem dX12_offs_51 : decode cX12_offs 51 = .ok (.return_, 1) := by decide +kernel
theorem dX12_asksBall_0 : decode cX12_asksBall 0 = .ok (.aload_n 0, 1) := by decide +kernel
theorem dX12_asksBall_1 : decode cX12_asksBall 1 = .ok (.getfield 392, 3) := by decide +kernel
theorem dX12_asksBall_4 : decode cX12_asksBall 4 = .ok (.ifCond .eq 10, 3) := by decide +kernel
theorem dX12_asksBall_7 : decode cX12_asksBall 7 = .ok (.aload_n 0, 1) := by decide +kernel
theorem dX12_asksBall_8 : decode cX12_asksBall 8 = .ok (.getfield 382, 3) := by decide +kernel
theorem dX12_asksBall_11 : decode cX12_asksBall 11 = .ok (.ifCond .le 4, 3) := by decide +kernel
theorem dX12_asksBall_14 : decode cX12_asksBall 14 = .ok (.return_, 1) := by decide +kernel
theorem dX12_asksBall_15 : decode cX12_asksBall 15 = .ok (.aload_n 0, 1) := by decide +kernel
theorem dX12_asksBall_16 : decode cX12_asksBall 16 = .ok (.getfield 392, 3) := by decide +kernel
theorem dX12_asksBall_19 : decode cX12_asksBall 19 = .ok (.iconst 1, 1) := by decide +kernel
theorem dX12_asksBall_20 : decode cX12_asksBall 20 = .ok (.if_icmp .le 42, 3) := by decide +kernel
theorem dX12_asksBall_23 : decode cX12_asksBall 23 = .ok (.iconst 0, 1) := by decide +kernel
theorem dX12_asksBall_24 : decode cX12_asksBall 24 = .ok (.istore_n 1, 1) := by decide +kernel
theorem dX12_asksBall_25 : decode cX12_asksBall 25 = .ok (.iload_n 1, 1) := by decide +kernel
theorem dX12_asksBall_26 : decode cX12_asksBall 26 = .ok (.aload_n 0, 1) := by decide +kernel
theorem dX12_asksBall_27 : decode cX12_asksBall 27 = .ok (.iconst 0, 1) := by decide +kernel
theorem dX12_asksBall_28 : decode cX12_asksBall 28 = .ok (.invokevirtual 370, 3) := by decide +kernel
theorem dX12_asksBall_31 : decode cX12_asksBall 31 = .ok (.if_icmp .ge 31, 3) := by decide +kernel
theorem dX12_asksBall_34 : decode cX12_asksBall 34 = .ok (.aload_n 0, 1) := by decide +kernel
theorem dX12_asksBall_35 : decode cX12_asksBall 35 = .ok (.getfield 162, 3) := by decide +kernel
theorem dX12_asksBall_38 : decode cX12_asksBall 38 = .ok (.iload_n 1, 1) := by decide +kernel
theorem dX12_asksBall_39 : decode cX12_asksBall 39 = .ok (.iaload, 1) := by decide +kernel
theorem dX12_asksBall_40 : decode cX12_asksBall 40 = .ok (.aload_n 0, 1) := by decide +kernel
theorem dX12_asksBall_41 : decode cX12_asksBall 41 = .ok (.getfield 392, 3) := by decide +kernel
theorem dX12_asksBall_44 : decode cX12_asksBall 44 = .ok (.iconst 1, 1) := by decide +kernel
theorem dX12_asksBall_45 : decode cX12_asksBall 45 = .ok (.isub, 1) := by decide +kernel
theorem dX12_asksBall_46 : decode cX12_asksBall 46 = .ok (.if_icmp .ge 10, 3) := by decide +kernel
theorem dX12_asksBall_49 : decode cX12_asksBall 49 = .ok (.aload_n 0, 1) := by decide +kernel
theorem dX12_asksBall_50 : decode cX12_asksBall 50 = .ok (.getfield 159, 3) := by decide +kernel
theorem dX12_asksBall_53 : decode cX12_asksBall 53 = .ok (.iload_n 1, 1) := by decide +kernel
theorem dX12_asksBall_54 : decode cX12_asksBall 54 = .ok (.iconst 1, 1) := by decide +kernel
theorem dX12_asksBall_55 : decode cX12_asksBall 55 = .ok (.bastore, 1) := by decide +kernel
theorem dX12_asksBall_56 : decode cX12_asksBall 56 = .ok (.iinc 1 1, 3) := by decide +kernel
theorem dX12_asksBall_59 : decode cX12_asksBall 59 = .ok (.goto (-34), 3) := by decide +kernel
theorem dX12_asksBall_62 : decode cX12_asksBall 62 = .ok (.aload_n 0, 1) := by decide +kernel
theorem dX12_asksBall_63 : decode cX12_asksBall 63 = .ok (.invokevirtual 436, 3) := by decide +kernel
theorem dX12_asksBall_66 : decode cX12_asksBall 66 = .ok (.aload_n 0, 1) := by decide +kernel
theorem dX12_asksBall_67 : decode cX12_asksBall 67 = .ok (.iconst 0, 1) := by decide +kernel
theorem dX12_asksBall_68 : decode cX12_asksBall 68 = .ok (.putfield 401, 3) := by decide +kernel
theorem dX12_asksBall_71 : decode cX12_asksBall 71 = .ok (.aload_n 0, 1) := by decide +kernel
theorem dX12_asksBall_72 : decode cX12_asksBall 72 = .ok (.aload_n 0, 1) := by decide +kernel
theorem dX12_asksBall_73 : decode cX12_asksBall 73 = .ok (.getfield 392, 3) := by decide +kernel
theorem dX12_asksBall_76 : decode cX12_asksBall 76 = .ok (.iconst 3, 1) := by decide +kernel
theorem dX12_asksBall_77 : decode cX12_asksBall 77 = .ok (.if_icmp .ne 7, 3) := by decide +kernel
theorem dX12_asksBall_80 : decode cX12_asksBall 80 = .ok (.iconst 0, 1) := by decide +kernel
theorem dX12_asksBall_81 : decode cX12_asksBall 81 = .ok (.goto 9, 3) := by decide +kernel
theorem dX12_asksBall_84 : decode cX12_asksBall 84 = .ok (.aload_n 0, 1) := by decide +kernel
theorem dX12_asksBall_85 : decode cX12_asksBall 85 = .ok (.getfield 392, 3) := by decide +kernel
theorem dX12_asksBall_88 : decode cX12_asksBall 88 = .ok (.iconst 1, 1) := by decide +kernel
theorem dX12_asksBall_89 : decode cX12_asksBall 89 = .ok (.iadd, 1) := by decide +kernel
theorem dX12_asksBall_90 : decode cX12_asksBall 90 = .ok (.putfield 392, 3) := by decide +kernel
theorem dX12_asksBall_93 : decode cX12_asksBall 93 = .ok (.aload_n 0, 1) := by decide +kernel
theorem dX12_asksBall_94 : decode cX12_asksBall 94 = .ok (.getfield 392, 3) := by decide +kernel
theorem dX12_asksBall_97 : decode cX12_asksBall 97 = .ok (.ifCond .le 7, 3) := by decide +kernel
theorem dX12_asksBall_100 : decode cX12_asksBall 100 = .ok (.aload_n 0, 1) := by decide +kernel
theorem dX12_asksBall_101 : decode cX12_asksBall 101 = .ok (.invokevirtual 416, 3) := by decide +kernel
theorem dX12_asksBall_104 : decode cX12_asksBall 104 = .ok (.return_, 1) := by decide +kernel
theorem dX12_frame_0 : decode cX12_frame 0 = .ok (.aload_n 0, 1) := by decide +kernel
theorem dX12_frame_1 : decode cX12_frame 1 = .ok (.getfield 189, 3) := by decide +kernel
theorem dX12_frame_4 : decode cX12_frame 4 = .ok (.aload_n 0, 1) := by decide +kernel
theorem dX12_frame_5 : decode cX12_frame 5 = .ok (.getfield 425, 3) := by decide +kernel
theorem dX12_frame_8 : decode cX12_frame 8 = .ok (.iload_n 1, 1) := by decide +kernel
theorem dX12_frame_9 : decode cX12_frame 9 = .ok (.iastore, 1) := by decide +kernel
theorem dX12_frame_10 : decode cX12_frame 10 = .ok (.aload_n 0, 1) := by decide +kernel
theorem dX12_frame_11 : decode cX12_frame 11 = .ok (.getfield 192, 3) := by decide +kernel
theorem dX12_frame_14 : decode cX12_frame 14 = .ok (.aload_n 0, 1) := by decide +kernel
theorem dX12_frame_15 : decode cX12_frame 15 = .ok (.getfield 425, 3) := by decide +kernel
theorem dX12_frame_18 : decode cX12_frame 18 = .ok (.iload_n 2, 1) := by decide +kernel
theorem dX12_frame_19 : decode cX12_frame 19 = .ok (.iastore, 1) := by decide +kernel
theorem dX12_frame_20 : decode cX12_frame 20 = .ok (.aload_n 0, 1) := by decide +kernel
theorem dX12_frame_21 : decode cX12_frame 21 = .ok (.getfield 195, 3) := by decide +kernel
theorem dX12_frame_24 : decode cX12_frame 24 = .ok (.aload_n 0, 1) := by decide +kernel
theorem dX12_frame_25 : decode cX12_frame 25 = .ok (.getfield 425, 3) := by decide +kernel
theorem dX12_frame_28 : decode cX12_frame 28 = .ok (.aload_n 0, 1) := by decide +kernel
theorem dX12_frame_29 : decode cX12_frame 29 = .ok (.getfield 85, 3) := by decide +kernel
theorem dX12_frame_32 : decode cX12_frame 32 = .ok (.bipush 13, 2) := by decide +kernel
theorem dX12_frame_34 : decode cX12_frame 34 = .ok (.aload_n 0, 1) := by decide +kernel
theorem dX12_frame_35 : decode cX12_frame 35 = .ok (.getfield 308, 3) := by decide +kernel
theorem dX12_frame_38 : decode cX12_frame 38 = .ok (.imul, 1) := by decide +kernel
theorem dX12_frame_39 : decode cX12_frame 39 = .ok (.iload_n 1, 1) := by decide +kernel
theorem dX12_frame_40 : decode cX12_frame 40 = .ok (.iadd, 1) := by decide +kernel
theorem dX12_frame_41 : decode cX12_frame 41 = .ok (.iaload, 1) := by decide +kernel
theorem dX12_frame_42 : decode cX12_frame 42 = .ok (.iastore, 1) := by decide +kernel
theorem dX12_frame_43 : decode cX12_frame 43 = .ok (.aload_n 0, 1) := by decide +kernel
theorem dX12_frame_44 : decode cX12_frame 44 = .ok (.getfield 198, 3) := by decide +kernel
theorem dX12_frame_47 : decode cX12_frame 47 = .ok (.aload_n 0, 1) := by decide +kernel
theorem dX12_frame_48 : decode cX12_frame 48 = .ok (.getfield 425, 3) := by decide +kernel
theorem dX12_frame_51 : decode cX12_frame 51 = .ok (.iconst 0, 1) := by decide +kernel
theorem dX12_frame_52 : decode cX12_frame 52 = .ok (.iastore, 1) := by decide +kernel
theorem dX12_frame_53 : decode cX12_frame 53 = .ok (.aload_n 0, 1) := by decide +kernel
theorem dX12_frame_54 : decode cX12_frame 54 = .ok (.getfield 201, 3) := by decide +kernel
theorem dX12_frame_57 : decode cX12_frame 57 = .ok (.aload_n 0, 1) := by decide +kernel
theorem dX12_frame_58 : decode cX12_frame 58 = .ok (.getfield 425, 3) := by decide +kernel
theorem dX12_frame_61 : decode cX12_frame 61 = .ok (.iconst 0, 1) := by decide +kernel
theorem dX12_frame_62 : decode cX12_frame 62 = .ok (.iastore, 1) := by decide +kernel
theorem dX12_frame_63 : decode cX12_frame 63 = .ok (.aload_n 0, 1) := by decide +kernel
theorem dX12_frame_64 : decode cX12_frame 64 = .ok (.getfield 204, 3) := by decide +kernel
theorem dX12_frame_67 : decode cX12_frame 67 = .ok (.aload_n 0, 1) := by decide +kernel
theorem dX12_frame_68 : decode cX12_frame 68 = .ok (.getfield 425, 3) := by decide +kernel
theorem dX12_frame_71 : decode cX12_frame 71 = .ok (.aload_n 0, 1) := by decide +kernel
theorem dX12_frame_72 : decode cX12_frame 72 = .ok (.getfield 174, 3) := by decide +kernel
theorem dX12_frame_75 : decode cX12_frame 75 = .ok (.iload_n 1, 1) := by decide +kernel
theorem dX12_frame_76 : decode cX12_frame 76 = .ok (.iaload, 1) := by decide +kernel
theorem dX12_frame_77 : decode cX12_frame 77 = .ok (.iastore, 1) := by decide +kernel
theorem dX12_frame_78 : decode cX12_frame 78 = .ok (.aload_n 0, 1) := by decide +kernel
theorem dX12_frame_79 : decode cX12_frame 79 = .ok (.dup, 1) := by decide +kernel
theorem dX12_frame_80 : decode cX12_frame 80 = .ok (.getfield 425, 3) := by decide +kernel
theorem dX12_frame_83 : decode cX12_frame 83 = .ok (.iconst 1, 1) := by decide +kernel
theorem dX12_frame_84 : decode cX12_frame 84 = .ok (.iadd, 1) := by decide +kernel
theorem dX12_frame_85 : decode cX12_frame 85 = .ok (.putfield 425, 3) := by decide +kernel
theorem dX12_frame_88 : decode cX12_frame 88 = .ok (.return_, 1) := by decide +kernel
theorem dX12_deep_0 : decode cX12_deep 0 = .ok (.iconst 0, 1) := by decide +kernel
theorem dX12_deep_1 : decode cX12_deep 1 = .ok (.istore_n 1, 1) := by decide +kernel
theorem dX12_deep_2 : decode cX12_deep 2 = .ok (.iconst 0, 1) := by decide +kernel
theorem dX12_deep_3 : decode cX12_deep 3 = .ok (.istore_n 2, 1) := by decide +kernel
theorem dX12_deep_4 : decode cX12_deep 4 = .ok (.iload_n 2, 1) := by decide +kernel
theorem dX12_deep_5 : decode cX12_deep 5 = .ok (.aload_n 0, 1) := by decide +kernel
theorem dX12_deep_6 : decode cX12_deep 6 = .ok (.getfield 425, 3) := by decide +kernel
theorem dX12_deep_9 : decode cX12_deep 9 = .ok (.if_icmp .ge 21, 3) := by decide +kernel
theorem dX12_deep_12 : decode cX12_deep 12 = .ok (.aload_n 0, 1) := by decide +kernel
theorem dX12_deep_13 : decode cX12_deep 13 = .ok (.getfield 192, 3) := by decide +kernel
theorem dX12_deep_16 : decode cX12_deep 16 = .ok (.iload_n 2, 1) := by decide +kernel
theorem dX12_deep_17 : decode cX12_deep 17 = .ok (.iaload, 1) := by decide +kernel
theorem dX12_deep_18 : decode cX12_deep 18 = .ok (.ifCond .ge 6, 3) := by decide +kernel
theorem dX12_deep_21 : decode cX12_deep 21 = .ok (.iinc 1 1, 3) := by decide +kernel
theorem dX12_deep_24 : decode cX12_deep 24 = .ok (.iinc 2 1, 3) := by decide +kernel
theorem dX12_deep_27 : decode cX12_deep 27 = .ok (.goto (-23), 3) := by decide +kernel
theorem dX12_deep_30 : decode cX12_deep 30 = .ok (.iload_n 1, 1) := by decide +kernel
theorem dX12_deep_31 : decode cX12_deep 31 = .ok (.ireturn, 1) := by decide +kernel
theorem dX12_starts_0 : decode cX12_starts 0 = .ok (.aload_n 0, 1) := by decide +kernel
theorem dX12_starts_1 : decode cX12_starts 1 = .ok (.getfield 165, 3) := by decide +kernel
theorem dX12_starts_4 : decode cX12_starts 4 = .ok (.iload_n 1, 1) := by decide +kernel
theorem dX12_starts_5 : decode cX12_starts 5 = .ok (.baload, 1) := by decide +kernel
theorem dX12_starts_6 : decode cX12_starts 6 = .ok (.istore_n 2, 1) := by decide +kernel
theorem dX12_starts_7 : decode cX12_starts 7 = .ok (.aload_n 0, 1) := by decide +kernel
theorem dX12_starts_8 : decode cX12_starts 8 = .ok (.getfield 165, 3) := by decide +kernel
theorem dX12_starts_11 : decode cX12_starts 11 = .ok (.iload_n 1, 1) := by decide +kernel
theorem dX12_starts_12 : decode cX12_starts 12 = .ok (.iconst 1, 1) := by decide +kernel
theorem dX12_starts_13 : decode cX12_starts 13 = .ok (.bastore, 1) := by decide +kernel
theorem dX12_starts_14 : decode cX12_starts 14 = .ok (.aload_n 0, 1) := by decide +kernel
theorem dX12_starts_15 : decode cX12_starts 15 = .ok (.getfield 168, 3) := by decide +kernel
theorem dX12_starts_18 : decode cX12_starts 18 = .ok (.iload_n 1, 1) := by decide +kernel
theorem dX12_starts_19 : decode cX12_starts 19 = .ok (.aload_n 0, 1) := by decide +kernel
theorem dX12_starts_20 : decode cX12_starts 20 = .ok (.getfield 82, 3) := by decide +kernel
theorem dX12_starts_23 : decode cX12_starts 23 = .ok (.bipush 12, 2) := by decide +kernel
theorem dX12_starts_25 : decode cX12_starts 25 = .ok (.aload_n 0, 1) := by decide +kernel
theorem dX12_starts_26 : decode cX12_starts 26 = .ok (.getfield 308, 3) := by decide +kernel
theorem dX12_starts_29 : decode cX12_starts 29 = .ok (.imul, 1) := by decide +kernel
theorem dX12_starts_30 : decode cX12_starts 30 = .ok (.iload_n 1, 1) := by decide +kernel
theorem dX12_starts_31 : decode cX12_starts 31 = .ok (.iadd, 1) := by decide +kernel
theorem dX12_starts_32 : decode cX12_starts 32 = .ok (.iaload, 1) := by decide +kernel
theorem dX12_starts_33 : decode cX12_starts 33 = .ok (.iastore, 1) := by decide +kernel
theorem dX12_starts_34 : decode cX12_starts 34 = .ok (.iload_n 2, 1) := by decide +kernel
theorem dX12_starts_35 : decode cX12_starts 35 = .ok (.ifCond .eq 4, 3) := by decide +kernel
theorem dX12_starts_38 : decode cX12_starts 38 = .ok (.return_, 1) := by decide +kernel
theorem dX12_starts_39 : decode cX12_starts 39 = .ok (.aload_n 0, 1) := by decide +kernel
theorem dX12_starts_40 : decode cX12_starts 40 = .ok (.getfield 171, 3) := by decide +kernel
theorem dX12_starts_43 : decode cX12_starts 43 = .ok (.iload_n 1, 1) := by decide +kernel
theorem dX12_starts_44 : decode cX12_starts 44 = .ok (.dup2, 1) := by decide +kernel
theorem dX12_starts_45 : decode cX12_starts 45 = .ok (.iaload, 1) := by decide +kernel
theorem dX12_starts_46 : decode cX12_starts 46 = .ok (.iconst 1, 1) := by decide +kernel
theorem dX12_starts_47 : decode cX12_starts 47 = .ok (.iadd, 1) := by decide +kernel
theorem dX12_starts_48 : decode cX12_starts 48 = .ok (.iastore, 1) := by decide +kernel
theorem dX12_starts_49 : decode cX12_starts 49 = .ok (.aload_n 0, 1) := by decide +kernel
theorem dX12_starts_50 : decode cX12_starts 50 = .ok (.invokevirtual 439, 3) := by decide +kernel
theorem dX12_starts_53 : decode cX12_starts 53 = .ok (.bipush 8, 2) := by decide +kernel
theorem dX12_starts_55 : decode cX12_starts 55 = .ok (.if_icmp .ge 9, 3) := by decide +kernel
theorem dX12_starts_58 : decode cX12_starts 58 = .ok (.aload_n 0, 1) := by decide +kernel
theorem dX12_starts_59 : decode cX12_starts 59 = .ok (.iload_n 1, 1) := by decide +kernel
theorem dX12_starts_60 : decode cX12_starts 60 = .ok (.iconst (-1), 1) := by decide +kernel
theorem dX12_starts_61 : decode cX12_starts 61 = .ok (.invokevirtual 443, 3) := by decide +kernel
theorem dX12_starts_64 : decode cX12_starts 64 = .ok (.return_, 1) := by decide +kernel
theorem dX12_leaves_0 : decode cX12_leaves 0 = .ok (.aload_n 0, 1) := by decide +kernel
theorem dX12_leaves_1 : decode cX12_leaves 1 = .ok (.getfield 165, 3) := by decide +kernel
theorem dX12_leaves_4 : decode cX12_leaves 4 = .ok (.iload_n 1, 1) := by decide +kernel
theorem dX12_leaves_5 : decode cX12_leaves 5 = .ok (.baload, 1) := by decide +kernel
theorem dX12_leaves_6 : decode cX12_leaves 6 = .ok (.ifCond .ne 4, 3) := by decide +kernel
theorem dX12_leaves_9 : decode cX12_leaves 9 = .ok (.return_, 1) := by decide +kernel
theorem dX12_leaves_10 : decode cX12_leaves 10 = .ok (.aload_n 0, 1) := by decide +kernel
theorem dX12_leaves_11 : decode cX12_leaves 11 = .ok (.getfield 165, 3) := by decide +kernel
theorem dX12_leaves_14 : decode cX12_leaves 14 = .ok (.iload_n 1, 1) := by decide +kernel
theorem dX12_leaves_15 : decode cX12_leaves 15 = .ok (.iconst 0, 1) := by decide +kernel
theorem dX12_leaves_16 : decode cX12_leaves 16 = .ok (.bastore, 1) := by decide +kernel
theorem dX12_leaves_17 : decode cX12_leaves 17 = .ok (.aload_n 0, 1) := by decide +kernel
theorem dX12_leaves_18 : decode cX12_leaves 18 = .ok (.getfield 168, 3) := by decide +kernel
theorem dX12_leaves_21 : decode cX12_leaves 21 = .ok (.iload_n 1, 1) := by decide +kernel
theorem dX12_leaves_22 : decode cX12_leaves 22 = .ok (.iconst 0, 1) := by decide +kernel
theorem dX12_leaves_23 : decode cX12_leaves 23 = .ok (.iastore, 1) := by decide +kernel
theorem dX12_leaves_24 : decode cX12_leaves 24 = .ok (.aload_n 0, 1) := by decide +kernel
theorem dX12_leaves_25 : decode cX12_leaves 25 = .ok (.getfield 174, 3) := by decide +kernel
theorem dX12_leaves_28 : decode cX12_leaves 28 = .ok (.iload_n 1, 1) := by decide +kernel
theorem dX12_leaves_29 : decode cX12_leaves 29 = .ok (.dup2, 1) := by decide +kernel
theorem dX12_leaves_30 : decode cX12_leaves 30 = .ok (.iaload, 1) := by decide +kernel
theorem dX12_leaves_31 : decode cX12_leaves 31 = .ok (.iconst 1, 1) := by decide +kernel
theorem dX12_leaves_32 : decode cX12_leaves 32 = .ok (.iadd, 1) := by decide +kernel
theorem dX12_leaves_33 : decode cX12_leaves 33 = .ok (.iastore, 1) := by decide +kernel
theorem dX12_leaves_34 : decode cX12_leaves 34 = .ok (.aload_n 0, 1) := by decide +kernel
theorem dX12_leaves_35 : decode cX12_leaves 35 = .ok (.invokevirtual 439, 3) := by decide +kernel
theorem dX12_leaves_38 : decode cX12_leaves 38 = .ok (.bipush 8, 2) := by decide +kernel
theorem dX12_leaves_40 : decode cX12_leaves 40 = .ok (.if_icmp .ge 10, 3) := by decide +kernel
theorem dX12_leaves_43 : decode cX12_leaves 43 = .ok (.aload_n 0, 1) := by decide +kernel
theorem dX12_leaves_44 : decode cX12_leaves 44 = .ok (.iload_n 1, 1) := by decide +kernel
theorem dX12_leaves_45 : decode cX12_leaves 45 = .ok (.bipush (-2), 2) := by decide +kernel
theorem dX12_leaves_47 : decode cX12_leaves 47 = .ok (.invokevirtual 443, 3) := by decide +kernel
theorem dX12_leaves_50 : decode cX12_leaves 50 = .ok (.return_, 1) := by decide +kernel
theorem dX12_term_0 : decode cX12_term 0 = .ok (.iconst 0, 1) := by decide +kernel
theorem dX12_term_1 : decode cX12_term 1 = .ok (.istore 4, 2) := by decide +kernel
theorem dX12_term_3 : decode cX12_term 3 = .ok (.iload_n 1, 1) := by decide +kernel
theorem dX12_term_4 : decode cX12_term 4 = .ok (.istore 5, 2) := by decide +kernel
theorem dX12_term_6 : decode cX12_term 6 = .ok (.iload 5, 2) := by decide +kernel
theorem dX12_term_8 : decode cX12_term 8 = .ok (.iload_n 2, 1) := by decide +kernel
theorem dX12_term_9 : decode cX12_term 9 = .ok (.if_icmp .ge 186, 3) := by decide +kernel
theorem dX12_term_12 : decode cX12_term 12 = .ok (.aload_n 0, 1) := by decide +kernel
theorem dX12_term_13 : decode cX12_term 13 = .ok (.getfield 127, 3) := by decide +kernel
theorem dX12_term_16 : decode cX12_term 16 = .ok (.iload 5, 2) := by decide +kernel
theorem dX12_term_18 : decode cX12_term 18 = .ok (.iaload, 1) := by decide +kernel
theorem dX12_term_19 : decode cX12_term 19 = .ok (.istore 6, 2) := by decide +kernel
theorem dX12_term_21 : decode cX12_term 21 = .ok (.iload 6, 2) := by decide +kernel
theorem dX12_term_23 : decode cX12_term 23 = .ok (.iconst 4, 1) := by decide +kernel
theorem dX12_term_24 : decode cX12_term 24 = .ok (.if_icmp .ge 71, 3) := by decide +kernel
theorem dX12_term_27 : decode cX12_term 27 = .ok (.aload_n 0, 1) := by decide +kernel
theorem dX12_term_28 : decode cX12_term 28 = .ok (.getfield 207, 3) := by decide +kernel
theorem dX12_term_31 : decode cX12_term 31 = .ok (.iload 4, 2) := by decide +kernel
theorem dX12_term_33 : decode cX12_term 33 = .ok (.iload 6, 2) := by decide +kernel
theorem dX12_term_35 : decode cX12_term 35 = .ok (.ifCond .ne 13, 3) := by decide +kernel
theorem dX12_term_38 : decode cX12_term 38 = .ok (.aload_n 0, 1) := by decide +kernel
theorem dX12_term_39 : decode cX12_term 39 = .ok (.getfield 130, 3) := by decide +kernel
theorem dX12_term_42 : decode cX12_term 42 = .ok (.iload 5, 2) := by decide +kernel
theorem dX12_term_44 : decode cX12_term 44 = .ok (.iaload, 1) := by decide +kernel
theorem dX12_term_45 : decode cX12_term 45 = .ok (.goto 43, 3) := by decide +kernel
theorem dX12_term_48 : decode cX12_term 48 = .ok (.iload 6, 2) := by decide +kernel
theorem dX12_term_50 : decode cX12_term 50 = .ok (.iconst 1, 1) := by decide +kernel
theorem dX12_term_51 : decode cX12_term 51 = .ok (.if_icmp .ne 18, 3) := by decide +kernel
theorem dX12_term_54 : decode cX12_term 54 = .ok (.aload_n 0, 1) := by decide +kernel
theorem dX12_term_55 : decode cX12_term 55 = .ok (.getfield 147, 3) := by decide +kernel
theorem dX12_term_58 : decode cX12_term 58 = .ok (.aload_n 0, 1) := by decide +kernel
theorem dX12_term_59 : decode cX12_term 59 = .ok (.getfield 130, 3) := by decide +kernel
theorem dX12_term_62 : decode cX12_term 62 = .ok (.iload 5, 2) := by decide +kernel
theorem dX12_term_64 : decode cX12_term 64 = .ok (.iaload, 1) := by decide +kernel
theorem dX12_term_65 : decode cX12_term 65 = .ok (.iaload, 1) := by decide +kernel
theorem dX12_term_66 : decode cX12_term 66 = .ok (.goto 22, 3) := by decide +kernel
theorem dX12_term_69 : decode cX12_term 69 = .ok (.iload 6, 2) := by decide +kernel
theorem dX12_term_71 : decode cX12_term 71 = .ok (.iconst 2, 1) := by decide +kernel
theorem dX12_term_72 : decode cX12_term 72 = .ok (.if_icmp .ne 12, 3) := by decide +kernel
theorem dX12_term_75 : decode cX12_term 75 = .ok (.aload_n 0, 1) := by decide +kernel
theorem dX12_term_76 : decode cX12_term 76 = .ok (.getfield 168, 3) := by decide +kernel
theorem dX12_term_79 : decode cX12_term 79 = .ok (.iload_n 3, 1) := by decide +kernel
theorem dX12_term_80 : decode cX12_term 80 = .ok (.iaload, 1) := by decide +kernel
theorem dX12_term_81 : decode cX12_term 81 = .ok (.goto 7, 3) := by decide +kernel
theorem dX12_term_84 : decode cX12_term 84 = .ok (.aload_n 0, 1) := by decide +kernel
theorem dX12_term_85 : decode cX12_term 85 = .ok (.getfield 382, 3) := by decide +kernel
theorem dX12_term_88 : decode cX12_term 88 = .ok (.iastore, 1) := by decide +kernel
theorem dX12_term_89 : decode cX12_term 89 = .ok (.iinc 4 1, 3) := by decide +kernel
theorem dX12_term_92 : decode cX12_term 92 = .ok (.goto 97, 3) := by decide +kernel
theorem dX12_term_95 : decode cX12_term 95 = .ok (.iload 6, 2) := by decide +kernel
theorem dX12_term_97 : decode cX12_term 97 = .ok (.bipush 7, 2) := by decide +kernel
theorem dX12_term_99 : decode cX12_term 99 = .ok (.if_icmp .ne 25, 3) := by decide +kernel
theorem dX12_term_102 : decode cX12_term 102 = .ok (.aload_n 0, 1) := by decide +kernel
theorem dX12_term_103 : decode cX12_term 103 = .ok (.getfield 207, 3) := by decide +kernel
theorem dX12_term_106 : decode cX12_term 106 = .ok (.iload 4, 2) := by decide +kernel
theorem dX12_term_108 : decode cX12_term 108 = .ok (.iconst 1, 1) := by decide +kernel
theorem dX12_term_109 : decode cX12_term 109 = .ok (.isub, 1) := by decide +kernel
theorem dX12_term_110 : decode cX12_term 110 = .ok (.aload_n 0, 1) := by decide +kernel
theorem dX12_term_111 : decode cX12_term 111 = .ok (.getfield 207, 3) := by decide +kernel
theorem dX12_term_114 : decode cX12_term 114 = .ok (.iload 4, 2) := by decide +kernel
theorem dX12_term_116 : decode cX12_term 116 = .ok (.iconst 1, 1) := by decide +kernel
theorem dX12_term_117 : decode cX12_term 117 = .ok (.isub, 1) := by decide +kernel
theorem dX12_term_118 : decode cX12_term 118 = .ok (.iaload, 1) := by decide +kernel
theorem dX12_term_119 : decode cX12_term 119 = .ok (.ineg, 1) := by decide +kernel
theorem dX12_term_120 : decode cX12_term 120 = .ok (.iastore, 1) := by decide +kernel
theorem dX12_term_121 : decode cX12_term 121 = .ok (.goto 68, 3) := by decide +kernel
theorem dX12_term_124 : decode cX12_term 124 = .ok (.iinc 4 (-1), 3) := by decide +kernel
theorem dX12_term_127 : decode cX12_term 127 = .ok (.aload_n 0, 1) := by decide +kernel
theorem dX12_term_128 : decode cX12_term 128 = .ok (.getfield 207, 3) := by decide +kernel
theorem dX12_term_131 : decode cX12_term 131 = .ok (.iload 4, 2) := by decide +kernel
theorem dX12_term_133 : decode cX12_term 133 = .ok (.iconst 1, 1) := by decide +kernel
theorem dX12_term_134 : decode cX12_term 134 = .ok (.isub, 1) := by decide +kernel
theorem dX12_term_135 : decode cX12_term 135 = .ok (.iaload, 1) := by decide +kernel
theorem dX12_term_136 : decode cX12_term 136 = .ok (.istore 7, 2) := by decide +kernel
theorem dX12_term_138 : decode cX12_term 138 = .ok (.aload_n 0, 1) := by decide +kernel
theorem dX12_term_139 : decode cX12_term 139 = .ok (.getfield 207, 3) := by decide +kernel
theorem dX12_term_142 : decode cX12_term 142 = .ok (.iload 4, 2) := by decide +kernel
theorem dX12_term_144 : decode cX12_term 144 = .ok (.iaload, 1) := by decide +kernel
theorem dX12_term_145 : decode cX12_term 145 = .ok (.istore 8, 2) := by decide +kernel
theorem dX12_term_147 : decode cX12_term 147 = .ok (.aload_n 0, 1) := by decide +kernel
theorem dX12_term_148 : decode cX12_term 148 = .ok (.getfield 207, 3) := by decide +kernel
theorem dX12_term_151 : decode cX12_term 151 = .ok (.iload 4, 2) := by decide +kernel
theorem dX12_term_153 : decode cX12_term 153 = .ok (.iconst 1, 1) := by decide +kernel
theorem dX12_term_154 : decode cX12_term 154 = .ok (.isub, 1) := by decide +kernel
theorem dX12_term_155 : decode cX12_term 155 = .ok (.iload 6, 2) := by decide +kernel
theorem dX12_term_157 : decode cX12_term 157 = .ok (.iconst 4, 1) := by decide +kernel
theorem dX12_term_158 : decode cX12_term 158 = .ok (.if_icmp .ne 11, 3) := by decide +kernel
theorem dX12_term_161 : decode cX12_term 161 = .ok (.iload 7, 2) := by decide +kernel
theorem dX12_term_163 : decode cX12_term 163 = .ok (.iload 8, 2) := by decide +kernel
theorem dX12_term_165 : decode cX12_term 165 = .ok (.iadd, 1) := by decide +kernel
theorem dX12_term_166 : decode cX12_term 166 = .ok (.goto 22, 3) := by decide +kernel
theorem dX12_term_169 : decode cX12_term 169 = .ok (.iload 6, 2) := by decide +kernel
theorem dX12_term_171 : decode cX12_term 171 = .ok (.iconst 5, 1) := by decide +kernel
theorem dX12_term_172 : decode cX12_term 172 = .ok (.if_icmp .ne 11, 3) := by decide +kernel
theorem dX12_term_175 : decode cX12_term 175 = .ok (.iload 7, 2) := by decide +kernel
theorem dX12_term_177 : decode cX12_term 177 = .ok (.iload 8, 2) := by decide +kernel
theorem dX12_term_179 : decode cX12_term 179 = .ok (.isub, 1) := by decide +kernel
theorem dX12_term_180 : decode cX12_term 180 = .ok (.goto 8, 3) := by decide +kernel
theorem dX12_term_183 : decode cX12_term 183 = .ok (.iload 7, 2) := by decide +kernel
theorem dX12_term_185 : decode cX12_term 185 = .ok (.iload 8, 2) := by decide +kernel
theorem dX12_term_187 : decode cX12_term 187 = .ok (.imul, 1) := by decide +kernel
theorem dX12_term_188 : decode cX12_term 188 = .ok (.iastore, 1) := by decide +kernel
theorem dX12_term_189 : decode cX12_term 189 = .ok (.iinc 5 1, 3) := by decide +kernel
theorem dX12_term_192 : decode cX12_term 192 = .ok (.goto (-186), 3) := by decide +kernel
theorem dX12_term_195 : decode cX12_term 195 = .ok (.aload_n 0, 1) := by decide +kernel
theorem dX12_term_196 : decode cX12_term 196 = .ok (.getfield 207, 3) := by decide +kernel
theorem dX12_term_199 : decode cX12_term 199 = .ok (.iconst 0, 1) := by decide +kernel
theorem dX12_term_200 : decode cX12_term 200 = .ok (.iaload, 1) := by decide +kernel
theorem dX12_term_201 : decode cX12_term 201 = .ok (.ireturn, 1) := by decide +kernel
theorem dX12_holds_0 : decode cX12_holds 0 = .ok (.aload_n 0, 1) := by decide +kernel
theorem dX12_holds_1 : decode cX12_holds 1 = .ok (.getfield 91, 3) := by decide +kernel
theorem dX12_holds_4 : decode cX12_holds 4 = .ok (.bipush 81, 2) := by decide +kernel
theorem dX12_holds_6 : decode cX12_holds 6 = .ok (.aload_n 0, 1) := by decide +kernel
theorem dX12_holds_7 : decode cX12_holds 7 = .ok (.getfield 308, 3) := by decide +kernel
theorem dX12_holds_10 : decode cX12_holds 10 = .ok (.imul, 1) := by decide +kernel
theorem dX12_holds_11 : decode cX12_holds 11 = .ok (.iload_n 1, 1) := by decide +kernel
theorem dX12_holds_12 : decode cX12_holds 12 = .ok (.iadd, 1) := by decide +kernel
theorem dX12_holds_13 : decode cX12_holds 13 = .ok (.iaload, 1) := by decide +kernel
theorem dX12_holds_14 : decode cX12_holds 14 = .ok (.istore_n 3, 1) := by decide +kernel
theorem dX12_holds_15 : decode cX12_holds 15 = .ok (.iload_n 3, 1) := by decide +kernel
theorem dX12_holds_16 : decode cX12_holds 16 = .ok (.aload_n 0, 1) := by decide +kernel
theorem dX12_holds_17 : decode cX12_holds 17 = .ok (.getfield 91, 3) := by decide +kernel
theorem dX12_holds_20 : decode cX12_holds 20 = .ok (.bipush 81, 2) := by decide +kernel
theorem dX12_holds_22 : decode cX12_holds 22 = .ok (.aload_n 0, 1) := by decide +kernel
theorem dX12_holds_23 : decode cX12_holds 23 = .ok (.getfield 308, 3) := by decide +kernel
theorem dX12_holds_26 : decode cX12_holds 26 = .ok (.imul, 1) := by decide +kernel
theorem dX12_holds_27 : decode cX12_holds 27 = .ok (.iload_n 1, 1) := by decide +kernel
theorem dX12_holds_28 : decode cX12_holds 28 = .ok (.iadd, 1) := by decide +kernel
theorem dX12_holds_29 : decode cX12_holds 29 = .ok (.iconst 1, 1) := by decide +kernel
theorem dX12_holds_30 : decode cX12_holds 30 = .ok (.iadd, 1) := by decide +kernel
theorem dX12_holds_31 : decode cX12_holds 31 = .ok (.iaload, 1) := by decide +kernel
theorem dX12_holds_32 : decode cX12_holds 32 = .ok (.if_icmp .ge 142, 3) := by decide +kernel
theorem dX12_holds_35 : decode cX12_holds 35 = .ok (.aload_n 0, 1) := by decide +kernel
theorem dX12_holds_36 : decode cX12_holds 36 = .ok (.aload_n 0, 1) := by decide +kernel
theorem dX12_holds_37 : decode cX12_holds 37 = .ok (.getfield 100, 3) := by decide +kernel
theorem dX12_holds_40 : decode cX12_holds 40 = .ok (.iload_n 3, 1) := by decide +kernel
theorem dX12_holds_41 : decode cX12_holds 41 = .ok (.iaload, 1) := by decide +kernel
theorem dX12_holds_42 : decode cX12_holds 42 = .ok (.aload_n 0, 1) := by decide +kernel
theorem dX12_holds_43 : decode cX12_holds 43 = .ok (.getfield 103, 3) := by decide +kernel
theorem dX12_holds_46 : decode cX12_holds 46 = .ok (.iload_n 3, 1) := by decide +kernel
theorem dX12_holds_47 : decode cX12_holds 47 = .ok (.iaload, 1) := by decide +kernel
theorem dX12_holds_48 : decode cX12_holds 48 = .ok (.iload_n 2, 1) := by decide +kernel
theorem dX12_holds_49 : decode cX12_holds 49 = .ok (.invokevirtual 446, 3) := by decide +kernel
theorem dX12_holds_52 : decode cX12_holds 52 = .ok (.istore 4, 2) := by decide +kernel
theorem dX12_holds_54 : decode cX12_holds 54 = .ok (.aload_n 0, 1) := by decide +kernel
theorem dX12_holds_55 : decode cX12_holds 55 = .ok (.aload_n 0, 1) := by decide +kernel
theorem dX12_holds_56 : decode cX12_holds 56 = .ok (.getfield 103, 3) := by decide +kernel
theorem dX12_holds_59 : decode cX12_holds 59 = .ok (.iload_n 3, 1) := by decide +kernel
theorem dX12_holds_60 : decode cX12_holds 60 = .ok (.iaload, 1) := by decide +kernel
theorem dX12_holds_61 : decode cX12_holds 61 = .ok (.aload_n 0, 1) := by decide +kernel
theorem dX12_holds_62 : decode cX12_holds 62 = .ok (.getfield 106, 3) := by decide +kernel
theorem dX12_holds_65 : decode cX12_holds 65 = .ok (.iload_n 3, 1) := by decide +kernel
theorem dX12_holds_66 : decode cX12_holds 66 = .ok (.iaload, 1) := by decide +kernel
theorem dX12_holds_67 : decode cX12_holds 67 = .ok (.iload_n 2, 1) := by decide +kernel
theorem dX12_holds_68 : decode cX12_holds 68 = .ok (.invokevirtual 446, 3) := by decide +kernel
theorem dX12_holds_71 : decode cX12_holds 71 = .ok (.istore 5, 2) := by decide +kernel
theorem dX12_holds_73 : decode cX12_holds 73 = .ok (.aload_n 0, 1) := by decide +kernel
theorem dX12_holds_74 : decode cX12_holds 74 = .ok (.getfield 97, 3) := by decide +kernel
theorem dX12_holds_77 : decode cX12_holds 77 = .ok (.iload_n 3, 1) := by decide +kernel
theorem dX12_holds_78 : decode cX12_holds 78 = .ok (.iaload, 1) := by decide +kernel
theorem dX12_holds_79 : decode cX12_holds 79 = .ok (.ifCond .ne 18, 3) := by decide +kernel
theorem dX12_holds_82 : decode cX12_holds 82 = .ok (.iload 4, 2) := by decide +kernel
theorem dX12_holds_84 : decode cX12_holds 84 = .ok (.iload 5, 2) := by decide +kernel
theorem dX12_holds_86 : decode cX12_holds 86 = .ok (.if_icmp .ne 7, 3) := by decide +kernel
theorem dX12_holds_89 : decode cX12_holds 89 = .ok (.iconst 1, 1) := by decide +kernel
theorem dX12_holds_90 : decode cX12_holds 90 = .ok (.goto 69, 3) := by decide +kernel
theorem dX12_holds_93 : decode cX12_holds 93 = .ok (.iconst 0, 1) := by decide +kernel
theorem dX12_holds_94 : decode cX12_holds 94 = .ok (.goto 65, 3) := by decide +kernel
theorem dX12_holds_97 : decode cX12_holds 97 = .ok (.aload_n 0, 1) := by decide +kernel
theorem dX12_holds_98 : decode cX12_holds 98 = .ok (.getfield 97, 3) := by decide +kernel
theorem dX12_holds_101 : decode cX12_holds 101 = .ok (.iload_n 3, 1) := by decide +kernel
theorem dX12_holds_102 : decode cX12_holds 102 = .ok (.iaload, 1) := by decide +kernel
theorem dX12_holds_103 : decode cX12_holds 103 = .ok (.iconst 1, 1) := by decide +kernel
theorem dX12_holds_104 : decode cX12_holds 104 = .ok (.if_icmp .ne 18, 3) := by decide +kernel
theorem dX12_holds_107 : decode cX12_holds 107 = .ok (.iload 4, 2) := by decide +kernel
theorem dX12_holds_109 : decode cX12_holds 109 = .ok (.iload 5, 2) := by decide +kernel
theorem dX12_holds_111 : decode cX12_holds 111 = .ok (.if_icmp .eq 7, 3) := by decide +kernel
theorem dX12_holds_114 : decode cX12_holds 114 = .ok (.iconst 1, 1) := by decide +kernel
theorem dX12_holds_115 : decode cX12_holds 115 = .ok (.goto 44, 3) := by decide +kernel
theorem dX12_holds_118 : decode cX12_holds 118 = .ok (.iconst 0, 1) := by decide +kernel
theorem dX12_holds_119 : decode cX12_holds 119 = .ok (.goto 40, 3) := by decide +kernel
theorem dX12_holds_122 : decode cX12_holds 122 = .ok (.aload_n 0, 1) := by decide +kernel
theorem dX12_holds_123 : decode cX12_holds 123 = .ok (.getfield 97, 3) := by decide +kernel
theorem dX12_holds_126 : decode cX12_holds 126 = .ok (.iload_n 3, 1) := by decide +kernel
theorem dX12_holds_127 : decode cX12_holds 127 = .ok (.iaload, 1) := by decide +kernel
theorem dX12_holds_128 : decode cX12_holds 128 = .ok (.iconst 2, 1) := by decide +kernel
theorem dX12_holds_129 : decode cX12_holds 129 = .ok (.if_icmp .ne 18, 3) := by decide +kernel
theorem dX12_holds_132 : decode cX12_holds 132 = .ok (.iload 4, 2) := by decide +kernel
theorem dX12_holds_134 : decode cX12_holds 134 = .ok (.iload 5, 2) := by decide +kernel
theorem dX12_holds_136 : decode cX12_holds 136 = .ok (.if_icmp .ge 7, 3) := by decide +kernel
theorem dX12_holds_139 : decode cX12_holds 139 = .ok (.iconst 1, 1) := by decide +kernel
theorem dX12_holds_140 : decode cX12_holds 140 = .ok (.goto 19, 3) := by decide +kernel
theorem dX12_holds_143 : decode cX12_holds 143 = .ok (.iconst 0, 1) := by decide +kernel
theorem dX12_holds_144 : decode cX12_holds 144 = .ok (.goto 15, 3) := by decide +kernel
theorem dX12_holds_147 : decode cX12_holds 147 = .ok (.iload 4, 2) := by decide +kernel
theorem dX12_holds_149 : decode cX12_holds 149 = .ok (.iload 5, 2) := by decide +kernel
theorem dX12_holds_151 : decode cX12_holds 151 = .ok (.if_icmp .gt 7, 3) := by decide +kernel
theorem dX12_holds_154 : decode cX12_holds 154 = .ok (.iconst 1, 1) := by decide +kernel
theorem dX12_holds_155 : decode cX12_holds 155 = .ok (.goto 4, 3) := by decide +kernel
theorem dX12_holds_158 : decode cX12_holds 158 = .ok (.iconst 0, 1) := by decide +kernel
theorem dX12_holds_159 : decode cX12_holds 159 = .ok (.istore 6, 2) := by decide +kernel
theorem dX12_holds_161 : decode cX12_holds 161 = .ok (.iload 6, 2) := by decide +kernel
theorem dX12_holds_163 : decode cX12_holds 163 = .ok (.ifCond .ne 5, 3) := by decide +kernel
theorem dX12_holds_166 : decode cX12_holds 166 = .ok (.iconst 0, 1) := by decide +kernel
theorem dX12_holds_167 : decode cX12_holds 167 = .ok (.ireturn, 1) := by decide +kernel
theorem dX12_holds_168 : decode cX12_holds 168 = .ok (.iinc 3 1, 3) := by decide +kernel
theorem dX12_holds_171 : decode cX12_holds 171 = .ok (.goto (-156), 3) := by decide +kernel
theorem dX12_holds_174 : decode cX12_holds 174 = .ok (.iconst 1, 1) := by decide +kernel
theorem dX12_holds_175 : decode cX12_holds 175 = .ok (.ireturn, 1) := by decide +kernel
theorem dX12_works_0 : decode cX12_works 0 = .ok (.aload_n 0, 1) := by decide +kernel
theorem dX12_works_1 : decode cX12_works 1 = .ok (.getfield 425, 3) := by decide +kernel
theorem dX12_works_4 : decode cX12_works 4 = .ok (.ifCond .le 121, 3) := by decide +kernel
theorem dX12_works_7 : decode cX12_works 7 = .ok (.aload_n 0, 1) := by decide +kernel
theorem dX12_works_8 : decode cX12_works 8 = .ok (.getfield 422, 3) := by decide +kernel
theorem dX12_works_11 : decode cX12_works 11 = .ok (.ifCond .ne 114, 3) := by decide +kernel
theorem dX12_works_14 : decode cX12_works 14 = .ok (.aload_n 0, 1) := by decide +kernel
theorem dX12_works_15 : decode cX12_works 15 = .ok (.getfield 425, 3) := by decide +kernel
theorem dX12_works_18 : decode cX12_works 18 = .ok (.iconst 1, 1) := by decide +kernel
theorem dX12_works_19 : decode cX12_works 19 = .ok (.isub, 1) := by decide +kernel
theorem dX12_works_20 : decode cX12_works 20 = .ok (.istore_n 1, 1) := by decide +kernel
theorem dX12_works_21 : decode cX12_works 21 = .ok (.aload_n 0, 1) := by decide +kernel
theorem dX12_works_22 : decode cX12_works 22 = .ok (.getfield 198, 3) := by decide +kernel
theorem dX12_works_25 : decode cX12_works 25 = .ok (.iload_n 1, 1) := by decide +kernel
theorem dX12_works_26 : decode cX12_works 26 = .ok (.iaload, 1) := by decide +kernel
theorem dX12_works_27 : decode cX12_works 27 = .ok (.aload_n 0, 1) := by decide +kernel
theorem dX12_works_28 : decode cX12_works 28 = .ok (.getfield 201, 3) := by decide +kernel
theorem dX12_works_31 : decode cX12_works 31 = .ok (.iload_n 1, 1) := by decide +kernel
theorem dX12_works_32 : decode cX12_works 32 = .ok (.iaload, 1) := by decide +kernel
theorem dX12_works_33 : decode cX12_works 33 = .ok (.if_icmp .ge 71, 3) := by decide +kernel
theorem dX12_works_36 : decode cX12_works 36 = .ok (.aload_n 0, 1) := by decide +kernel
theorem dX12_works_37 : decode cX12_works 37 = .ok (.getfield 419, 3) := by decide +kernel
theorem dX12_works_40 : decode cX12_works 40 = .ok (.sipush 200, 3) := by decide +kernel
theorem dX12_works_43 : decode cX12_works 43 = .ok (.if_icmp .ne 19, 3) := by decide +kernel
theorem dX12_works_46 : decode cX12_works 46 = .ok (.aload_n 0, 1) := by decide +kernel
theorem dX12_works_47 : decode cX12_works 47 = .ok (.iconst 1, 1) := by decide +kernel
theorem dX12_works_48 : decode cX12_works 48 = .ok (.putfield 422, 3) := by decide +kernel
theorem dX12_works_51 : decode cX12_works 51 = .ok (.aload_n 0, 1) := by decide +kernel
theorem dX12_works_52 : decode cX12_works 52 = .ok (.iconst 1, 1) := by decide +kernel
theorem dX12_works_53 : decode cX12_works 53 = .ok (.putfield 398, 3) := by decide +kernel
theorem dX12_works_56 : decode cX12_works 56 = .ok (.aload_n 0, 1) := by decide +kernel
theorem dX12_works_57 : decode cX12_works 57 = .ok (.iconst 0, 1) := by decide +kernel
theorem dX12_works_58 : decode cX12_works 58 = .ok (.putfield 425, 3) := by decide +kernel
theorem dX12_works_61 : decode cX12_works 61 = .ok (.return_, 1) := by decide +kernel
theorem dX12_works_62 : decode cX12_works 62 = .ok (.aload_n 0, 1) := by decide +kernel
theorem dX12_works_63 : decode cX12_works 63 = .ok (.dup, 1) := by decide +kernel
theorem dX12_works_64 : decode cX12_works 64 = .ok (.getfield 419, 3) := by decide +kernel
theorem dX12_works_67 : decode cX12_works 67 = .ok (.iconst 1, 1) := by decide +kernel
theorem dX12_works_68 : decode cX12_works 68 = .ok (.iadd, 1) := by decide +kernel
theorem dX12_works_69 : decode cX12_works 69 = .ok (.putfield 419, 3) := by decide +kernel
theorem dX12_works_72 : decode cX12_works 72 = .ok (.aload_n 0, 1) := by decide +kernel
theorem dX12_works_73 : decode cX12_works 73 = .ok (.getfield 198, 3) := by decide +kernel
theorem dX12_works_76 : decode cX12_works 76 = .ok (.iload_n 1, 1) := by decide +kernel
theorem dX12_works_77 : decode cX12_works 77 = .ok (.dup2, 1) := by decide +kernel
theorem dX12_works_78 : decode cX12_works 78 = .ok (.iaload, 1) := by decide +kernel
theorem dX12_works_79 : decode cX12_works 79 = .ok (.iconst 1, 1) := by decide +kernel
theorem dX12_works_80 : decode cX12_works 80 = .ok (.iadd, 1) := by decide +kernel
theorem dX12_works_81 : decode cX12_works 81 = .ok (.iastore, 1) := by decide +kernel
theorem dX12_works_82 : decode cX12_works 82 = .ok (.aload_n 0, 1) := by decide +kernel
theorem dX12_works_83 : decode cX12_works 83 = .ok (.aload_n 0, 1) := by decide +kernel
theorem dX12_works_84 : decode cX12_works 84 = .ok (.getfield 198, 3) := by decide +kernel
theorem dX12_works_87 : decode cX12_works 87 = .ok (.iload_n 1, 1) := by decide +kernel
theorem dX12_works_88 : decode cX12_works 88 = .ok (.iaload, 1) := by decide +kernel
theorem dX12_works_89 : decode cX12_works 89 = .ok (.iconst 1, 1) := by decide +kernel
theorem dX12_works_90 : decode cX12_works 90 = .ok (.isub, 1) := by decide +kernel
theorem dX12_works_91 : decode cX12_works 91 = .ok (.aload_n 0, 1) := by decide +kernel
theorem dX12_works_92 : decode cX12_works 92 = .ok (.getfield 189, 3) := by decide +kernel
theorem dX12_works_95 : decode cX12_works 95 = .ok (.iload_n 1, 1) := by decide +kernel
theorem dX12_works_96 : decode cX12_works 96 = .ok (.iaload, 1) := by decide +kernel
theorem dX12_works_97 : decode cX12_works 97 = .ok (.iload_n 1, 1) := by decide +kernel
theorem dX12_works_98 : decode cX12_works 98 = .ok (.invokevirtual 449, 3) := by decide +kernel
theorem dX12_works_101 : decode cX12_works 101 = .ok (.goto 21, 3) := by decide +kernel
theorem dX12_works_104 : decode cX12_works 104 = .ok (.aload_n 0, 1) := by decide +kernel
theorem dX12_works_105 : decode cX12_works 105 = .ok (.iload_n 1, 1) := by decide +kernel
theorem dX12_works_106 : decode cX12_works 106 = .ok (.invokevirtual 453, 3) := by decide +kernel
theorem dX12_works_109 : decode cX12_works 109 = .ok (.ifCond .ne 13, 3) := by decide +kernel
theorem dX12_works_112 : decode cX12_works 112 = .ok (.aload_n 0, 1) := by decide +kernel
theorem dX12_works_113 : decode cX12_works 113 = .ok (.dup, 1) := by decide +kernel
theorem dX12_works_114 : decode cX12_works 114 = .ok (.getfield 425, 3) := by decide +kernel
theorem dX12_works_117 : decode cX12_works 117 = .ok (.iconst 1, 1) := by decide +kernel
theorem dX12_works_118 : decode cX12_works 118 = .ok (.isub, 1) := by decide +kernel
theorem dX12_works_119 : decode cX12_works 119 = .ok (.putfield 425, 3) := by decide +kernel
theorem dX12_works_122 : decode cX12_works 122 = .ok (.goto (-122), 3) := by decide +kernel
theorem dX12_works_125 : decode cX12_works 125 = .ok (.return_, 1) := by decide +kernel
theorem dX12_nextRule_0 : decode cX12_nextRule 0 = .ok (.aload_n 0, 1) := by decide +kernel
theorem dX12_nextRule_1 : decode cX12_nextRule 1 = .ok (.getfield 189, 3) := by decide +kernel
theorem dX12_nextRule_4 : decode cX12_nextRule 4 = .ok (.iload_n 1, 1) := by decide +kernel
theorem dX12_nextRule_5 : decode cX12_nextRule 5 = .ok (.iaload, 1) := by decide +kernel
theorem dX12_nextRule_6 : decode cX12_nextRule 6 = .ok (.istore_n 2, 1) := by decide +kernel
theorem dX12_nextRule_7 : decode cX12_nextRule 7 = .ok (.aload_n 0, 1) := by decide +kernel
theorem dX12_nextRule_8 : decode cX12_nextRule 8 = .ok (.getfield 192, 3) := by decide +kernel
theorem dX12_nextRule_11 : decode cX12_nextRule 11 = .ok (.iload_n 1, 1) := by decide +kernel
theorem dX12_nextRule_12 : decode cX12_nextRule 12 = .ok (.iaload, 1) := by decide +kernel
theorem dX12_nextRule_13 : decode cX12_nextRule 13 = .ok (.ifCond .lt 17, 3) := by decide +kernel
theorem dX12_nextRule_16 : decode cX12_nextRule 16 = .ok (.aload_n 0, 1) := by decide +kernel
theorem dX12_nextRule_17 : decode cX12_nextRule 17 = .ok (.getfield 456, 3) := by decide +kernel
theorem dX12_nextRule_20 : decode cX12_nextRule 20 = .ok (.ifCond .eq 10, 3) := by decide +kernel
theorem dX12_nextRule_23 : decode cX12_nextRule 23 = .ok (.aload_n 0, 1) := by decide +kernel
theorem dX12_nextRule_24 : decode cX12_nextRule 24 = .ok (.iconst 1, 1) := by decide +kernel
theorem dX12_nextRule_25 : decode cX12_nextRule 25 = .ok (.putfield 459, 3) := by decide +kernel
theorem dX12_nextRule_28 : decode cX12_nextRule 28 = .ok (.iconst 0, 1) := by decide +kernel
theorem dX12_nextRule_29 : decode cX12_nextRule 29 = .ok (.ireturn, 1) := by decide +kernel
theorem dX12_nextRule_30 : decode cX12_nextRule 30 = .ok (.aload_n 0, 1) := by decide +kernel
theorem dX12_nextRule_31 : decode cX12_nextRule 31 = .ok (.getfield 192, 3) := by decide +kernel
theorem dX12_nextRule_34 : decode cX12_nextRule 34 = .ok (.iload_n 1, 1) := by decide +kernel
theorem dX12_nextRule_35 : decode cX12_nextRule 35 = .ok (.iaload, 1) := by decide +kernel
theorem dX12_nextRule_36 : decode cX12_nextRule 36 = .ok (.bipush (-2), 2) := by decide +kernel
theorem dX12_nextRule_38 : decode cX12_nextRule 38 = .ok (.if_icmp .eq 20, 3) := by decide +kernel
theorem dX12_nextRule_41 : decode cX12_nextRule 41 = .ok (.aload_n 0, 1) := by decide +kernel
theorem dX12_nextRule_42 : decode cX12_nextRule 42 = .ok (.getfield 174, 3) := by decide +kernel
theorem dX12_nextRule_45 : decode cX12_nextRule 45 = .ok (.iload_n 2, 1) := by decide +kernel
theorem dX12_nextRule_46 : decode cX12_nextRule 46 = .ok (.iaload, 1) := by decide +kernel
theorem dX12_nextRule_47 : decode cX12_nextRule 47 = .ok (.aload_n 0, 1) := by decide +kernel
theorem dX12_nextRule_48 : decode cX12_nextRule 48 = .ok (.getfield 204, 3) := by decide +kernel
theorem dX12_nextRule_51 : decode cX12_nextRule 51 = .ok (.iload_n 1, 1) := by decide +kernel
theorem dX12_nextRule_52 : decode cX12_nextRule 52 = .ok (.iaload, 1) := by decide +kernel
theorem dX12_nextRule_53 : decode cX12_nextRule 53 = .ok (.if_icmp .eq 5, 3) := by decide +kernel
theorem dX12_nextRule_56 : decode cX12_nextRule 56 = .ok (.iconst 0, 1) := by decide +kernel
theorem dX12_nextRule_57 : decode cX12_nextRule 57 = .ok (.ireturn, 1) := by decide +kernel
theorem dX12_nextRule_58 : decode cX12_nextRule 58 = .ok (.aload_n 0, 1) := by decide +kernel
theorem dX12_nextRule_59 : decode cX12_nextRule 59 = .ok (.getfield 195, 3) := by decide +kernel
theorem dX12_nextRule_62 : decode cX12_nextRule 62 = .ok (.iload_n 1, 1) := by decide +kernel
theorem dX12_nextRule_63 : decode cX12_nextRule 63 = .ok (.iaload, 1) := by decide +kernel
theorem dX12_nextRule_64 : decode cX12_nextRule 64 = .ok (.aload_n 0, 1) := by decide +kernel
theorem dX12_nextRule_65 : decode cX12_nextRule 65 = .ok (.getfield 85, 3) := by decide +kernel
theorem dX12_nextRule_68 : decode cX12_nextRule 68 = .ok (.bipush 13, 2) := by decide +kernel
theorem dX12_nextRule_70 : decode cX12_nextRule 70 = .ok (.aload_n 0, 1) := by decide +kernel
theorem dX12_nextRule_71 : decode cX12_nextRule 71 = .ok (.getfield 308, 3) := by decide +kernel
theorem dX12_nextRule_74 : decode cX12_nextRule 74 = .ok (.imul, 1) := by decide +kernel
theorem dX12_nextRule_75 : decode cX12_nextRule 75 = .ok (.iload_n 2, 1) := by decide +kernel
theorem dX12_nextRule_76 : decode cX12_nextRule 76 = .ok (.iadd, 1) := by decide +kernel
theorem dX12_nextRule_77 : decode cX12_nextRule 77 = .ok (.iconst 1, 1) := by decide +kernel
theorem dX12_nextRule_78 : decode cX12_nextRule 78 = .ok (.iadd, 1) := by decide +kernel
theorem dX12_nextRule_79 : decode cX12_nextRule 79 = .ok (.iaload, 1) := by decide +kernel
theorem dX12_nextRule_80 : decode cX12_nextRule 80 = .ok (.if_icmp .ge 99, 3) := by decide +kernel
theorem dX12_nextRule_83 : decode cX12_nextRule 83 = .ok (.aload_n 0, 1) := by decide +kernel
theorem dX12_nextRule_84 : decode cX12_nextRule 84 = .ok (.getfield 195, 3) := by decide +kernel
theorem dX12_nextRule_87 : decode cX12_nextRule 87 = .ok (.iload_n 1, 1) := by decide +kernel
theorem dX12_nextRule_88 : decode cX12_nextRule 88 = .ok (.iaload, 1) := by decide +kernel
theorem dX12_nextRule_89 : decode cX12_nextRule 89 = .ok (.istore_n 3, 1) := by decide +kernel
theorem dX12_nextRule_90 : decode cX12_nextRule 90 = .ok (.aload_n 0, 1) := by decide +kernel
theorem dX12_nextRule_91 : decode cX12_nextRule 91 = .ok (.getfield 195, 3) := by decide +kernel
theorem dX12_nextRule_94 : decode cX12_nextRule 94 = .ok (.iload_n 1, 1) := by decide +kernel
theorem dX12_nextRule_95 : decode cX12_nextRule 95 = .ok (.dup2, 1) := by decide +kernel
theorem dX12_nextRule_96 : decode cX12_nextRule 96 = .ok (.iaload, 1) := by decide +kernel
theorem dX12_nextRule_97 : decode cX12_nextRule 97 = .ok (.iconst 1, 1) := by decide +kernel
theorem dX12_nextRule_98 : decode cX12_nextRule 98 = .ok (.iadd, 1) := by decide +kernel
theorem dX12_nextRule_99 : decode cX12_nextRule 99 = .ok (.iastore, 1) := by decide +kernel
theorem dX12_nextRule_100 : decode cX12_nextRule 100 = .ok (.aload_n 0, 1) := by decide +kernel
theorem dX12_nextRule_101 : decode cX12_nextRule 101 = .ok (.getfield 88, 3) := by decide +kernel
theorem dX12_nextRule_104 : decode cX12_nextRule 104 = .ok (.bipush 80, 2) := by decide +kernel
theorem dX12_nextRule_106 : decode cX12_nextRule 106 = .ok (.aload_n 0, 1) := by decide +kernel
theorem dX12_nextRule_107 : decode cX12_nextRule 107 = .ok (.getfield 308, 3) := by decide +kernel
theorem dX12_nextRule_110 : decode cX12_nextRule 110 = .ok (.imul, 1) := by decide +kernel
theorem dX12_nextRule_111 : decode cX12_nextRule 111 = .ok (.iload_n 3, 1) := by decide +kernel
theorem dX12_nextRule_112 : decode cX12_nextRule 112 = .ok (.iadd, 1) := by decide +kernel
theorem dX12_nextRule_113 : decode cX12_nextRule 113 = .ok (.iaload, 1) := by decide +kernel
theorem dX12_nextRule_114 : decode cX12_nextRule 114 = .ok (.aload_n 0, 1) := by decide +kernel
theorem dX12_nextRule_115 : decode cX12_nextRule 115 = .ok (.getfield 192, 3) := by decide +kernel
theorem dX12_nextRule_118 : decode cX12_nextRule 118 = .ok (.iload_n 1, 1) := by decide +kernel
theorem dX12_nextRule_119 : decode cX12_nextRule 119 = .ok (.iaload, 1) := by decide +kernel
theorem dX12_nextRule_120 : decode cX12_nextRule 120 = .ok (.if_icmp .ne (-62), 3) := by decide +kernel
theorem dX12_nextRule_123 : decode cX12_nextRule 123 = .ok (.aload_n 0, 1) := by decide +kernel
theorem dX12_nextRule_124 : decode cX12_nextRule 124 = .ok (.iload_n 3, 1) := by decide +kernel
theorem dX12_nextRule_125 : decode cX12_nextRule 125 = .ok (.iload_n 2, 1) := by decide +kernel
theorem dX12_nextRule_126 : decode cX12_nextRule 126 = .ok (.invokevirtual 462, 3) := by decide +kernel
theorem dX12_nextRule_129 : decode cX12_nextRule 129 = .ok (.ifCond .ne 6, 3) := by decide +kernel
theorem dX12_nextRule_132 : decode cX12_nextRule 132 = .ok (.goto (-74), 3) := by decide +kernel
theorem dX12_nextRule_135 : decode cX12_nextRule 135 = .ok (.aload_n 0, 1) := by decide +kernel
theorem dX12_nextRule_136 : decode cX12_nextRule 136 = .ok (.getfield 198, 3) := by decide +kernel
theorem dX12_nextRule_139 : decode cX12_nextRule 139 = .ok (.iload_n 1, 1) := by decide +kernel
theorem dX12_nextRule_140 : decode cX12_nextRule 140 = .ok (.aload_n 0, 1) := by decide +kernel
theorem dX12_nextRule_141 : decode cX12_nextRule 141 = .ok (.getfield 94, 3) := by decide +kernel
theorem dX12_nextRule_144 : decode cX12_nextRule 144 = .ok (.bipush 81, 2) := by decide +kernel
theorem dX12_nextRule_146 : decode cX12_nextRule 146 = .ok (.aload_n 0, 1) := by decide +kernel
theorem dX12_nextRule_147 : decode cX12_nextRule 147 = .ok (.getfield 308, 3) := by decide +kernel
theorem dX12_nextRule_150 : decode cX12_nextRule 150 = .ok (.imul, 1) := by decide +kernel
theorem dX12_nextRule_151 : decode cX12_nextRule 151 = .ok (.iload_n 3, 1) := by decide +kernel
theorem dX12_nextRule_152 : decode cX12_nextRule 152 = .ok (.iadd, 1) := by decide +kernel
theorem dX12_nextRule_153 : decode cX12_nextRule 153 = .ok (.iaload, 1) := by decide +kernel
theorem dX12_nextRule_154 : decode cX12_nextRule 154 = .ok (.iastore, 1) := by decide +kernel
theorem dX12_nextRule_155 : decode cX12_nextRule 155 = .ok (.aload_n 0, 1) := by decide +kernel
theorem dX12_nextRule_156 : decode cX12_nextRule 156 = .ok (.getfield 201, 3) := by decide +kernel
theorem dX12_nextRule_159 : decode cX12_nextRule 159 = .ok (.iload_n 1, 1) := by decide +kernel
theorem dX12_nextRule_160 : decode cX12_nextRule 160 = .ok (.aload_n 0, 1) := by decide +kernel
theorem dX12_nextRule_161 : decode cX12_nextRule 161 = .ok (.getfield 94, 3) := by decide +kernel
theorem dX12_nextRule_164 : decode cX12_nextRule 164 = .ok (.bipush 81, 2) := by decide +kernel
theorem dX12_nextRule_166 : decode cX12_nextRule 166 = .ok (.aload_n 0, 1) := by decide +kernel
theorem dX12_nextRule_167 : decode cX12_nextRule 167 = .ok (.getfield 308, 3) := by decide +kernel
theorem dX12_nextRule_170 : decode cX12_nextRule 170 = .ok (.imul, 1) := by decide +kernel
theorem dX12_nextRule_171 : decode cX12_nextRule 171 = .ok (.iload_n 3, 1) := by decide +kernel
theorem dX12_nextRule_172 : decode cX12_nextRule 172 = .ok (.iadd, 1) := by decide +kernel
theorem dX12_nextRule_173 : decode cX12_nextRule 173 = .ok (.iconst 1, 1) := by decide +kernel
theorem dX12_nextRule_174 : decode cX12_nextRule 174 = .ok (.iadd, 1) := by decide +kernel
theorem dX12_nextRule_175 : decode cX12_nextRule 175 = .ok (.iaload, 1) := by decide +kernel
theorem dX12_nextRule_176 : decode cX12_nextRule 176 = .ok (.iastore, 1) := by decide +kernel
theorem dX12_nextRule_177 : decode cX12_nextRule 177 = .ok (.iconst 1, 1) := by decide +kernel
theorem dX12_nextRule_178 : decode cX12_nextRule 178 = .ok (.ireturn, 1) := by decide +kernel
theorem dX12_nextRule_179 : decode cX12_nextRule 179 = .ok (.iconst 0, 1) := by decide +kernel
theorem dX12_nextRule_180 : decode cX12_nextRule 180 = .ok (.ireturn, 1) := by decide +kernel
theorem dX12_does_0 : decode cX12_does 0 = .ok (.aload_n 0, 1) := by decide +kernel
theorem dX12_does_1 : decode cX12_does 1 = .ok (.getfield 109, 3) := by decide +kernel
theorem dX12_does_4 : decode cX12_does 4 = .ok (.iload_n 1, 1) := by decide +kernel
theorem dX12_does_5 : decode cX12_does 5 = .ok (.iaload, 1) := by decide +kernel
theorem dX12_does_6 : decode cX12_does 6 = .ok (.tableswitch 246 35 42 #[46, 100, 131, 144, 152, 215, 232, 239], 46) := by decide +kernel
theorem dX12_does_52 : decode cX12_does 52 = .ok (.aload_n 0, 1) := by decide +kernel
theorem dX12_does_53 : decode cX12_does 53 = .ok (.getfield 401, 3) := by decide +kernel
theorem dX12_does_56 : decode cX12_does 56 = .ok (.ifCond .eq 6, 3) := by decide +kernel
theorem dX12_does_59 : decode cX12_does 59 = .ok (.goto 202, 3) := by decide +kernel
theorem dX12_does_62 : decode cX12_does 62 = .ok (.aload_n 0, 1) := by decide +kernel
theorem dX12_does_63 : decode cX12_does 63 = .ok (.dup, 1) := by decide +kernel
theorem dX12_does_64 : decode cX12_does 64 = .ok (.getfield 388, 3) := by decide +kernel
theorem dX12_does_67 : decode cX12_does 67 = .ok (.aload_n 0, 1) := by decide +kernel
theorem dX12_does_68 : decode cX12_does 68 = .ok (.aload_n 0, 1) := by decide +kernel
theorem dX12_does_69 : decode cX12_does 69 = .ok (.getfield 115, 3) := by decide +kernel
theorem dX12_does_72 : decode cX12_does 72 = .ok (.iload_n 1, 1) := by decide +kernel
theorem dX12_does_73 : decode cX12_does 73 = .ok (.iaload, 1) := by decide +kernel
theorem dX12_does_74 : decode cX12_does 74 = .ok (.aload_n 0, 1) := by decide +kernel
theorem dX12_does_75 : decode cX12_does 75 = .ok (.getfield 118, 3) := by decide +kernel
theorem dX12_does_78 : decode cX12_does 78 = .ok (.iload_n 1, 1) := by decide +kernel
theorem dX12_does_79 : decode cX12_does 79 = .ok (.iaload, 1) := by decide +kernel
theorem dX12_does_80 : decode cX12_does 80 = .ok (.iload_n 2, 1) := by decide +kernel
theorem dX12_does_81 : decode cX12_does 81 = .ok (.invokevirtual 446, 3) := by decide +kernel
theorem dX12_does_84 : decode cX12_does 84 = .ok (.i2l, 1) := by decide +kernel
theorem dX12_does_85 : decode cX12_does 85 = .ok (.ladd, 1) := by decide +kernel
theorem dX12_does_86 : decode cX12_does 86 = .ok (.putfield 388, 3) := by decide +kernel
theorem dX12_does_89 : decode cX12_does 89 = .ok (.aload_n 0, 1) := by decide +kernel
theorem dX12_does_90 : decode cX12_does 90 = .ok (.getfield 388, 3) := by decide +kernel
theorem dX12_does_93 : decode cX12_does 93 = .ok (.lconst 0, 1) := by decide +kernel
theorem dX12_does_94 : decode cX12_does 94 = .ok (.lcmp, 1) := by decide +kernel
theorem dX12_does_95 : decode cX12_does 95 = .ok (.ifCond .ge 166, 3) := by decide +kernel
theorem dX12_does_98 : decode cX12_does 98 = .ok (.aload_n 0, 1) := by decide +kernel
theorem dX12_does_99 : decode cX12_does 99 = .ok (.lconst 0, 1) := by decide +kernel
theorem dX12_does_100 : decode cX12_does 100 = .ok (.putfield 388, 3) := by decide +kernel
theorem dX12_does_103 : decode cX12_does 103 = .ok (.goto 158, 3) := by decide +kernel
theorem dX12_does_106 : decode cX12_does 106 = .ok (.aload_n 0, 1) := by decide +kernel
theorem dX12_does_107 : decode cX12_does 107 = .ok (.getfield 147, 3) := by decide +kernel
theorem dX12_does_110 : decode cX12_does 110 = .ok (.aload_n 0, 1) := by decide +kernel
theorem dX12_does_111 : decode cX12_does 111 = .ok (.getfield 112, 3) := by decide +kernel
theorem dX12_does_114 : decode cX12_does 114 = .ok (.iload_n 1, 1) := by decide +kernel
theorem dX12_does_115 : decode cX12_does 115 = .ok (.iaload, 1) := by decide +kernel
theorem dX12_does_116 : decode cX12_does 116 = .ok (.aload_n 0, 1) := by decide +kernel
theorem dX12_does_117 : decode cX12_does 117 = .ok (.aload_n 0, 1) := by decide +kernel
theorem dX12_does_118 : decode cX12_does 118 = .ok (.getfield 115, 3) := by decide +kernel
theorem dX12_does_121 : decode cX12_does 121 = .ok (.iload_n 1, 1) := by decide +kernel
theorem dX12_does_122 : decode cX12_does 122 = .ok (.iaload, 1) := by decide +kernel
theorem dX12_does_123 : decode cX12_does 123 = .ok (.aload_n 0, 1) := by decide +kernel
theorem dX12_does_124 : decode cX12_does 124 = .ok (.getfield 118, 3) := by decide +kernel
theorem dX12_does_127 : decode cX12_does 127 = .ok (.iload_n 1, 1) := by decide +kernel
theorem dX12_does_128 : decode cX12_does 128 = .ok (.iaload, 1) := by decide +kernel
theorem dX12_does_129 : decode cX12_does 129 = .ok (.iload_n 2, 1) := by decide +kernel
theorem dX12_does_130 : decode cX12_does 130 = .ok (.invokevirtual 446, 3) := by decide +kernel
theorem dX12_does_133 : decode cX12_does 133 = .ok (.iastore, 1) := by decide +kernel
theorem dX12_does_134 : decode cX12_does 134 = .ok (.goto 127, 3) := by decide +kernel
theorem dX12_does_137 : decode cX12_does 137 = .ok (.aload_n 0, 1) := by decide +kernel
theorem dX12_does_138 : decode cX12_does 138 = .ok (.aload_n 0, 1) := by decide +kernel
theorem dX12_does_139 : decode cX12_does 139 = .ok (.getfield 112, 3) := by decide +kernel
theorem dX12_does_142 : decode cX12_does 142 = .ok (.iload_n 1, 1) := by decide +kernel
theorem dX12_does_143 : decode cX12_does 143 = .ok (.iaload, 1) := by decide +kernel
theorem dX12_does_144 : decode cX12_does 144 = .ok (.invokevirtual 428, 3) := by decide +kernel
theorem dX12_does_147 : decode cX12_does 147 = .ok (.goto 114, 3) := by decide +kernel
theorem dX12_does_150 : decode cX12_does 150 = .ok (.aload_n 0, 1) := by decide +kernel
theorem dX12_does_151 : decode cX12_does 151 = .ok (.iload_n 2, 1) := by decide +kernel
theorem dX12_does_152 : decode cX12_does 152 = .ok (.invokevirtual 466, 3) := by decide +kernel
theorem dX12_does_155 : decode cX12_does 155 = .ok (.goto 106, 3) := by decide +kernel
theorem dX12_does_158 : decode cX12_does 158 = .ok (.iconst 0, 1) := by decide +kernel
theorem dX12_does_159 : decode cX12_does 159 = .ok (.istore 4, 2) := by decide +kernel
theorem dX12_does_161 : decode cX12_does 161 = .ok (.iload 4, 2) := by decide +kernel
theorem dX12_does_163 : decode cX12_does 163 = .ok (.aload_n 0, 1) := by decide +kernel
theorem dX12_does_164 : decode cX12_does 164 = .ok (.getfield 407, 3) := by decide +kernel
theorem dX12_does_167 : decode cX12_does 167 = .ok (.if_icmp .ge 26, 3) := by decide +kernel
theorem dX12_does_170 : decode cX12_does 170 = .ok (.aload_n 0, 1) := by decide +kernel
theorem dX12_does_171 : decode cX12_does 171 = .ok (.getfield 183, 3) := by decide +kernel
theorem dX12_does_174 : decode cX12_does 174 = .ok (.iload 4, 2) := by decide +kernel
theorem dX12_does_176 : decode cX12_does 176 = .ok (.iaload, 1) := by decide +kernel
theorem dX12_does_177 : decode cX12_does 177 = .ok (.aload_n 0, 1) := by decide +kernel
theorem dX12_does_178 : decode cX12_does 178 = .ok (.getfield 112, 3) := by decide +kernel
theorem dX12_does_181 : decode cX12_does 181 = .ok (.iload_n 1, 1) := by decide +kernel
theorem dX12_does_182 : decode cX12_does 182 = .ok (.iaload, 1) := by decide +kernel
theorem dX12_does_183 : decode cX12_does 183 = .ok (.if_icmp .ne 4, 3) := by decide +kernel
theorem dX12_does_186 : decode cX12_does 186 = .ok (.return_, 1) := by decide +kernel
theorem dX12_does_187 : decode cX12_does 187 = .ok (.iinc 4 1, 3) := by decide +kernel
theorem dX12_does_190 : decode cX12_does 190 = .ok (.goto (-29), 3) := by decide +kernel
theorem dX12_does_193 : decode cX12_does 193 = .ok (.aload_n 0, 1) := by decide +kernel
theorem dX12_does_194 : decode cX12_does 194 = .ok (.getfield 183, 3) := by decide +kernel
theorem dX12_does_197 : decode cX12_does 197 = .ok (.aload_n 0, 1) := by decide +kernel
theorem dX12_does_198 : decode cX12_does 198 = .ok (.getfield 407, 3) := by decide +kernel
theorem dX12_does_201 : decode cX12_does 201 = .ok (.aload_n 0, 1) := by decide +kernel
theorem dX12_does_202 : decode cX12_does 202 = .ok (.getfield 112, 3) := by decide +kernel
theorem dX12_does_205 : decode cX12_does 205 = .ok (.iload_n 1, 1) := by decide +kernel
theorem dX12_does_206 : decode cX12_does 206 = .ok (.iaload, 1) := by decide +kernel
theorem dX12_does_207 : decode cX12_does 207 = .ok (.iastore, 1) := by decide +kernel
theorem dX12_does_208 : decode cX12_does 208 = .ok (.aload_n 0, 1) := by decide +kernel
theorem dX12_does_209 : decode cX12_does 209 = .ok (.dup, 1) := by decide +kernel
theorem dX12_does_210 : decode cX12_does 210 = .ok (.getfield 407, 3) := by decide +kernel
theorem dX12_does_213 : decode cX12_does 213 = .ok (.iconst 1, 1) := by decide +kernel
theorem dX12_does_214 : decode cX12_does 214 = .ok (.iadd, 1) := by decide +kernel
theorem dX12_does_215 : decode cX12_does 215 = .ok (.putfield 407, 3) := by decide +kernel
theorem dX12_does_218 : decode cX12_does 218 = .ok (.goto 43, 3) := by decide +kernel
theorem dX12_does_221 : decode cX12_does 221 = .ok (.aload_n 0, 1) := by decide +kernel
theorem dX12_does_222 : decode cX12_does 222 = .ok (.getfield 192, 3) := by decide +kernel
theorem dX12_does_225 : decode cX12_does 225 = .ok (.iload_n 3, 1) := by decide +kernel
theorem dX12_does_226 : decode cX12_does 226 = .ok (.iaload, 1) := by decide +kernel
theorem dX12_does_227 : decode cX12_does 227 = .ok (.ifCond .lt 34, 3) := by decide +kernel
theorem dX12_does_230 : decode cX12_does 230 = .ok (.aload_n 0, 1) := by decide +kernel
theorem dX12_does_231 : decode cX12_does 231 = .ok (.iconst 1, 1) := by decide +kernel
theorem dX12_does_232 : decode cX12_does 232 = .ok (.putfield 456, 3) := by decide +kernel
theorem dX12_does_235 : decode cX12_does 235 = .ok (.goto 26, 3) := by decide +kernel
theorem dX12_does_238 : decode cX12_does 238 = .ok (.aload_n 0, 1) := by decide +kernel
theorem dX12_does_239 : decode cX12_does 239 = .ok (.invokevirtual 469, 3) := by decide +kernel
theorem dX12_does_242 : decode cX12_does 242 = .ok (.goto 19, 3) := by decide +kernel
theorem dX12_does_245 : decode cX12_does 245 = .ok (.aload_n 0, 1) := by decide +kernel
theorem dX12_does_246 : decode cX12_does 246 = .ok (.invokevirtual 416, 3) := by decide +kernel
theorem dX12_does_249 : decode cX12_does 249 = .ok (.goto 12, 3) := by decide +kernel
theorem dX12_does_252 : decode cX12_does 252 = .ok (.aload_n 0, 1) := by decide +kernel
theorem dX12_does_253 : decode cX12_does 253 = .ok (.iconst 1, 1) := by decide +kernel
theorem dX12_does_254 : decode cX12_does 254 = .ok (.putfield 401, 3) := by decide +kernel
theorem dX12_does_257 : decode cX12_does 257 = .ok (.aload_n 0, 1) := by decide +kernel
theorem dX12_does_258 : decode cX12_does 258 = .ok (.invokevirtual 436, 3) := by decide +kernel
theorem dX12_does_261 : decode cX12_does 261 = .ok (.return_, 1) := by decide +kernel
theorem dX12_remembers_0 : decode cX12_remembers 0 = .ok (.iconst 0, 1) := by decide +kernel
theorem dX12_remembers_1 : decode cX12_remembers 1 = .ok (.istore_n 1, 1) := by decide +kernel
theorem dX12_remembers_2 : decode cX12_remembers 2 = .ok (.iload_n 1, 1) := by decide +kernel
theorem dX12_remembers_3 : decode cX12_remembers 3 = .ok (.bipush 12, 2) := by decide +kernel
theorem dX12_remembers_5 : decode cX12_remembers 5 = .ok (.if_icmp .ge 33, 3) := by decide +kernel
theorem dX12_remembers_8 : decode cX12_remembers 8 = .ok (.aload_n 0, 1) := by decide +kernel
theorem dX12_remembers_9 : decode cX12_remembers 9 = .ok (.getfield 210, 3) := by decide +kernel
theorem dX12_remembers_12 : decode cX12_remembers 12 = .ok (.iload_n 1, 1) := by decide +kernel
theorem dX12_remembers_13 : decode cX12_remembers 13 = .ok (.aload_n 0, 1) := by decide +kernel
theorem dX12_remembers_14 : decode cX12_remembers 14 = .ok (.getfield 165, 3) := by decide +kernel
theorem dX12_remembers_17 : decode cX12_remembers 17 = .ok (.iload_n 1, 1) := by decide +kernel
theorem dX12_remembers_18 : decode cX12_remembers 18 = .ok (.baload, 1) := by decide +kernel
theorem dX12_remembers_19 : decode cX12_remembers 19 = .ok (.bastore, 1) := by decide +kernel
theorem dX12_remembers_20 : decode cX12_remembers 20 = .ok (.aload_n 0, 1) := by decide +kernel
theorem dX12_remembers_21 : decode cX12_remembers 21 = .ok (.getfield 213, 3) := by decide +kernel
theorem dX12_remembers_24 : decode cX12_remembers 24 = .ok (.iload_n 1, 1) := by decide +kernel
theorem dX12_remembers_25 : decode cX12_remembers 25 = .ok (.aload_n 0, 1) := by decide +kernel
theorem dX12_remembers_26 : decode cX12_remembers 26 = .ok (.getfield 174, 3) := by decide +kernel
theorem dX12_remembers_29 : decode cX12_remembers 29 = .ok (.iload_n 1, 1) := by decide +kernel
theorem dX12_remembers_30 : decode cX12_remembers 30 = .ok (.iaload, 1) := by decide +kernel
theorem dX12_remembers_31 : decode cX12_remembers 31 = .ok (.iastore, 1) := by decide +kernel
theorem dX12_remembers_32 : decode cX12_remembers 32 = .ok (.iinc 1 1, 3) := by decide +kernel
theorem dX12_remembers_35 : decode cX12_remembers 35 = .ok (.goto (-33), 3) := by decide +kernel
theorem dX12_remembers_38 : decode cX12_remembers 38 = .ok (.aload_n 0, 1) := by decide +kernel
theorem dX12_remembers_39 : decode cX12_remembers 39 = .ok (.iconst 0, 1) := by decide +kernel
theorem dX12_remembers_40 : decode cX12_remembers 40 = .ok (.putfield 419, 3) := by decide +kernel
theorem dX12_remembers_43 : decode cX12_remembers 43 = .ok (.aload_n 0, 1) := by decide +kernel
theorem dX12_remembers_44 : decode cX12_remembers 44 = .ok (.iconst 0, 1) := by decide +kernel
theorem dX12_remembers_45 : decode cX12_remembers 45 = .ok (.putfield 422, 3) := by decide +kernel
theorem dX12_remembers_48 : decode cX12_remembers 48 = .ok (.aload_n 0, 1) := by decide +kernel
theorem dX12_remembers_49 : decode cX12_remembers 49 = .ok (.iconst 0, 1) := by decide +kernel
theorem dX12_remembers_50 : decode cX12_remembers 50 = .ok (.putfield 459, 3) := by decide +kernel
theorem dX12_remembers_53 : decode cX12_remembers 53 = .ok (.aload_n 0, 1) := by decide +kernel
theorem dX12_remembers_54 : decode cX12_remembers 54 = .ok (.iconst 0, 1) := by decide +kernel
theorem dX12_remembers_55 : decode cX12_remembers 55 = .ok (.putfield 425, 3) := by decide +kernel
theorem dX12_remembers_58 : decode cX12_remembers 58 = .ok (.return_, 1) := by decide +kernel
theorem dX12_press_0 : decode cX12_press 0 = .ok (.iload_n 1, 1) := by decide +kernel
theorem dX12_press_1 : decode cX12_press 1 = .ok (.ifCond .lt 29, 3) := by decide +kernel
theorem dX12_press_4 : decode cX12_press 4 = .ok (.aload_n 0, 1) := by decide +kernel
theorem dX12_press_5 : decode cX12_press 5 = .ok (.getfield 333, 3) := by decide +kernel
theorem dX12_press_8 : decode cX12_press 8 = .ok (.ifCond .eq 22, 3) := by decide +kernel
theorem dX12_press_11 : decode cX12_press 11 = .ok (.iload_n 1, 1) := by decide +kernel
theorem dX12_press_12 : decode cX12_press 12 = .ok (.aload_n 0, 1) := by decide +kernel
theorem dX12_press_13 : decode cX12_press 13 = .ok (.iconst 0, 1) := by decide +kernel
theorem dX12_press_14 : decode cX12_press 14 = .ok (.invokevirtual 370, 3) := by decide +kernel
theorem dX12_press_17 : decode cX12_press 17 = .ok (.if_icmp .ge 13, 3) := by decide +kernel
theorem dX12_press_20 : decode cX12_press 20 = .ok (.aload_n 0, 1) := by decide +kernel
theorem dX12_press_21 : decode cX12_press 21 = .ok (.getfield 404, 3) := by decide +kernel
theorem dX12_press_24 : decode cX12_press 24 = .ok (.sipush 600, 3) := by decide +kernel
theorem dX12_press_27 : decode cX12_press 27 = .ok (.if_icmp .ne 5, 3) := by decide +kernel
theorem dX12_press_30 : decode cX12_press 30 = .ok (.iconst (-1), 1) := by decide +kernel
theorem dX12_press_31 : decode cX12_press 31 = .ok (.ireturn, 1) := by decide +kernel
theorem dX12_press_32 : decode cX12_press 32 = .ok (.aload_n 0, 1) := by decide +kernel
theorem dX12_press_33 : decode cX12_press 33 = .ok (.dup, 1) := by decide +kernel
theorem dX12_press_34 : decode cX12_press 34 = .ok (.getfield 404, 3) := by decide +kernel
theorem dX12_press_37 : decode cX12_press 37 = .ok (.iconst 1, 1) := by decide +kernel
theorem dX12_press_38 : decode cX12_press 38 = .ok (.iadd, 1) := by decide +kernel
theorem dX12_press_39 : decode cX12_press 39 = .ok (.putfield 404, 3) := by decide +kernel
theorem dX12_press_42 : decode cX12_press 42 = .ok (.aload_n 0, 1) := by decide +kernel
theorem dX12_press_43 : decode cX12_press 43 = .ok (.getfield 153, 3) := by decide +kernel
theorem dX12_press_46 : decode cX12_press 46 = .ok (.iload_n 1, 1) := by decide +kernel
theorem dX12_press_47 : decode cX12_press 47 = .ok (.dup2, 1) := by decide +kernel
theorem dX12_press_48 : decode cX12_press 48 = .ok (.iaload, 1) := by decide +kernel
theorem dX12_press_49 : decode cX12_press 49 = .ok (.iconst 1, 1) := by decide +kernel
theorem dX12_press_50 : decode cX12_press 50 = .ok (.iadd, 1) := by decide +kernel
theorem dX12_press_51 : decode cX12_press 51 = .ok (.iastore, 1) := by decide +kernel
theorem dX12_press_52 : decode cX12_press 52 = .ok (.aload_n 0, 1) := by decide +kernel
theorem dX12_press_53 : decode cX12_press 53 = .ok (.getfield 392, 3) := by decide +kernel
theorem dX12_press_56 : decode cX12_press 56 = .ok (.ifCond .eq 41, 3) := by decide +kernel
theorem dX12_press_59 : decode cX12_press 59 = .ok (.aload_n 0, 1) := by decide +kernel
theorem dX12_press_60 : decode cX12_press 60 = .ok (.getfield 156, 3) := by decide +kernel
theorem dX12_press_63 : decode cX12_press 63 = .ok (.iload_n 1, 1) := by decide +kernel
theorem dX12_press_64 : decode cX12_press 64 = .ok (.iaload, 1) := by decide +kernel
theorem dX12_press_65 : decode cX12_press 65 = .ok (.iconst (-1), 1) := by decide +kernel
theorem dX12_press_66 : decode cX12_press 66 = .ok (.if_icmp .eq 33, 3) := by decide +kernel
theorem dX12_press_69 : decode cX12_press 69 = .ok (.aload_n 0, 1) := by decide +kernel
theorem dX12_press_70 : decode cX12_press 70 = .ok (.getfield 395, 3) := by decide +kernel
theorem dX12_press_73 : decode cX12_press 73 = .ok (.aload_n 0, 1) := by decide +kernel
theorem dX12_press_74 : decode cX12_press 74 = .ok (.getfield 156, 3) := by decide +kernel
theorem dX12_press_77 : decode cX12_press 77 = .ok (.iload_n 1, 1) := by decide +kernel
theorem dX12_press_78 : decode cX12_press 78 = .ok (.iaload, 1) := by decide +kernel
theorem dX12_press_79 : decode cX12_press 79 = .ok (.isub, 1) := by decide +kernel
theorem dX12_press_80 : decode cX12_press 80 = .ok (.aload_n 0, 1) := by decide +kernel
theorem dX12_press_81 : decode cX12_press 81 = .ok (.getfield 52, 3) := by decide +kernel
theorem dX12_press_84 : decode cX12_press 84 = .ok (.bipush 16, 2) := by decide +kernel
theorem dX12_press_86 : decode cX12_press 86 = .ok (.aload_n 0, 1) := by decide +kernel
theorem dX12_press_87 : decode cX12_press 87 = .ok (.getfield 308, 3) := by decide +kernel
theorem dX12_press_90 : decode cX12_press 90 = .ok (.imul, 1) := by decide +kernel
theorem dX12_press_91 : decode cX12_press 91 = .ok (.iload_n 1, 1) := by decide +kernel
theorem dX12_press_92 : decode cX12_press 92 = .ok (.iadd, 1) := by decide +kernel
theorem dX12_press_93 : decode cX12_press 93 = .ok (.iaload, 1) := by decide +kernel
theorem dX12_press_94 : decode cX12_press 94 = .ok (.if_icmp .ge 5, 3) := by decide +kernel
theorem dX12_press_97 : decode cX12_press 97 = .ok (.iconst 0, 1) := by decide +kernel
theorem dX12_press_98 : decode cX12_press 98 = .ok (.ireturn, 1) := by decide +kernel
theorem dX12_press_99 : decode cX12_press 99 = .ok (.aload_n 0, 1) := by decide +kernel
theorem dX12_press_100 : decode cX12_press 100 = .ok (.getfield 150, 3) := by decide +kernel
theorem dX12_press_103 : decode cX12_press 103 = .ok (.iload_n 1, 1) := by decide +kernel
theorem dX12_press_104 : decode cX12_press 104 = .ok (.dup2, 1) := by decide +kernel
theorem dX12_press_105 : decode cX12_press 105 = .ok (.iaload, 1) := by decide +kernel
theorem dX12_press_106 : decode cX12_press 106 = .ok (.iconst 1, 1) := by decide +kernel
theorem dX12_press_107 : decode cX12_press 107 = .ok (.iadd, 1) := by decide +kernel
theorem dX12_press_108 : decode cX12_press 108 = .ok (.iastore, 1) := by decide +kernel
theorem dX12_press_109 : decode cX12_press 109 = .ok (.aload_n 0, 1) := by decide +kernel
theorem dX12_press_110 : decode cX12_press 110 = .ok (.getfield 156, 3) := by decide +kernel
theorem dX12_press_113 : decode cX12_press 113 = .ok (.iload_n 1, 1) := by decide +kernel
theorem dX12_press_114 : decode cX12_press 114 = .ok (.aload_n 0, 1) := by decide +kernel
theorem dX12_press_115 : decode cX12_press 115 = .ok (.getfield 395, 3) := by decide +kernel
theorem dX12_press_118 : decode cX12_press 118 = .ok (.iastore, 1) := by decide +kernel
theorem dX12_press_119 : decode cX12_press 119 = .ok (.aload_n 0, 1) := by decide +kernel
theorem dX12_press_120 : decode cX12_press 120 = .ok (.getfield 162, 3) := by decide +kernel
theorem dX12_press_123 : decode cX12_press 123 = .ok (.iload_n 1, 1) := by decide +kernel
theorem dX12_press_124 : decode cX12_press 124 = .ok (.aload_n 0, 1) := by decide +kernel
theorem dX12_press_125 : decode cX12_press 125 = .ok (.getfield 392, 3) := by decide +kernel
theorem dX12_press_128 : decode cX12_press 128 = .ok (.iastore, 1) := by decide +kernel
theorem dX12_press_129 : decode cX12_press 129 = .ok (.aload_n 0, 1) := by decide +kernel
theorem dX12_press_130 : decode cX12_press 130 = .ok (.getfield 159, 3) := by decide +kernel
theorem dX12_press_133 : decode cX12_press 133 = .ok (.iload_n 1, 1) := by decide +kernel
theorem dX12_press_134 : decode cX12_press 134 = .ok (.iconst 0, 1) := by decide +kernel
theorem dX12_press_135 : decode cX12_press 135 = .ok (.bastore, 1) := by decide +kernel
theorem dX12_press_136 : decode cX12_press 136 = .ok (.aload_n 0, 1) := by decide +kernel
theorem dX12_press_137 : decode cX12_press 137 = .ok (.iload_n 1, 1) := by decide +kernel
theorem dX12_press_138 : decode cX12_press 138 = .ok (.invokevirtual 472, 3) := by decide +kernel
theorem dX12_press_141 : decode cX12_press 141 = .ok (.aload_n 0, 1) := by decide +kernel
theorem dX12_press_142 : decode cX12_press 142 = .ok (.invokevirtual 475, 3) := by decide +kernel
theorem dX12_press_145 : decode cX12_press 145 = .ok (.iconst 0, 1) := by decide +kernel
theorem dX12_press_146 : decode cX12_press 146 = .ok (.istore_n 2, 1) := by decide +kernel
theorem dX12_press_147 : decode cX12_press 147 = .ok (.iload_n 2, 1) := by decide +kernel
theorem dX12_press_148 : decode cX12_press 148 = .ok (.aload_n 0, 1) := by decide +kernel
theorem dX12_press_149 : decode cX12_press 149 = .ok (.bipush 7, 2) := by decide +kernel
theorem dX12_press_151 : decode cX12_press 151 = .ok (.invokevirtual 370, 3) := by decide +kernel
theorem dX12_press_154 : decode cX12_press 154 = .ok (.if_icmp .ge 72, 3) := by decide +kernel
theorem dX12_press_157 : decode cX12_press 157 = .ok (.aload_n 0, 1) := by decide +kernel
theorem dX12_press_158 : decode cX12_press 158 = .ok (.getfield 459, 3) := by decide +kernel
theorem dX12_press_161 : decode cX12_press 161 = .ok (.ifCond .ne 65, 3) := by decide +kernel
theorem dX12_press_164 : decode cX12_press 164 = .ok (.aload_n 0, 1) := by decide +kernel
theorem dX12_press_165 : decode cX12_press 165 = .ok (.getfield 422, 3) := by decide +kernel
theorem dX12_press_168 : decode cX12_press 168 = .ok (.ifCond .ne 58, 3) := by decide +kernel
theorem dX12_press_171 : decode cX12_press 171 = .ok (.aload_n 0, 1) := by decide +kernel
theorem dX12_press_172 : decode cX12_press 172 = .ok (.getfield 186, 3) := by decide +kernel
theorem dX12_press_175 : decode cX12_press 175 = .ok (.iload_n 2, 1) := by decide +kernel
theorem dX12_press_176 : decode cX12_press 176 = .ok (.iaload, 1) := by decide +kernel
theorem dX12_press_177 : decode cX12_press 177 = .ok (.istore_n 3, 1) := by decide +kernel
theorem dX12_press_178 : decode cX12_press 178 = .ok (.aload_n 0, 1) := by decide +kernel
theorem dX12_press_179 : decode cX12_press 179 = .ok (.getfield 210, 3) := by decide +kernel
theorem dX12_press_182 : decode cX12_press 182 = .ok (.iload_n 3, 1) := by decide +kernel
theorem dX12_press_183 : decode cX12_press 183 = .ok (.baload, 1) := by decide +kernel
theorem dX12_press_184 : decode cX12_press 184 = .ok (.ifCond .eq 36, 3) := by decide +kernel
theorem dX12_press_187 : decode cX12_press 187 = .ok (.aload_n 0, 1) := by decide +kernel
theorem dX12_press_188 : decode cX12_press 188 = .ok (.getfield 174, 3) := by decide +kernel
theorem dX12_press_191 : decode cX12_press 191 = .ok (.iload_n 3, 1) := by decide +kernel
theorem dX12_press_192 : decode cX12_press 192 = .ok (.iaload, 1) := by decide +kernel
theorem dX12_press_193 : decode cX12_press 193 = .ok (.aload_n 0, 1) := by decide +kernel
theorem dX12_press_194 : decode cX12_press 194 = .ok (.getfield 213, 3) := by decide +kernel
theorem dX12_press_197 : decode cX12_press 197 = .ok (.iload_n 3, 1) := by decide +kernel
theorem dX12_press_198 : decode cX12_press 198 = .ok (.iaload, 1) := by decide +kernel
theorem dX12_press_199 : decode cX12_press 199 = .ok (.if_icmp .eq 6, 3) := by decide +kernel
theorem dX12_press_202 : decode cX12_press 202 = .ok (.goto 18, 3) := by decide +kernel
theorem dX12_press_205 : decode cX12_press 205 = .ok (.aload_n 0, 1) := by decide +kernel
theorem dX12_press_206 : decode cX12_press 206 = .ok (.iconst 0, 1) := by decide +kernel
theorem dX12_press_207 : decode cX12_press 207 = .ok (.putfield 456, 3) := by decide +kernel
theorem dX12_press_210 : decode cX12_press 210 = .ok (.aload_n 0, 1) := by decide +kernel
theorem dX12_press_211 : decode cX12_press 211 = .ok (.iload_n 3, 1) := by decide +kernel
theorem dX12_press_212 : decode cX12_press 212 = .ok (.iload_n 1, 1) := by decide +kernel
theorem dX12_press_213 : decode cX12_press 213 = .ok (.invokevirtual 443, 3) := by decide +kernel
theorem dX12_press_216 : decode cX12_press 216 = .ok (.aload_n 0, 1) := by decide +kernel
theorem dX12_press_217 : decode cX12_press 217 = .ok (.invokevirtual 430, 3) := by decide +kernel
theorem dX12_press_220 : decode cX12_press 220 = .ok (.iinc 2 1, 3) := by decide +kernel
theorem dX12_press_223 : decode cX12_press 223 = .ok (.goto (-76), 3) := by decide +kernel
theorem dX12_press_226 : decode cX12_press 226 = .ok (.aload_n 0, 1) := by decide +kernel
theorem dX12_press_227 : decode cX12_press 227 = .ok (.invokevirtual 433, 3) := by decide +kernel
theorem dX12_press_230 : decode cX12_press 230 = .ok (.iconst 1, 1) := by decide +kernel
theorem dX12_press_231 : decode cX12_press 231 = .ok (.ireturn, 1) := by decide +kernel
theorem dX12_oneTick_0 : decode cX12_oneTick 0 = .ok (.aload_n 0, 1) := by decide +kernel
theorem dX12_oneTick_1 : decode cX12_oneTick 1 = .ok (.dup, 1) := by decide +kernel
theorem dX12_oneTick_2 : decode cX12_oneTick 2 = .ok (.getfield 395, 3) := by decide +kernel
theorem dX12_oneTick_5 : decode cX12_oneTick 5 = .ok (.iconst 1, 1) := by decide +kernel
theorem dX12_oneTick_6 : decode cX12_oneTick 6 = .ok (.iadd, 1) := by decide +kernel
theorem dX12_oneTick_7 : decode cX12_oneTick 7 = .ok (.putfield 395, 3) := by decide +kernel
theorem dX12_oneTick_10 : decode cX12_oneTick 10 = .ok (.aload_n 0, 1) := by decide +kernel
theorem dX12_oneTick_11 : decode cX12_oneTick 11 = .ok (.invokevirtual 475, 3) := by decide +kernel
theorem dX12_oneTick_14 : decode cX12_oneTick 14 = .ok (.aload_n 0, 1) := by decide +kernel
theorem dX12_oneTick_15 : decode cX12_oneTick 15 = .ok (.getfield 392, 3) := by decide +kernel
theorem dX12_oneTick_18 : decode cX12_oneTick 18 = .ok (.ifCond .le 112, 3) := by decide +kernel
theorem dX12_oneTick_21 : decode cX12_oneTick 21 = .ok (.iconst 0, 1) := by decide +kernel
theorem dX12_oneTick_22 : decode cX12_oneTick 22 = .ok (.istore_n 1, 1) := by decide +kernel
theorem dX12_oneTick_23 : decode cX12_oneTick 23 = .ok (.iload_n 1, 1) := by decide +kernel
theorem dX12_oneTick_24 : decode cX12_oneTick 24 = .ok (.aload_n 0, 1) := by decide +kernel
theorem dX12_oneTick_25 : decode cX12_oneTick 25 = .ok (.bipush 7, 2) := by decide +kernel
theorem dX12_oneTick_27 : decode cX12_oneTick 27 = .ok (.invokevirtual 370, 3) := by decide +kernel
theorem dX12_oneTick_30 : decode cX12_oneTick 30 = .ok (.if_icmp .ge 96, 3) := by decide +kernel
theorem dX12_oneTick_33 : decode cX12_oneTick 33 = .ok (.aload_n 0, 1) := by decide +kernel
theorem dX12_oneTick_34 : decode cX12_oneTick 34 = .ok (.getfield 186, 3) := by decide +kernel
theorem dX12_oneTick_37 : decode cX12_oneTick 37 = .ok (.iload_n 1, 1) := by decide +kernel
theorem dX12_oneTick_38 : decode cX12_oneTick 38 = .ok (.iaload, 1) := by decide +kernel
theorem dX12_oneTick_39 : decode cX12_oneTick 39 = .ok (.istore_n 2, 1) := by decide +kernel
theorem dX12_oneTick_40 : decode cX12_oneTick 40 = .ok (.aload_n 0, 1) := by decide +kernel
theorem dX12_oneTick_41 : decode cX12_oneTick 41 = .ok (.getfield 210, 3) := by decide +kernel
theorem dX12_oneTick_44 : decode cX12_oneTick 44 = .ok (.iload_n 2, 1) := by decide +kernel
theorem dX12_oneTick_45 : decode cX12_oneTick 45 = .ok (.baload, 1) := by decide +kernel
theorem dX12_oneTick_46 : decode cX12_oneTick 46 = .ok (.ifCond .eq 74, 3) := by decide +kernel
theorem dX12_oneTick_49 : decode cX12_oneTick 49 = .ok (.aload_n 0, 1) := by decide +kernel
theorem dX12_oneTick_50 : decode cX12_oneTick 50 = .ok (.getfield 174, 3) := by decide +kernel
theorem dX12_oneTick_53 : decode cX12_oneTick 53 = .ok (.iload_n 2, 1) := by decide +kernel
theorem dX12_oneTick_54 : decode cX12_oneTick 54 = .ok (.iaload, 1) := by decide +kernel
theorem dX12_oneTick_55 : decode cX12_oneTick 55 = .ok (.aload_n 0, 1) := by decide +kernel
theorem dX12_oneTick_56 : decode cX12_oneTick 56 = .ok (.getfield 213, 3) := by decide +kernel
theorem dX12_oneTick_59 : decode cX12_oneTick 59 = .ok (.iload_n 2, 1) := by decide +kernel
theorem dX12_oneTick_60 : decode cX12_oneTick 60 = .ok (.iaload, 1) := by decide +kernel
theorem dX12_oneTick_61 : decode cX12_oneTick 61 = .ok (.if_icmp .ne 59, 3) := by decide +kernel
theorem dX12_oneTick_64 : decode cX12_oneTick 64 = .ok (.aload_n 0, 1) := by decide +kernel
theorem dX12_oneTick_65 : decode cX12_oneTick 65 = .ok (.getfield 82, 3) := by decide +kernel
theorem dX12_oneTick_68 : decode cX12_oneTick 68 = .ok (.bipush 12, 2) := by decide +kernel
theorem dX12_oneTick_70 : decode cX12_oneTick 70 = .ok (.aload_n 0, 1) := by decide +kernel
theorem dX12_oneTick_71 : decode cX12_oneTick 71 = .ok (.getfield 308, 3) := by decide +kernel
theorem dX12_oneTick_74 : decode cX12_oneTick 74 = .ok (.imul, 1) := by decide +kernel
theorem dX12_oneTick_75 : decode cX12_oneTick 75 = .ok (.iload_n 2, 1) := by decide +kernel
theorem dX12_oneTick_76 : decode cX12_oneTick 76 = .ok (.iadd, 1) := by decide +kernel
theorem dX12_oneTick_77 : decode cX12_oneTick 77 = .ok (.iaload, 1) := by decide +kernel
theorem dX12_oneTick_78 : decode cX12_oneTick 78 = .ok (.ifCond .ne 6, 3) := by decide +kernel
theorem dX12_oneTick_81 : decode cX12_oneTick 81 = .ok (.goto 39, 3) := by decide +kernel
theorem dX12_oneTick_84 : decode cX12_oneTick 84 = .ok (.aload_n 0, 1) := by decide +kernel
theorem dX12_oneTick_85 : decode cX12_oneTick 85 = .ok (.getfield 168, 3) := by decide +kernel
theorem dX12_oneTick_88 : decode cX12_oneTick 88 = .ok (.iload_n 2, 1) := by decide +kernel
theorem dX12_oneTick_89 : decode cX12_oneTick 89 = .ok (.dup2, 1) := by decide +kernel
theorem dX12_oneTick_90 : decode cX12_oneTick 90 = .ok (.iaload, 1) := by decide +kernel
theorem dX12_oneTick_91 : decode cX12_oneTick 91 = .ok (.iconst 1, 1) := by decide +kernel
theorem dX12_oneTick_92 : decode cX12_oneTick 92 = .ok (.isub, 1) := by decide +kernel
theorem dX12_oneTick_93 : decode cX12_oneTick 93 = .ok (.iastore, 1) := by decide +kernel
theorem dX12_oneTick_94 : decode cX12_oneTick 94 = .ok (.aload_n 0, 1) := by decide +kernel
theorem dX12_oneTick_95 : decode cX12_oneTick 95 = .ok (.getfield 168, 3) := by decide +kernel
theorem dX12_oneTick_98 : decode cX12_oneTick 98 = .ok (.iload_n 2, 1) := by decide +kernel
theorem dX12_oneTick_99 : decode cX12_oneTick 99 = .ok (.iaload, 1) := by decide +kernel
theorem dX12_oneTick_100 : decode cX12_oneTick 100 = .ok (.ifCond .le 6, 3) := by decide +kernel
theorem dX12_oneTick_103 : decode cX12_oneTick 103 = .ok (.goto 17, 3) := by decide +kernel
theorem dX12_oneTick_106 : decode cX12_oneTick 106 = .ok (.aload_n 0, 1) := by decide +kernel
theorem dX12_oneTick_107 : decode cX12_oneTick 107 = .ok (.iload_n 2, 1) := by decide +kernel
theorem dX12_oneTick_108 : decode cX12_oneTick 108 = .ok (.invokevirtual 466, 3) := by decide +kernel
theorem dX12_oneTick_111 : decode cX12_oneTick 111 = .ok (.aload_n 0, 1) := by decide +kernel
theorem dX12_oneTick_112 : decode cX12_oneTick 112 = .ok (.invokevirtual 430, 3) := by decide +kernel
theorem dX12_oneTick_115 : decode cX12_oneTick 115 = .ok (.aload_n 0, 1) := by decide +kernel
theorem dX12_oneTick_116 : decode cX12_oneTick 116 = .ok (.iconst 0, 1) := by decide +kernel
theorem dX12_oneTick_117 : decode cX12_oneTick 117 = .ok (.putfield 425, 3) := by decide +kernel
theorem dX12_oneTick_120 : decode cX12_oneTick 120 = .ok (.iinc 1 1, 3) := by decide +kernel
theorem dX12_oneTick_123 : decode cX12_oneTick 123 = .ok (.goto (-100), 3) := by decide +kernel
theorem dX12_oneTick_126 : decode cX12_oneTick 126 = .ok (.aload_n 0, 1) := by decide +kernel
theorem dX12_oneTick_127 : decode cX12_oneTick 127 = .ok (.invokevirtual 433, 3) := by decide +kernel
theorem dX12_oneTick_130 : decode cX12_oneTick 130 = .ok (.return_, 1) := by decide +kernel
theorem dX12_fires_0 : decode cX12_fires 0 = .ok (.iconst 0, 1) := by decide +kernel
theorem dX12_fires_1 : decode cX12_fires 1 = .ok (.istore_n 1, 1) := by decide +kernel
theorem dX12_fires_2 : decode cX12_fires 2 = .ok (.iconst 0, 1) := by decide +kernel
theorem dX12_fires_3 : decode cX12_fires 3 = .ok (.istore_n 2, 1) := by decide +kernel
theorem dX12_fires_4 : decode cX12_fires 4 = .ok (.iconst 0, 1) := by decide +kernel
theorem dX12_fires_5 : decode cX12_fires 5 = .ok (.istore_n 3, 1) := by decide +kernel
theorem dX12_fires_6 : decode cX12_fires 6 = .ok (.iload_n 3, 1) := by decide +kernel
theorem dX12_fires_7 : decode cX12_fires 7 = .ok (.aload_n 0, 1) := by decide +kernel
theorem dX12_fires_8 : decode cX12_fires 8 = .ok (.getfield 407, 3) := by decide +kernel
theorem dX12_fires_11 : decode cX12_fires 11 = .ok (.if_icmp .ge 207, 3) := by decide +kernel
theorem dX12_fires_14 : decode cX12_fires 14 = .ok (.aload_n 0, 1) := by decide +kernel
theorem dX12_fires_15 : decode cX12_fires 15 = .ok (.getfield 183, 3) := by decide +kernel
theorem dX12_fires_18 : decode cX12_fires 18 = .ok (.iload_n 3, 1) := by decide +kernel
theorem dX12_fires_19 : decode cX12_fires 19 = .ok (.iaload, 1) := by decide +kernel
theorem dX12_fires_20 : decode cX12_fires 20 = .ok (.istore 4, 2) := by decide +kernel
theorem dX12_fires_22 : decode cX12_fires 22 = .ok (.aload_n 0, 1) := by decide +kernel
theorem dX12_fires_23 : decode cX12_fires 23 = .ok (.getfield 180, 3) := by decide +kernel
theorem dX12_fires_26 : decode cX12_fires 26 = .ok (.iload 4, 2) := by decide +kernel
theorem dX12_fires_28 : decode cX12_fires 28 = .ok (.iaload, 1) := by decide +kernel
theorem dX12_fires_29 : decode cX12_fires 29 = .ok (.iconst (-1), 1) := by decide +kernel
theorem dX12_fires_30 : decode cX12_fires 30 = .ok (.if_icmp .eq 33, 3) := by decide +kernel
theorem dX12_fires_33 : decode cX12_fires 33 = .ok (.aload_n 0, 1) := by decide +kernel
theorem dX12_fires_34 : decode cX12_fires 34 = .ok (.getfield 395, 3) := by decide +kernel
theorem dX12_fires_37 : decode cX12_fires 37 = .ok (.aload_n 0, 1) := by decide +kernel
theorem dX12_fires_38 : decode cX12_fires 38 = .ok (.getfield 180, 3) := by decide +kernel
theorem dX12_fires_41 : decode cX12_fires 41 = .ok (.iload 4, 2) := by decide +kernel
theorem dX12_fires_43 : decode cX12_fires 43 = .ok (.iaload, 1) := by decide +kernel
theorem dX12_fires_44 : decode cX12_fires 44 = .ok (.isub, 1) := by decide +kernel
theorem dX12_fires_45 : decode cX12_fires 45 = .ok (.aload_n 0, 1) := by decide +kernel
theorem dX12_fires_46 : decode cX12_fires 46 = .ok (.getfield 55, 3) := by decide +kernel
theorem dX12_fires_49 : decode cX12_fires 49 = .ok (.bipush 8, 2) := by decide +kernel
theorem dX12_fires_51 : decode cX12_fires 51 = .ok (.aload_n 0, 1) := by decide +kernel
theorem dX12_fires_52 : decode cX12_fires 52 = .ok (.getfield 308, 3) := by decide +kernel
theorem dX12_fires_55 : decode cX12_fires 55 = .ok (.imul, 1) := by decide +kernel
theorem dX12_fires_56 : decode cX12_fires 56 = .ok (.iload 4, 2) := by decide +kernel
theorem dX12_fires_58 : decode cX12_fires 58 = .ok (.iadd, 1) := by decide +kernel
theorem dX12_fires_59 : decode cX12_fires 59 = .ok (.iaload, 1) := by decide +kernel
theorem dX12_fires_60 : decode cX12_fires 60 = .ok (.if_icmp .lt 7, 3) := by decide +kernel
theorem dX12_fires_63 : decode cX12_fires 63 = .ok (.iconst 1, 1) := by decide +kernel
theorem dX12_fires_64 : decode cX12_fires 64 = .ok (.goto 4, 3) := by decide +kernel
theorem dX12_fires_67 : decode cX12_fires 67 = .ok (.iconst 0, 1) := by decide +kernel
theorem dX12_fires_68 : decode cX12_fires 68 = .ok (.istore 5, 2) := by decide +kernel
theorem dX12_fires_70 : decode cX12_fires 70 = .ok (.bipush 8, 2) := by decide +kernel
theorem dX12_fires_72 : decode cX12_fires 72 = .ok (.aload_n 0, 1) := by decide +kernel
theorem dX12_fires_73 : decode cX12_fires 73 = .ok (.getfield 308, 3) := by decide +kernel
theorem dX12_fires_76 : decode cX12_fires 76 = .ok (.imul, 1) := by decide +kernel
theorem dX12_fires_77 : decode cX12_fires 77 = .ok (.istore 6, 2) := by decide +kernel
theorem dX12_fires_79 : decode cX12_fires 79 = .ok (.iload 6, 2) := by decide +kernel
theorem dX12_fires_81 : decode cX12_fires 81 = .ok (.bipush 8, 2) := by decide +kernel
theorem dX12_fires_83 : decode cX12_fires 83 = .ok (.aload_n 0, 1) := by decide +kernel
theorem dX12_fires_84 : decode cX12_fires 84 = .ok (.getfield 308, 3) := by decide +kernel
theorem dX12_fires_87 : decode cX12_fires 87 = .ok (.imul, 1) := by decide +kernel
theorem dX12_fires_88 : decode cX12_fires 88 = .ok (.aload_n 0, 1) := by decide +kernel
theorem dX12_fires_89 : decode cX12_fires 89 = .ok (.iconst 2, 1) := by decide +kernel
theorem dX12_fires_90 : decode cX12_fires 90 = .ok (.invokevirtual 370, 3) := by decide +kernel
theorem dX12_fires_93 : decode cX12_fires 93 = .ok (.iadd, 1) := by decide +kernel
theorem dX12_fires_94 : decode cX12_fires 94 = .ok (.if_icmp .ge 74, 3) := by decide +kernel
theorem dX12_fires_97 : decode cX12_fires 97 = .ok (.aload_n 0, 1) := by decide +kernel
theorem dX12_fires_98 : decode cX12_fires 98 = .ok (.getfield 58, 3) := by decide +kernel
theorem dX12_fires_101 : decode cX12_fires 101 = .ok (.iload 6, 2) := by decide +kernel
theorem dX12_fires_103 : decode cX12_fires 103 = .ok (.iaload, 1) := by decide +kernel
theorem dX12_fires_104 : decode cX12_fires 104 = .ok (.iload 4, 2) := by decide +kernel
theorem dX12_fires_106 : decode cX12_fires 106 = .ok (.if_icmp .ne 22, 3) := by decide +kernel
theorem dX12_fires_109 : decode cX12_fires 109 = .ok (.aload_n 0, 1) := by decide +kernel
theorem dX12_fires_110 : decode cX12_fires 110 = .ok (.getfield 180, 3) := by decide +kernel
theorem dX12_fires_113 : decode cX12_fires 113 = .ok (.aload_n 0, 1) := by decide +kernel
theorem dX12_fires_114 : decode cX12_fires 114 = .ok (.getfield 61, 3) := by decide +kernel
theorem dX12_fires_117 : decode cX12_fires 117 = .ok (.iload 6, 2) := by decide +kernel
theorem dX12_fires_119 : decode cX12_fires 119 = .ok (.iaload, 1) := by decide +kernel
theorem dX12_fires_120 : decode cX12_fires 120 = .ok (.iaload, 1) := by decide +kernel
theorem dX12_fires_121 : decode cX12_fires 121 = .ok (.aload_n 0, 1) := by decide +kernel
theorem dX12_fires_122 : decode cX12_fires 122 = .ok (.getfield 395, 3) := by decide +kernel
theorem dX12_fires_125 : decode cX12_fires 125 = .ok (.if_icmp .eq 34, 3) := by decide +kernel
theorem dX12_fires_128 : decode cX12_fires 128 = .ok (.aload_n 0, 1) := by decide +kernel
theorem dX12_fires_129 : decode cX12_fires 129 = .ok (.getfield 61, 3) := by decide +kernel
theorem dX12_fires_132 : decode cX12_fires 132 = .ok (.iload 6, 2) := by decide +kernel
theorem dX12_fires_134 : decode cX12_fires 134 = .ok (.iaload, 1) := by decide +kernel
theorem dX12_fires_135 : decode cX12_fires 135 = .ok (.iload 4, 2) := by decide +kernel
theorem dX12_fires_137 : decode cX12_fires 137 = .ok (.if_icmp .ne 25, 3) := by decide +kernel
theorem dX12_fires_140 : decode cX12_fires 140 = .ok (.aload_n 0, 1) := by decide +kernel
theorem dX12_fires_141 : decode cX12_fires 141 = .ok (.getfield 180, 3) := by decide +kernel
theorem dX12_fires_144 : decode cX12_fires 144 = .ok (.aload_n 0, 1) := by decide +kernel
theorem dX12_fires_145 : decode cX12_fires 145 = .ok (.getfield 58, 3) := by decide +kernel
theorem dX12_fires_148 : decode cX12_fires 148 = .ok (.iload 6, 2) := by decide +kernel
theorem dX12_fires_150 : decode cX12_fires 150 = .ok (.iaload, 1) := by decide +kernel
theorem dX12_fires_151 : decode cX12_fires 151 = .ok (.iaload, 1) := by decide +kernel
theorem dX12_fires_152 : decode cX12_fires 152 = .ok (.aload_n 0, 1) := by decide +kernel
theorem dX12_fires_153 : decode cX12_fires 153 = .ok (.getfield 395, 3) := by decide +kernel
theorem dX12_fires_156 : decode cX12_fires 156 = .ok (.if_icmp .ne 6, 3) := by decide +kernel
theorem dX12_fires_159 : decode cX12_fires 159 = .ok (.iconst 0, 1) := by decide +kernel
theorem dX12_fires_160 : decode cX12_fires 160 = .ok (.istore 5, 2) := by decide +kernel
theorem dX12_fires_162 : decode cX12_fires 162 = .ok (.iinc 6 1, 3) := by decide +kernel
theorem dX12_fires_165 : decode cX12_fires 165 = .ok (.goto (-86), 3) := by decide +kernel
theorem dX12_fires_168 : decode cX12_fires 168 = .ok (.iload 5, 2) := by decide +kernel
theorem dX12_fires_170 : decode cX12_fires 170 = .ok (.ifCond .eq 31, 3) := by decide +kernel
theorem dX12_fires_173 : decode cX12_fires 173 = .ok (.aload_n 0, 1) := by decide +kernel
theorem dX12_fires_174 : decode cX12_fires 174 = .ok (.getfield 177, 3) := by decide +kernel
theorem dX12_fires_177 : decode cX12_fires 177 = .ok (.iload 4, 2) := by decide +kernel
theorem dX12_fires_179 : decode cX12_fires 179 = .ok (.dup2, 1) := by decide +kernel
theorem dX12_fires_180 : decode cX12_fires 180 = .ok (.iaload, 1) := by decide +kernel
theorem dX12_fires_181 : decode cX12_fires 181 = .ok (.iconst 1, 1) := by decide +kernel
theorem dX12_fires_182 : decode cX12_fires 182 = .ok (.iadd, 1) := by decide +kernel
theorem dX12_fires_183 : decode cX12_fires 183 = .ok (.iastore, 1) := by decide +kernel
theorem dX12_fires_184 : decode cX12_fires 184 = .ok (.aload_n 0, 1) := by decide +kernel
theorem dX12_fires_185 : decode cX12_fires 185 = .ok (.getfield 180, 3) := by decide +kernel
theorem dX12_fires_188 : decode cX12_fires 188 = .ok (.iload 4, 2) := by decide +kernel
theorem dX12_fires_190 : decode cX12_fires 190 = .ok (.aload_n 0, 1) := by decide +kernel
theorem dX12_fires_191 : decode cX12_fires 191 = .ok (.getfield 395, 3) := by decide +kernel
theorem dX12_fires_194 : decode cX12_fires 194 = .ok (.iastore, 1) := by decide +kernel
theorem dX12_fires_195 : decode cX12_fires 195 = .ok (.iinc 1 1, 3) := by decide +kernel
theorem dX12_fires_198 : decode cX12_fires 198 = .ok (.goto 14, 3) := by decide +kernel
theorem dX12_fires_201 : decode cX12_fires 201 = .ok (.aload_n 0, 1) := by decide +kernel
theorem dX12_fires_202 : decode cX12_fires 202 = .ok (.getfield 183, 3) := by decide +kernel
theorem dX12_fires_205 : decode cX12_fires 205 = .ok (.iload_n 2, 1) := by decide +kernel
theorem dX12_fires_206 : decode cX12_fires 206 = .ok (.iload 4, 2) := by decide +kernel
theorem dX12_fires_208 : decode cX12_fires 208 = .ok (.iastore, 1) := by decide +kernel
theorem dX12_fires_209 : decode cX12_fires 209 = .ok (.iinc 2 1, 3) := by decide +kernel
theorem dX12_fires_212 : decode cX12_fires 212 = .ok (.iinc 3 1, 3) := by decide +kernel
theorem dX12_fires_215 : decode cX12_fires 215 = .ok (.goto (-209), 3) := by decide +kernel
theorem dX12_fires_218 : decode cX12_fires 218 = .ok (.aload_n 0, 1) := by decide +kernel
theorem dX12_fires_219 : decode cX12_fires 219 = .ok (.iload_n 2, 1) := by decide +kernel
theorem dX12_fires_220 : decode cX12_fires 220 = .ok (.putfield 407, 3) := by decide +kernel
theorem dX12_fires_223 : decode cX12_fires 223 = .ok (.iload_n 1, 1) := by decide +kernel
theorem dX12_fires_224 : decode cX12_fires 224 = .ok (.ireturn, 1) := by decide +kernel
theorem dX12_ticks_0 : decode cX12_ticks 0 = .ok (.aload_n 0, 1) := by decide +kernel
theorem dX12_ticks_1 : decode cX12_ticks 1 = .ok (.getfield 333, 3) := by decide +kernel
theorem dX12_ticks_4 : decode cX12_ticks 4 = .ok (.ifCond .eq 26, 3) := by decide +kernel
theorem dX12_ticks_7 : decode cX12_ticks 7 = .ok (.iload_n 1, 1) := by decide +kernel
theorem dX12_ticks_8 : decode cX12_ticks 8 = .ok (.iconst 1, 1) := by decide +kernel
theorem dX12_ticks_9 : decode cX12_ticks 9 = .ok (.if_icmp .lt 21, 3) := by decide +kernel
theorem dX12_ticks_12 : decode cX12_ticks 12 = .ok (.iload_n 1, 1) := by decide +kernel
theorem dX12_ticks_13 : decode cX12_ticks 13 = .ok (.bipush 100, 2) := by decide +kernel
theorem dX12_ticks_15 : decode cX12_ticks 15 = .ok (.if_icmp .gt 15, 3) := by decide +kernel
theorem dX12_ticks_18 : decode cX12_ticks 18 = .ok (.aload_n 0, 1) := by decide +kernel
theorem dX12_ticks_19 : decode cX12_ticks 19 = .ok (.getfield 395, 3) := by decide +kernel
theorem dX12_ticks_22 : decode cX12_ticks 22 = .ok (.iload_n 1, 1) := by decide +kernel
theorem dX12_ticks_23 : decode cX12_ticks 23 = .ok (.iadd, 1) := by decide +kernel
theorem dX12_ticks_24 : decode cX12_ticks 24 = .ok (.sipush 5000, 3) := by decide +kernel
theorem dX12_ticks_27 : decode cX12_ticks 27 = .ok (.if_icmp .le 5, 3) := by decide +kernel
theorem dX12_ticks_30 : decode cX12_ticks 30 = .ok (.iconst (-1), 1) := by decide +kernel
theorem dX12_ticks_31 : decode cX12_ticks 31 = .ok (.ireturn, 1) := by decide +kernel
theorem dX12_ticks_32 : decode cX12_ticks 32 = .ok (.iconst 0, 1) := by decide +kernel
theorem dX12_ticks_33 : decode cX12_ticks 33 = .ok (.istore_n 2, 1) := by decide +kernel
theorem dX12_ticks_34 : decode cX12_ticks 34 = .ok (.iconst 0, 1) := by decide +kernel
theorem dX12_ticks_35 : decode cX12_ticks 35 = .ok (.istore_n 3, 1) := by decide +kernel
theorem dX12_ticks_36 : decode cX12_ticks 36 = .ok (.iload_n 3, 1) := by decide +kernel
theorem dX12_ticks_37 : decode cX12_ticks 37 = .ok (.iload_n 1, 1) := by decide +kernel
theorem dX12_ticks_38 : decode cX12_ticks 38 = .ok (.if_icmp .ge 20, 3) := by decide +kernel
theorem dX12_ticks_41 : decode cX12_ticks 41 = .ok (.aload_n 0, 1) := by decide +kernel
theorem dX12_ticks_42 : decode cX12_ticks 42 = .ok (.invokevirtual 478, 3) := by decide +kernel
theorem dX12_ticks_45 : decode cX12_ticks 45 = .ok (.iload_n 2, 1) := by decide +kernel
theorem dX12_ticks_46 : decode cX12_ticks 46 = .ok (.aload_n 0, 1) := by decide +kernel
theorem dX12_ticks_47 : decode cX12_ticks 47 = .ok (.invokevirtual 481, 3) := by decide +kernel
theorem dX12_ticks_50 : decode cX12_ticks 50 = .ok (.iadd, 1) := by decide +kernel
theorem dX12_ticks_51 : decode cX12_ticks 51 = .ok (.istore_n 2, 1) := by decide +kernel
theorem dX12_ticks_52 : decode cX12_ticks 52 = .ok (.iinc 3 1, 3) := by decide +kernel
theorem dX12_ticks_55 : decode cX12_ticks 55 = .ok (.goto (-19), 3) := by decide +kernel
theorem dX12_ticks_58 : decode cX12_ticks 58 = .ok (.iload_n 2, 1) := by decide +kernel
theorem dX12_ticks_59 : decode cX12_ticks 59 = .ok (.ireturn, 1) := by decide +kernel
theorem dX12_score_0 : decode cX12_score 0 = .ok (.aload_n 0, 1) := by decide +kernel
theorem dX12_score_1 : decode cX12_score 1 = .ok (.getfield 333, 3) := by decide +kernel
theorem dX12_score_4 : decode cX12_score 4 = .ok (.ifCond .eq 10, 3) := by decide +kernel
theorem dX12_score_7 : decode cX12_score 7 = .ok (.aload_n 0, 1) := by decide +kernel
theorem dX12_score_8 : decode cX12_score 8 = .ok (.getfield 388, 3) := by decide +kernel
theorem dX12_score_11 : decode cX12_score 11 = .ok (.goto 6, 3) := by decide +kernel
theorem dX12_score_14 : decode cX12_score 14 = .ok (.ldc2_w 484, 3) := by decide +kernel
theorem dX12_score_17 : decode cX12_score 17 = .ok (.lreturn, 1) := by decide +kernel
theorem dX12_told_0 : decode cX12_told 0 = .ok (.aload_n 0, 1) := by decide +kernel
theorem dX12_told_1 : decode cX12_told 1 = .ok (.getfield 329, 3) := by decide +kernel
theorem dX12_told_4 : decode cX12_told 4 = .ok (.ifCond .eq 16, 3) := by decide +kernel
theorem dX12_told_7 : decode cX12_told 7 = .ok (.iload_n 1, 1) := by decide +kernel
theorem dX12_told_8 : decode cX12_told 8 = .ok (.ifCond .lt 12, 3) := by decide +kernel
theorem dX12_told_11 : decode cX12_told 11 = .ok (.iload_n 1, 1) := by decide +kernel
theorem dX12_told_12 : decode cX12_told 12 = .ok (.aload_n 0, 1) := by decide +kernel
theorem dX12_told_13 : decode cX12_told 13 = .ok (.iconst 0, 1) := by decide +kernel
theorem dX12_told_14 : decode cX12_told 14 = .ok (.invokevirtual 370, 3) := by decide +kernel
theorem dX12_told_17 : decode cX12_told 17 = .ok (.if_icmp .lt 5, 3) := by decide +kernel
theorem dX12_told_20 : decode cX12_told 20 = .ok (.iconst (-1), 1) := by decide +kernel
theorem dX12_told_21 : decode cX12_told 21 = .ok (.ireturn, 1) := by decide +kernel
theorem dX12_told_22 : decode cX12_told 22 = .ok (.iload_n 2, 1) := by decide +kernel
theorem dX12_told_23 : decode cX12_told 23 = .ok (.iconst 3, 1) := by decide +kernel
theorem dX12_told_24 : decode cX12_told 24 = .ok (.if_icmp .ne 18, 3) := by decide +kernel
theorem dX12_told_27 : decode cX12_told 27 = .ok (.aload_n 0, 1) := by decide +kernel
theorem dX12_told_28 : decode cX12_told 28 = .ok (.getfield 52, 3) := by decide +kernel
theorem dX12_told_31 : decode cX12_told 31 = .ok (.bipush 16, 2) := by decide +kernel
theorem dX12_told_33 : decode cX12_told 33 = .ok (.aload_n 0, 1) := by decide +kernel
theorem dX12_told_34 : decode cX12_told 34 = .ok (.getfield 308, 3) := by decide +kernel
theorem dX12_told_37 : decode cX12_told 37 = .ok (.imul, 1) := by decide +kernel
theorem dX12_told_38 : decode cX12_told 38 = .ok (.iload_n 1, 1) := by decide +kernel
theorem dX12_told_39 : decode cX12_told 39 = .ok (.iadd, 1) := by decide +kernel
theorem dX12_told_40 : decode cX12_told 40 = .ok (.iaload, 1) := by decide +kernel
theorem dX12_told_41 : decode cX12_told 41 = .ok (.ireturn, 1) := by decide +kernel
theorem dX12_told_42 : decode cX12_told 42 = .ok (.aload_n 0, 1) := by decide +kernel
theorem dX12_told_43 : decode cX12_told 43 = .ok (.getfield 333, 3) := by decide +kernel
theorem dX12_told_46 : decode cX12_told 46 = .ok (.ifCond .ne 5, 3) := by decide +kernel
theorem dX12_told_49 : decode cX12_told 49 = .ok (.iconst (-1), 1) := by decide +kernel
theorem dX12_told_50 : decode cX12_told 50 = .ok (.ireturn, 1) := by decide +kernel
theorem dX12_told_51 : decode cX12_told 51 = .ok (.iload_n 2, 1) := by decide +kernel
theorem dX12_told_52 : decode cX12_told 52 = .ok (.tableswitch 57 0 2 #[28, 35, 42], 28) := by decide +kernel
theorem dX12_told_80 : decode cX12_told 80 = .ok (.aload_n 0, 1) := by decide +kernel
theorem dX12_told_81 : decode cX12_told 81 = .ok (.getfield 150, 3) := by decide +kernel
theorem dX12_told_84 : decode cX12_told 84 = .ok (.iload_n 1, 1) := by decide +kernel
theorem dX12_told_85 : decode cX12_told 85 = .ok (.iaload, 1) := by decide +kernel
theorem dX12_told_86 : decode cX12_told 86 = .ok (.ireturn, 1) := by decide +kernel
theorem dX12_told_87 : decode cX12_told 87 = .ok (.aload_n 0, 1) := by decide +kernel
theorem dX12_told_88 : decode cX12_told 88 = .ok (.getfield 153, 3) := by decide +kernel
theorem dX12_told_91 : decode cX12_told 91 = .ok (.iload_n 1, 1) := by decide +kernel
theorem dX12_told_92 : decode cX12_told 92 = .ok (.iaload, 1) := by decide +kernel
theorem dX12_told_93 : decode cX12_told 93 = .ok (.ireturn, 1) := by decide +kernel
theorem dX12_told_94 : decode cX12_told 94 = .ok (.aload_n 0, 1) := by decide +kernel
theorem dX12_told_95 : decode cX12_told 95 = .ok (.getfield 159, 3) := by decide +kernel
theorem dX12_told_98 : decode cX12_told 98 = .ok (.iload_n 1, 1) := by decide +kernel
theorem dX12_told_99 : decode cX12_told 99 = .ok (.baload, 1) := by decide +kernel
theorem dX12_told_100 : decode cX12_told 100 = .ok (.ifCond .eq 7, 3) := by decide +kernel
theorem dX12_told_103 : decode cX12_told 103 = .ok (.iconst 1, 1) := by decide +kernel
theorem dX12_told_104 : decode cX12_told 104 = .ok (.goto 4, 3) := by decide +kernel
theorem dX12_told_107 : decode cX12_told 107 = .ok (.iconst 0, 1) := by decide +kernel
theorem dX12_told_108 : decode cX12_told 108 = .ok (.ireturn, 1) := by decide +kernel
theorem dX12_told_109 : decode cX12_told 109 = .ok (.iconst (-1), 1) := by decide +kernel
theorem dX12_told_110 : decode cX12_told 110 = .ok (.ireturn, 1) := by decide +kernel
theorem dX12_coil_0 : decode cX12_coil 0 = .ok (.aload_n 0, 1) := by decide +kernel
theorem dX12_coil_1 : decode cX12_coil 1 = .ok (.getfield 333, 3) := by decide +kernel
theorem dX12_coil_4 : decode cX12_coil 4 = .ok (.ifCond .eq 16, 3) := by decide +kernel
theorem dX12_coil_7 : decode cX12_coil 7 = .ok (.iload_n 1, 1) := by decide +kernel
theorem dX12_coil_8 : decode cX12_coil 8 = .ok (.ifCond .lt 12, 3) := by decide +kernel
theorem dX12_coil_11 : decode cX12_coil 11 = .ok (.iload_n 1, 1) := by decide +kernel
theorem dX12_coil_12 : decode cX12_coil 12 = .ok (.aload_n 0, 1) := by decide +kernel
theorem dX12_coil_13 : decode cX12_coil 13 = .ok (.iconst 1, 1) := by decide +kernel
theorem dX12_coil_14 : decode cX12_coil 14 = .ok (.invokevirtual 370, 3) := by decide +kernel
theorem dX12_coil_17 : decode cX12_coil 17 = .ok (.if_icmp .lt 5, 3) := by decide +kernel
theorem dX12_coil_20 : decode cX12_coil 20 = .ok (.iconst (-1), 1) := by decide +kernel
theorem dX12_coil_21 : decode cX12_coil 21 = .ok (.ireturn, 1) := by decide +kernel
theorem dX12_coil_22 : decode cX12_coil 22 = .ok (.iload_n 2, 1) := by decide +kernel
theorem dX12_coil_23 : decode cX12_coil 23 = .ok (.tableswitch 69 0 2 #[25, 32, 39], 25) := by decide +kernel
theorem dX12_coil_48 : decode cX12_coil 48 = .ok (.aload_n 0, 1) := by decide +kernel
theorem dX12_coil_49 : decode cX12_coil 49 = .ok (.getfield 177, 3) := by decide +kernel
theorem dX12_coil_52 : decode cX12_coil 52 = .ok (.iload_n 1, 1) := by decide +kernel
theorem dX12_coil_53 : decode cX12_coil 53 = .ok (.iaload, 1) := by decide +kernel
theorem dX12_coil_54 : decode cX12_coil 54 = .ok (.ireturn, 1) := by decide +kernel
theorem dX12_coil_55 : decode cX12_coil 55 = .ok (.aload_n 0, 1) := by decide +kernel
theorem dX12_coil_56 : decode cX12_coil 56 = .ok (.getfield 180, 3) := by decide +kernel
theorem dX12_coil_59 : decode cX12_coil 59 = .ok (.iload_n 1, 1) := by decide +kernel
theorem dX12_coil_60 : decode cX12_coil 60 = .ok (.iaload, 1) := by decide +kernel
theorem dX12_coil_61 : decode cX12_coil 61 = .ok (.ireturn, 1) := by decide +kernel
theorem dX12_coil_62 : decode cX12_coil 62 = .ok (.iconst 0, 1) := by decide +kernel
theorem dX12_coil_63 : decode cX12_coil 63 = .ok (.istore_n 3, 1) := by decide +kernel
theorem dX12_coil_64 : decode cX12_coil 64 = .ok (.iload_n 3, 1) := by decide +kernel
theorem dX12_coil_65 : decode cX12_coil 65 = .ok (.aload_n 0, 1) := by decide +kernel
theorem dX12_coil_66 : decode cX12_coil 66 = .ok (.getfield 407, 3) := by decide +kernel
theorem dX12_coil_69 : decode cX12_coil 69 = .ok (.if_icmp .ge 21, 3) := by decide +kernel
theorem dX12_coil_72 : decode cX12_coil 72 = .ok (.aload_n 0, 1) := by decide +kernel
theorem dX12_coil_73 : decode cX12_coil 73 = .ok (.getfield 183, 3) := by decide +kernel
theorem dX12_coil_76 : decode cX12_coil 76 = .ok (.iload_n 3, 1) := by decide +kernel
theorem dX12_coil_77 : decode cX12_coil 77 = .ok (.iaload, 1) := by decide +kernel
theorem dX12_coil_78 : decode cX12_coil 78 = .ok (.iload_n 1, 1) := by decide +kernel
theorem dX12_coil_79 : decode cX12_coil 79 = .ok (.if_icmp .ne 5, 3) := by decide +kernel
theorem dX12_coil_82 : decode cX12_coil 82 = .ok (.iload_n 3, 1) := by decide +kernel
theorem dX12_coil_83 : decode cX12_coil 83 = .ok (.ireturn, 1) := by decide +kernel
theorem dX12_coil_84 : decode cX12_coil 84 = .ok (.iinc 3 1, 3) := by decide +kernel
theorem dX12_coil_87 : decode cX12_coil 87 = .ok (.goto (-23), 3) := by decide +kernel
theorem dX12_coil_90 : decode cX12_coil 90 = .ok (.iconst (-1), 1) := by decide +kernel
theorem dX12_coil_91 : decode cX12_coil 91 = .ok (.ireturn, 1) := by decide +kernel
theorem dX12_coil_92 : decode cX12_coil 92 = .ok (.iconst (-1), 1) := by decide +kernel
theorem dX12_coil_93 : decode cX12_coil 93 = .ok (.ireturn, 1) := by decide +kernel
theorem dX12_lamp_0 : decode cX12_lamp 0 = .ok (.aload_n 0, 1) := by decide +kernel
theorem dX12_lamp_1 : decode cX12_lamp 1 = .ok (.getfield 333, 3) := by decide +kernel
theorem dX12_lamp_4 : decode cX12_lamp 4 = .ok (.ifCond .eq 16, 3) := by decide +kernel
theorem dX12_lamp_7 : decode cX12_lamp 7 = .ok (.iload_n 1, 1) := by decide +kernel
theorem dX12_lamp_8 : decode cX12_lamp 8 = .ok (.ifCond .lt 12, 3) := by decide +kernel
theorem dX12_lamp_11 : decode cX12_lamp 11 = .ok (.iload_n 1, 1) := by decide +kernel
theorem dX12_lamp_12 : decode cX12_lamp 12 = .ok (.aload_n 0, 1) := by decide +kernel
theorem dX12_lamp_13 : decode cX12_lamp 13 = .ok (.iconst 3, 1) := by decide +kernel
theorem dX12_lamp_14 : decode cX12_lamp 14 = .ok (.invokevirtual 370, 3) := by decide +kernel
theorem dX12_lamp_17 : decode cX12_lamp 17 = .ok (.if_icmp .lt 5, 3) := by decide +kernel
theorem dX12_lamp_20 : decode cX12_lamp 20 = .ok (.iconst (-1), 1) := by decide +kernel
theorem dX12_lamp_21 : decode cX12_lamp 21 = .ok (.ireturn, 1) := by decide +kernel
theorem dX12_lamp_22 : decode cX12_lamp 22 = .ok (.aload_n 0, 1) := by decide +kernel
theorem dX12_lamp_23 : decode cX12_lamp 23 = .ok (.getfield 392, 3) := by decide +kernel
theorem dX12_lamp_26 : decode cX12_lamp 26 = .ok (.ifCond .eq 10, 3) := by decide +kernel
theorem dX12_lamp_29 : decode cX12_lamp 29 = .ok (.aload_n 0, 1) := by decide +kernel
theorem dX12_lamp_30 : decode cX12_lamp 30 = .ok (.getfield 401, 3) := by decide +kernel
theorem dX12_lamp_33 : decode cX12_lamp 33 = .ok (.ifCond .eq 5, 3) := by decide +kernel
theorem dX12_lamp_36 : decode cX12_lamp 36 = .ok (.iconst 0, 1) := by decide +kernel
theorem dX12_lamp_37 : decode cX12_lamp 37 = .ok (.ireturn, 1) := by decide +kernel
theorem dX12_lamp_38 : decode cX12_lamp 38 = .ok (.aload_n 0, 1) := by decide +kernel
theorem dX12_lamp_39 : decode cX12_lamp 39 = .ok (.getfield 64, 3) := by decide +kernel
theorem dX12_lamp_42 : decode cX12_lamp 42 = .ok (.bipush 16, 2) := by decide +kernel
theorem dX12_lamp_44 : decode cX12_lamp 44 = .ok (.aload_n 0, 1) := by decide +kernel
theorem dX12_lamp_45 : decode cX12_lamp 45 = .ok (.getfield 308, 3) := by decide +kernel
theorem dX12_lamp_48 : decode cX12_lamp 48 = .ok (.imul, 1) := by decide +kernel
theorem dX12_lamp_49 : decode cX12_lamp 49 = .ok (.iload_n 1, 1) := by decide +kernel
theorem dX12_lamp_50 : decode cX12_lamp 50 = .ok (.iadd, 1) := by decide +kernel
theorem dX12_lamp_51 : decode cX12_lamp 51 = .ok (.iaload, 1) := by decide +kernel
theorem dX12_lamp_52 : decode cX12_lamp 52 = .ok (.istore_n 2, 1) := by decide +kernel
theorem dX12_lamp_53 : decode cX12_lamp 53 = .ok (.iconst 0, 1) := by decide +kernel
theorem dX12_lamp_54 : decode cX12_lamp 54 = .ok (.istore_n 3, 1) := by decide +kernel
theorem dX12_lamp_55 : decode cX12_lamp 55 = .ok (.iload_n 3, 1) := by decide +kernel
theorem dX12_lamp_56 : decode cX12_lamp 56 = .ok (.aload_n 0, 1) := by decide +kernel
theorem dX12_lamp_57 : decode cX12_lamp 57 = .ok (.bipush 7, 2) := by decide +kernel
theorem dX12_lamp_59 : decode cX12_lamp 59 = .ok (.invokevirtual 370, 3) := by decide +kernel
theorem dX12_lamp_62 : decode cX12_lamp 62 = .ok (.if_icmp .ge 216, 3) := by decide +kernel
theorem dX12_lamp_65 : decode cX12_lamp 65 = .ok (.aload_n 0, 1) := by decide +kernel
theorem dX12_lamp_66 : decode cX12_lamp 66 = .ok (.getfield 186, 3) := by decide +kernel
theorem dX12_lamp_69 : decode cX12_lamp 69 = .ok (.iload_n 3, 1) := by decide +kernel
theorem dX12_lamp_70 : decode cX12_lamp 70 = .ok (.iaload, 1) := by decide +kernel
theorem dX12_lamp_71 : decode cX12_lamp 71 = .ok (.istore 4, 2) := by decide +kernel
theorem dX12_lamp_73 : decode cX12_lamp 73 = .ok (.aload_n 0, 1) := by decide +kernel
theorem dX12_lamp_74 : decode cX12_lamp 74 = .ok (.getfield 165, 3) := by decide +kernel
theorem dX12_lamp_77 : decode cX12_lamp 77 = .ok (.iload 4, 2) := by decide +kernel
theorem dX12_lamp_79 : decode cX12_lamp 79 = .ok (.baload, 1) := by decide +kernel
theorem dX12_lamp_80 : decode cX12_lamp 80 = .ok (.ifCond .ne 6, 3) := by decide +kernel
theorem dX12_lamp_83 : decode cX12_lamp 83 = .ok (.goto 189, 3) := by decide +kernel
theorem dX12_lamp_86 : decode cX12_lamp 86 = .ok (.aload_n 0, 1) := by decide +kernel
theorem dX12_lamp_87 : decode cX12_lamp 87 = .ok (.getfield 85, 3) := by decide +kernel
theorem dX12_lamp_90 : decode cX12_lamp 90 = .ok (.bipush 13, 2) := by decide +kernel
theorem dX12_lamp_92 : decode cX12_lamp 92 = .ok (.aload_n 0, 1) := by decide +kernel
theorem dX12_lamp_93 : decode cX12_lamp 93 = .ok (.getfield 308, 3) := by decide +kernel
theorem dX12_lamp_96 : decode cX12_lamp 96 = .ok (.imul, 1) := by decide +kernel
theorem dX12_lamp_97 : decode cX12_lamp 97 = .ok (.iload 4, 2) := by decide +kernel
theorem dX12_lamp_99 : decode cX12_lamp 99 = .ok (.iadd, 1) := by decide +kernel
theorem dX12_lamp_100 : decode cX12_lamp 100 = .ok (.iaload, 1) := by decide +kernel
theorem dX12_lamp_101 : decode cX12_lamp 101 = .ok (.istore 5, 2) := by decide +kernel
theorem dX12_lamp_103 : decode cX12_lamp 103 = .ok (.iload 5, 2) := by decide +kernel
theorem dX12_lamp_105 : decode cX12_lamp 105 = .ok (.aload_n 0, 1) := by decide +kernel
theorem dX12_lamp_106 : decode cX12_lamp 106 = .ok (.getfield 85, 3) := by decide +kernel
theorem dX12_lamp_109 : decode cX12_lamp 109 = .ok (.bipush 13, 2) := by decide +kernel
theorem dX12_lamp_111 : decode cX12_lamp 111 = .ok (.aload_n 0, 1) := by decide +kernel
theorem dX12_lamp_112 : decode cX12_lamp 112 = .ok (.getfield 308, 3) := by decide +kernel
theorem dX12_lamp_115 : decode cX12_lamp 115 = .ok (.imul, 1) := by decide +kernel
theorem dX12_lamp_116 : decode cX12_lamp 116 = .ok (.iload 4, 2) := by decide +kernel
theorem dX12_lamp_118 : decode cX12_lamp 118 = .ok (.iadd, 1) := by decide +kernel
theorem dX12_lamp_119 : decode cX12_lamp 119 = .ok (.iconst 1, 1) := by decide +kernel
theorem dX12_lamp_120 : decode cX12_lamp 120 = .ok (.iadd, 1) := by decide +kernel
theorem dX12_lamp_121 : decode cX12_lamp 121 = .ok (.iaload, 1) := by decide +kernel
theorem dX12_lamp_122 : decode cX12_lamp 122 = .ok (.if_icmp .ge 150, 3) := by decide +kernel
theorem dX12_lamp_125 : decode cX12_lamp 125 = .ok (.aload_n 0, 1) := by decide +kernel
theorem dX12_lamp_126 : decode cX12_lamp 126 = .ok (.getfield 88, 3) := by decide +kernel
theorem dX12_lamp_129 : decode cX12_lamp 129 = .ok (.bipush 80, 2) := by decide +kernel
theorem dX12_lamp_131 : decode cX12_lamp 131 = .ok (.aload_n 0, 1) := by decide +kernel
theorem dX12_lamp_132 : decode cX12_lamp 132 = .ok (.getfield 308, 3) := by decide +kernel
theorem dX12_lamp_135 : decode cX12_lamp 135 = .ok (.imul, 1) := by decide +kernel
theorem dX12_lamp_136 : decode cX12_lamp 136 = .ok (.iload 5, 2) := by decide +kernel
theorem dX12_lamp_138 : decode cX12_lamp 138 = .ok (.iadd, 1) := by decide +kernel
theorem dX12_lamp_139 : decode cX12_lamp 139 = .ok (.iaload, 1) := by decide +kernel
theorem dX12_lamp_140 : decode cX12_lamp 140 = .ok (.iload_n 2, 1) := by decide +kernel
theorem dX12_lamp_141 : decode cX12_lamp 141 = .ok (.if_icmp .ne 125, 3) := by decide +kernel
theorem dX12_lamp_144 : decode cX12_lamp 144 = .ok (.aload_n 0, 1) := by decide +kernel
theorem dX12_lamp_145 : decode cX12_lamp 145 = .ok (.iload 5, 2) := by decide +kernel
theorem dX12_lamp_147 : decode cX12_lamp 147 = .ok (.iload 4, 2) := by decide +kernel
theorem dX12_lamp_149 : decode cX12_lamp 149 = .ok (.invokevirtual 462, 3) := by decide +kernel
theorem dX12_lamp_152 : decode cX12_lamp 152 = .ok (.ifCond .ne 6, 3) := by decide +kernel
theorem dX12_lamp_155 : decode cX12_lamp 155 = .ok (.goto 111, 3) := by decide +kernel
theorem dX12_lamp_158 : decode cX12_lamp 158 = .ok (.iconst 0, 1) := by decide +kernel
theorem dX12_lamp_159 : decode cX12_lamp 159 = .ok (.istore 6, 2) := by decide +kernel
theorem dX12_lamp_161 : decode cX12_lamp 161 = .ok (.aload_n 0, 1) := by decide +kernel
theorem dX12_lamp_162 : decode cX12_lamp 162 = .ok (.getfield 94, 3) := by decide +kernel
theorem dX12_lamp_165 : decode cX12_lamp 165 = .ok (.bipush 81, 2) := by decide +kernel
theorem dX12_lamp_167 : decode cX12_lamp 167 = .ok (.aload_n 0, 1) := by decide +kernel
theorem dX12_lamp_168 : decode cX12_lamp 168 = .ok (.getfield 308, 3) := by decide +kernel
theorem dX12_lamp_171 : decode cX12_lamp 171 = .ok (.imul, 1) := by decide +kernel
theorem dX12_lamp_172 : decode cX12_lamp 172 = .ok (.iload 5, 2) := by decide +kernel
theorem dX12_lamp_174 : decode cX12_lamp 174 = .ok (.iadd, 1) := by decide +kernel
theorem dX12_lamp_175 : decode cX12_lamp 175 = .ok (.iaload, 1) := by decide +kernel
theorem dX12_lamp_176 : decode cX12_lamp 176 = .ok (.istore 7, 2) := by decide +kernel
theorem dX12_lamp_178 : decode cX12_lamp 178 = .ok (.iload 7, 2) := by decide +kernel
theorem dX12_lamp_180 : decode cX12_lamp 180 = .ok (.aload_n 0, 1) := by decide +kernel
theorem dX12_lamp_181 : decode cX12_lamp 181 = .ok (.getfield 94, 3) := by decide +kernel
theorem dX12_lamp_184 : decode cX12_lamp 184 = .ok (.bipush 81, 2) := by decide +kernel
theorem dX12_lamp_186 : decode cX12_lamp 186 = .ok (.aload_n 0, 1) := by decide +kernel
theorem dX12_lamp_187 : decode cX12_lamp 187 = .ok (.getfield 308, 3) := by decide +kernel
theorem dX12_lamp_190 : decode cX12_lamp 190 = .ok (.imul, 1) := by decide +kernel
theorem dX12_lamp_191 : decode cX12_lamp 191 = .ok (.iload 5, 2) := by decide +kernel
theorem dX12_lamp_193 : decode cX12_lamp 193 = .ok (.iadd, 1) := by decide +kernel
theorem dX12_lamp_194 : decode cX12_lamp 194 = .ok (.iconst 1, 1) := by decide +kernel
theorem dX12_lamp_195 : decode cX12_lamp 195 = .ok (.iadd, 1) := by decide +kernel
theorem dX12_lamp_196 : decode cX12_lamp 196 = .ok (.iaload, 1) := by decide +kernel
theorem dX12_lamp_197 : decode cX12_lamp 197 = .ok (.if_icmp .ge 62, 3) := by decide +kernel
theorem dX12_lamp_200 : decode cX12_lamp 200 = .ok (.aload_n 0, 1) := by decide +kernel
theorem dX12_lamp_201 : decode cX12_lamp 201 = .ok (.getfield 109, 3) := by decide +kernel
theorem dX12_lamp_204 : decode cX12_lamp 204 = .ok (.iload 7, 2) := by decide +kernel
theorem dX12_lamp_206 : decode cX12_lamp 206 = .ok (.iaload, 1) := by decide +kernel
theorem dX12_lamp_207 : decode cX12_lamp 207 = .ok (.bipush 35, 2) := by decide +kernel
theorem dX12_lamp_209 : decode cX12_lamp 209 = .ok (.if_icmp .eq 27, 3) := by decide +kernel
theorem dX12_lamp_212 : decode cX12_lamp 212 = .ok (.aload_n 0, 1) := by decide +kernel
theorem dX12_lamp_213 : decode cX12_lamp 213 = .ok (.getfield 109, 3) := by decide +kernel
theorem dX12_lamp_216 : decode cX12_lamp 216 = .ok (.iload 7, 2) := by decide +kernel
theorem dX12_lamp_218 : decode cX12_lamp 218 = .ok (.iaload, 1) := by decide +kernel
theorem dX12_lamp_219 : decode cX12_lamp 219 = .ok (.bipush 37, 2) := by decide +kernel
theorem dX12_lamp_221 : decode cX12_lamp 221 = .ok (.if_icmp .eq 15, 3) := by decide +kernel
theorem dX12_lamp_224 : decode cX12_lamp 224 = .ok (.aload_n 0, 1) := by decide +kernel
theorem dX12_lamp_225 : decode cX12_lamp 225 = .ok (.getfield 109, 3) := by decide +kernel
theorem dX12_lamp_228 : decode cX12_lamp 228 = .ok (.iload 7, 2) := by decide +kernel
theorem dX12_lamp_230 : decode cX12_lamp 230 = .ok (.iaload, 1) := by decide +kernel
theorem dX12_lamp_231 : decode cX12_lamp 231 = .ok (.bipush 42, 2) := by decide +kernel
theorem dX12_lamp_233 : decode cX12_lamp 233 = .ok (.if_icmp .ne 5, 3) := by decide +kernel
theorem dX12_lamp_236 : decode cX12_lamp 236 = .ok (.iconst 1, 1) := by decide +kernel
theorem dX12_lamp_237 : decode cX12_lamp 237 = .ok (.ireturn, 1) := by decide +kernel
theorem dX12_lamp_238 : decode cX12_lamp 238 = .ok (.aload_n 0, 1) := by decide +kernel
theorem dX12_lamp_239 : decode cX12_lamp 239 = .ok (.getfield 109, 3) := by decide +kernel
theorem dX12_lamp_242 : decode cX12_lamp 242 = .ok (.iload 7, 2) := by decide +kernel
theorem dX12_lamp_244 : decode cX12_lamp 244 = .ok (.iaload, 1) := by decide +kernel
theorem dX12_lamp_245 : decode cX12_lamp 245 = .ok (.bipush 40, 2) := by decide +kernel
theorem dX12_lamp_247 : decode cX12_lamp 247 = .ok (.if_icmp .ne 6, 3) := by decide +kernel
theorem dX12_lamp_250 : decode cX12_lamp 250 = .ok (.iconst 1, 1) := by decide +kernel
theorem dX12_lamp_251 : decode cX12_lamp 251 = .ok (.istore 6, 2) := by decide +kernel
theorem dX12_lamp_253 : decode cX12_lamp 253 = .ok (.iinc 7 1, 3) := by decide +kernel
theorem dX12_lamp_256 : decode cX12_lamp 256 = .ok (.goto (-78), 3) := by decide +kernel
theorem dX12_lamp_259 : decode cX12_lamp 259 = .ok (.iload 6, 2) := by decide +kernel
theorem dX12_lamp_261 : decode cX12_lamp 261 = .ok (.ifCond .eq 5, 3) := by decide +kernel
theorem dX12_lamp_264 : decode cX12_lamp 264 = .ok (.iconst 0, 1) := by decide +kernel
theorem dX12_lamp_265 : decode cX12_lamp 265 = .ok (.ireturn, 1) := by decide +kernel
theorem dX12_lamp_266 : decode cX12_lamp 266 = .ok (.iinc 5 1, 3) := by decide +kernel
theorem dX12_lamp_269 : decode cX12_lamp 269 = .ok (.goto (-166), 3) := by decide +kernel
theorem dX12_lamp_272 : decode cX12_lamp 272 = .ok (.iinc 3 1, 3) := by decide +kernel
theorem dX12_lamp_275 : decode cX12_lamp 275 = .ok (.goto (-220), 3) := by decide +kernel
theorem dX12_lamp_278 : decode cX12_lamp 278 = .ok (.iconst 0, 1) := by decide +kernel
theorem dX12_lamp_279 : decode cX12_lamp 279 = .ok (.ireturn, 1) := by decide +kernel
theorem dX12_value_0 : decode cX12_value 0 = .ok (.aload_n 0, 1) := by decide +kernel
theorem dX12_value_1 : decode cX12_value 1 = .ok (.getfield 333, 3) := by decide +kernel
theorem dX12_value_4 : decode cX12_value 4 = .ok (.ifCond .eq 26, 3) := by decide +kernel
theorem dX12_value_7 : decode cX12_value 7 = .ok (.iload_n 1, 1) := by decide +kernel
theorem dX12_value_8 : decode cX12_value 8 = .ok (.ifCond .lt 22, 3) := by decide +kernel
theorem dX12_value_11 : decode cX12_value 11 = .ok (.iload_n 1, 1) := by decide +kernel
theorem dX12_value_12 : decode cX12_value 12 = .ok (.aload_n 0, 1) := by decide +kernel
theorem dX12_value_13 : decode cX12_value 13 = .ok (.bipush 6, 2) := by decide +kernel
theorem dX12_value_15 : decode cX12_value 15 = .ok (.invokevirtual 370, 3) := by decide +kernel
theorem dX12_value_18 : decode cX12_value 18 = .ok (.if_icmp .ge 12, 3) := by decide +kernel
theorem dX12_value_21 : decode cX12_value 21 = .ok (.aload_n 0, 1) := by decide +kernel
theorem dX12_value_22 : decode cX12_value 22 = .ok (.getfield 147, 3) := by decide +kernel
theorem dX12_value_25 : decode cX12_value 25 = .ok (.iload_n 1, 1) := by decide +kernel
theorem dX12_value_26 : decode cX12_value 26 = .ok (.iaload, 1) := by decide +kernel
theorem dX12_value_27 : decode cX12_value 27 = .ok (.goto 4, 3) := by decide +kernel
theorem dX12_value_30 : decode cX12_value 30 = .ok (.iconst 0, 1) := by decide +kernel
theorem dX12_value_31 : decode cX12_value 31 = .ok (.ireturn, 1) := by decide +kernel
theorem dX12_mode_0 : decode cX12_mode 0 = .ok (.aload_n 0, 1) := by decide +kernel
theorem dX12_mode_1 : decode cX12_mode 1 = .ok (.getfield 329, 3) := by decide +kernel
theorem dX12_mode_4 : decode cX12_mode 4 = .ok (.ifCond .eq 17, 3) := by decide +kernel
theorem dX12_mode_7 : decode cX12_mode 7 = .ok (.iload_n 1, 1) := by decide +kernel
theorem dX12_mode_8 : decode cX12_mode 8 = .ok (.ifCond .lt 13, 3) := by decide +kernel
theorem dX12_mode_11 : decode cX12_mode 11 = .ok (.iload_n 1, 1) := by decide +kernel
theorem dX12_mode_12 : decode cX12_mode 12 = .ok (.aload_n 0, 1) := by decide +kernel
theorem dX12_mode_13 : decode cX12_mode 13 = .ok (.bipush 7, 2) := by decide +kernel
theorem dX12_mode_15 : decode cX12_mode 15 = .ok (.invokevirtual 370, 3) := by decide +kernel
theorem dX12_mode_18 : decode cX12_mode 18 = .ok (.if_icmp .lt 5, 3) := by decide +kernel
theorem dX12_mode_21 : decode cX12_mode 21 = .ok (.iconst (-1), 1) := by decide +kernel
theorem dX12_mode_22 : decode cX12_mode 22 = .ok (.ireturn, 1) := by decide +kernel
theorem dX12_mode_23 : decode cX12_mode 23 = .ok (.iload_n 2, 1) := by decide +kernel
theorem dX12_mode_24 : decode cX12_mode 24 = .ok (.iconst 3, 1) := by decide +kernel
theorem dX12_mode_25 : decode cX12_mode 25 = .ok (.if_icmp .ne 18, 3) := by decide +kernel
theorem dX12_mode_28 : decode cX12_mode 28 = .ok (.aload_n 0, 1) := by decide +kernel
theorem dX12_mode_29 : decode cX12_mode 29 = .ok (.getfield 79, 3) := by decide +kernel
theorem dX12_mode_32 : decode cX12_mode 32 = .ok (.bipush 12, 2) := by decide +kernel
theorem dX12_mode_34 : decode cX12_mode 34 = .ok (.aload_n 0, 1) := by decide +kernel
theorem dX12_mode_35 : decode cX12_mode 35 = .ok (.getfield 308, 3) := by decide +kernel
theorem dX12_mode_38 : decode cX12_mode 38 = .ok (.imul, 1) := by decide +kernel
theorem dX12_mode_39 : decode cX12_mode 39 = .ok (.iload_n 1, 1) := by decide +kernel
theorem dX12_mode_40 : decode cX12_mode 40 = .ok (.iadd, 1) := by decide +kernel
theorem dX12_mode_41 : decode cX12_mode 41 = .ok (.iaload, 1) := by decide +kernel
theorem dX12_mode_42 : decode cX12_mode 42 = .ok (.ireturn, 1) := by decide +kernel
theorem dX12_mode_43 : decode cX12_mode 43 = .ok (.aload_n 0, 1) := by decide +kernel
theorem dX12_mode_44 : decode cX12_mode 44 = .ok (.getfield 333, 3) := by decide +kernel
theorem dX12_mode_47 : decode cX12_mode 47 = .ok (.ifCond .ne 5, 3) := by decide +kernel
theorem dX12_mode_50 : decode cX12_mode 50 = .ok (.iconst (-1), 1) := by decide +kernel
theorem dX12_mode_51 : decode cX12_mode 51 = .ok (.ireturn, 1) := by decide +kernel
theorem dX12_mode_52 : decode cX12_mode 52 = .ok (.iload_n 2, 1) := by decide +kernel
theorem dX12_mode_53 : decode cX12_mode 53 = .ok (.tableswitch 56 0 2 #[27, 42, 49], 27) := by decide +kernel
theorem dX12_mode_80 : decode cX12_mode 80 = .ok (.aload_n 0, 1) := by decide +kernel
theorem dX12_mode_81 : decode cX12_mode 81 = .ok (.getfield 165, 3) := by decide +kernel
theorem dX12_mode_84 : decode cX12_mode 84 = .ok (.iload_n 1, 1) := by decide +kernel
theorem dX12_mode_85 : decode cX12_mode 85 = .ok (.baload, 1) := by decide +kernel
theorem dX12_mode_86 : decode cX12_mode 86 = .ok (.ifCond .eq 7, 3) := by decide +kernel
theorem dX12_mode_89 : decode cX12_mode 89 = .ok (.iconst 1, 1) := by decide +kernel
theorem dX12_mode_90 : decode cX12_mode 90 = .ok (.goto 4, 3) := by decide +kernel
theorem dX12_mode_93 : decode cX12_mode 93 = .ok (.iconst 0, 1) := by decide +kernel
theorem dX12_mode_94 : decode cX12_mode 94 = .ok (.ireturn, 1) := by decide +kernel
theorem dX12_mode_95 : decode cX12_mode 95 = .ok (.aload_n 0, 1) := by decide +kernel
theorem dX12_mode_96 : decode cX12_mode 96 = .ok (.getfield 168, 3) := by decide +kernel
theorem dX12_mode_99 : decode cX12_mode 99 = .ok (.iload_n 1, 1) := by decide +kernel
theorem dX12_mode_100 : decode cX12_mode 100 = .ok (.iaload, 1) := by decide +kernel
theorem dX12_mode_101 : decode cX12_mode 101 = .ok (.ireturn, 1) := by decide +kernel
theorem dX12_mode_102 : decode cX12_mode 102 = .ok (.aload_n 0, 1) := by decide +kernel
theorem dX12_mode_103 : decode cX12_mode 103 = .ok (.getfield 171, 3) := by decide +kernel
theorem dX12_mode_106 : decode cX12_mode 106 = .ok (.iload_n 1, 1) := by decide +kernel
theorem dX12_mode_107 : decode cX12_mode 107 = .ok (.iaload, 1) := by decide +kernel
theorem dX12_mode_108 : decode cX12_mode 108 = .ok (.ireturn, 1) := by decide +kernel
theorem dX12_mode_109 : decode cX12_mode 109 = .ok (.iconst (-1), 1) := by decide +kernel
theorem dX12_mode_110 : decode cX12_mode 110 = .ok (.ireturn, 1) := by decide +kernel
theorem dX12_balls_0 : decode cX12_balls 0 = .ok (.aload_n 0, 1) := by decide +kernel
theorem dX12_balls_1 : decode cX12_balls 1 = .ok (.getfield 333, 3) := by decide +kernel
theorem dX12_balls_4 : decode cX12_balls 4 = .ok (.ifCond .eq 16, 3) := by decide +kernel
theorem dX12_balls_7 : decode cX12_balls 7 = .ok (.iload_n 1, 1) := by decide +kernel
theorem dX12_balls_8 : decode cX12_balls 8 = .ok (.ifCond .lt 12, 3) := by decide +kernel
theorem dX12_balls_11 : decode cX12_balls 11 = .ok (.iload_n 1, 1) := by decide +kernel
theorem dX12_balls_12 : decode cX12_balls 12 = .ok (.aload_n 0, 1) := by decide +kernel
theorem dX12_balls_13 : decode cX12_balls 13 = .ok (.iconst 4, 1) := by decide +kernel
theorem dX12_balls_14 : decode cX12_balls 14 = .ok (.invokevirtual 370, 3) := by decide +kernel
theorem dX12_balls_17 : decode cX12_balls 17 = .ok (.if_icmp .lt 5, 3) := by decide +kernel
theorem dX12_balls_20 : decode cX12_balls 20 = .ok (.iconst (-1), 1) := by decide +kernel
theorem dX12_balls_21 : decode cX12_balls 21 = .ok (.ireturn, 1) := by decide +kernel
theorem dX12_balls_22 : decode cX12_balls 22 = .ok (.iconst (-1), 1) := by decide +kernel
theorem dX12_balls_23 : decode cX12_balls 23 = .ok (.istore_n 3, 1) := by decide +kernel
theorem dX12_balls_24 : decode cX12_balls 24 = .ok (.iconst 0, 1) := by decide +kernel
theorem dX12_balls_25 : decode cX12_balls 25 = .ok (.istore 4, 2) := by decide +kernel
theorem dX12_balls_27 : decode cX12_balls 27 = .ok (.iload 4, 2) := by decide +kernel
theorem dX12_balls_29 : decode cX12_balls 29 = .ok (.aload_n 0, 1) := by decide +kernel
theorem dX12_balls_30 : decode cX12_balls 30 = .ok (.getfield 376, 3) := by decide +kernel
theorem dX12_balls_33 : decode cX12_balls 33 = .ok (.if_icmp .ge 51, 3) := by decide +kernel
theorem dX12_balls_36 : decode cX12_balls 36 = .ok (.aload_n 0, 1) := by decide +kernel
theorem dX12_balls_37 : decode cX12_balls 37 = .ok (.getfield 136, 3) := by decide +kernel
theorem dX12_balls_40 : decode cX12_balls 40 = .ok (.iload 4, 2) := by decide +kernel
theorem dX12_balls_42 : decode cX12_balls 42 = .ok (.iaload, 1) := by decide +kernel
theorem dX12_balls_43 : decode cX12_balls 43 = .ok (.iconst 2, 1) := by decide +kernel
theorem dX12_balls_44 : decode cX12_balls 44 = .ok (.iload_n 1, 1) := by decide +kernel
theorem dX12_balls_45 : decode cX12_balls 45 = .ok (.imul, 1) := by decide +kernel
theorem dX12_balls_46 : decode cX12_balls 46 = .ok (.ishr, 1) := by decide +kernel
theorem dX12_balls_47 : decode cX12_balls 47 = .ok (.iconst 3, 1) := by decide +kernel
theorem dX12_balls_48 : decode cX12_balls 48 = .ok (.iand, 1) := by decide +kernel
theorem dX12_balls_49 : decode cX12_balls 49 = .ok (.istore 5, 2) := by decide +kernel
theorem dX12_balls_51 : decode cX12_balls 51 = .ok (.iload_n 3, 1) := by decide +kernel
theorem dX12_balls_52 : decode cX12_balls 52 = .ok (.iconst (-1), 1) := by decide +kernel
theorem dX12_balls_53 : decode cX12_balls 53 = .ok (.if_icmp .eq 22, 3) := by decide +kernel
theorem dX12_balls_56 : decode cX12_balls 56 = .ok (.iload_n 2, 1) := by decide +kernel
theorem dX12_balls_57 : decode cX12_balls 57 = .ok (.ifCond .eq 12, 3) := by decide +kernel
theorem dX12_balls_60 : decode cX12_balls 60 = .ok (.iload 5, 2) := by decide +kernel
theorem dX12_balls_62 : decode cX12_balls 62 = .ok (.iload_n 3, 1) := by decide +kernel
theorem dX12_balls_63 : decode cX12_balls 63 = .ok (.if_icmp .le 15, 3) := by decide +kernel
theorem dX12_balls_66 : decode cX12_balls 66 = .ok (.goto 9, 3) := by decide +kernel
theorem dX12_balls_69 : decode cX12_balls 69 = .ok (.iload 5, 2) := by decide +kernel
theorem dX12_balls_71 : decode cX12_balls 71 = .ok (.iload_n 3, 1) := by decide +kernel
theorem dX12_balls_72 : decode cX12_balls 72 = .ok (.if_icmp .ge 6, 3) := by decide +kernel
theorem dX12_balls_75 : decode cX12_balls 75 = .ok (.iload 5, 2) := by decide +kernel
theorem dX12_balls_77 : decode cX12_balls 77 = .ok (.istore_n 3, 1) := by decide +kernel
theorem dX12_balls_78 : decode cX12_balls 78 = .ok (.iinc 4 1, 3) := by decide +kernel
theorem dX12_balls_81 : decode cX12_balls 81 = .ok (.goto (-54), 3) := by decide +kernel
theorem dX12_balls_84 : decode cX12_balls 84 = .ok (.iload_n 3, 1) := by decide +kernel
theorem dX12_balls_85 : decode cX12_balls 85 = .ok (.ireturn, 1) := by decide +kernel
theorem dX12_again_0 : decode cX12_again 0 = .ok (.aload_n 0, 1) := by decide +kernel
theorem dX12_again_1 : decode cX12_again 1 = .ok (.getfield 333, 3) := by decide +kernel
theorem dX12_again_4 : decode cX12_again 4 = .ok (.ifCond .eq 10, 3) := by decide +kernel
theorem dX12_again_7 : decode cX12_again 7 = .ok (.aload_n 0, 1) := by decide +kernel
theorem dX12_again_8 : decode cX12_again 8 = .ok (.getfield 388, 3) := by decide +kernel
theorem dX12_again_11 : decode cX12_again 11 = .ok (.goto 6, 3) := by decide +kernel
theorem dX12_again_14 : decode cX12_again 14 = .ok (.ldc2_w 484, 3) := by decide +kernel
theorem dX12_again_17 : decode cX12_again 17 = .ok (.lreturn, 1) := by decide +kernel
theorem dX12_ring_0 : decode cX12_ring 0 = .ok (.aload_n 0, 1) := by decide +kernel
theorem dX12_ring_1 : decode cX12_ring 1 = .ok (.getfield 329, 3) := by decide +kernel
theorem dX12_ring_4 : decode cX12_ring 4 = .ok (.ifCond .ne 5, 3) := by decide +kernel
theorem dX12_ring_7 : decode cX12_ring 7 = .ok (.iconst (-1), 1) := by decide +kernel
theorem dX12_ring_8 : decode cX12_ring 8 = .ok (.ireturn, 1) := by decide +kernel
theorem dX12_ring_9 : decode cX12_ring 9 = .ok (.iconst 0, 1) := by decide +kernel
theorem dX12_ring_10 : decode cX12_ring 10 = .ok (.istore_n 1, 1) := by decide +kernel
theorem dX12_ring_11 : decode cX12_ring 11 = .ok (.iload_n 1, 1) := by decide +kernel
theorem dX12_ring_12 : decode cX12_ring 12 = .ok (.aload_n 0, 1) := by decide +kernel
theorem dX12_ring_13 : decode cX12_ring 13 = .ok (.bipush 7, 2) := by decide +kernel
theorem dX12_ring_15 : decode cX12_ring 15 = .ok (.invokevirtual 370, 3) := by decide +kernel
theorem dX12_ring_18 : decode cX12_ring 18 = .ok (.if_icmp .ge 19, 3) := by decide +kernel
theorem dX12_ring_21 : decode cX12_ring 21 = .ok (.aload_n 0, 1) := by decide +kernel
theorem dX12_ring_22 : decode cX12_ring 22 = .ok (.iload_n 1, 1) := by decide +kernel
theorem dX12_ring_23 : decode cX12_ring 23 = .ok (.invokevirtual 486, 3) := by decide +kernel
theorem dX12_ring_26 : decode cX12_ring 26 = .ok (.ifCond .eq 5, 3) := by decide +kernel
theorem dX12_ring_29 : decode cX12_ring 29 = .ok (.iload_n 1, 1) := by decide +kernel
theorem dX12_ring_30 : decode cX12_ring 30 = .ok (.ireturn, 1) := by decide +kernel
theorem dX12_ring_31 : decode cX12_ring 31 = .ok (.iinc 1 1, 3) := by decide +kernel
theorem dX12_ring_34 : decode cX12_ring 34 = .ok (.goto (-23), 3) := by decide +kernel
theorem dX12_ring_37 : decode cX12_ring 37 = .ok (.iconst (-1), 1) := by decide +kernel
theorem dX12_ring_38 : decode cX12_ring 38 = .ok (.ireturn, 1) := by decide +kernel
theorem dX12_comesBack_0 : decode cX12_comesBack 0 = .ok (.iconst 0, 1) := by decide +kernel
theorem dX12_comesBack_1 : decode cX12_comesBack 1 = .ok (.istore_n 2, 1) := by decide +kernel
theorem dX12_comesBack_2 : decode cX12_comesBack 2 = .ok (.iload_n 2, 1) := by decide +kernel
theorem dX12_comesBack_3 : decode cX12_comesBack 3 = .ok (.bipush 24, 2) := by decide +kernel
theorem dX12_comesBack_5 : decode cX12_comesBack 5 = .ok (.if_icmp .ge 16, 3) := by decide +kernel
theorem dX12_comesBack_8 : decode cX12_comesBack 8 = .ok (.aload_n 0, 1) := by decide +kernel
theorem dX12_comesBack_9 : decode cX12_comesBack 9 = .ok (.getfield 216, 3) := by decide +kernel
theorem dX12_comesBack_12 : decode cX12_comesBack 12 = .ok (.iload_n 2, 1) := by decide +kernel
theorem dX12_comesBack_13 : decode cX12_comesBack 13 = .ok (.iconst 0, 1) := by decide +kernel
theorem dX12_comesBack_14 : decode cX12_comesBack 14 = .ok (.bastore, 1) := by decide +kernel
theorem dX12_comesBack_15 : decode cX12_comesBack 15 = .ok (.iinc 2 1, 3) := by decide +kernel
theorem dX12_comesBack_18 : decode cX12_comesBack 18 = .ok (.goto (-16), 3) := by decide +kernel
theorem dX12_comesBack_21 : decode cX12_comesBack 21 = .ok (.aload_n 0, 1) := by decide +kernel
theorem dX12_comesBack_22 : decode cX12_comesBack 22 = .ok (.iload_n 1, 1) := by decide +kernel
theorem dX12_comesBack_23 : decode cX12_comesBack 23 = .ok (.iconst (-1), 1) := by decide +kernel
theorem dX12_comesBack_24 : decode cX12_comesBack 24 = .ok (.invokevirtual 489, 3) := by decide +kernel
theorem dX12_comesBack_27 : decode cX12_comesBack 27 = .ok (.iconst 1, 1) := by decide +kernel
theorem dX12_comesBack_28 : decode cX12_comesBack 28 = .ok (.istore_n 2, 1) := by decide +kernel
theorem dX12_comesBack_29 : decode cX12_comesBack 29 = .ok (.iconst 0, 1) := by decide +kernel
theorem dX12_comesBack_30 : decode cX12_comesBack 30 = .ok (.istore_n 3, 1) := by decide +kernel
theorem dX12_comesBack_31 : decode cX12_comesBack 31 = .ok (.iload_n 2, 1) := by decide +kernel
theorem dX12_comesBack_32 : decode cX12_comesBack 32 = .ok (.ifCond .eq 101, 3) := by decide +kernel
theorem dX12_comesBack_35 : decode cX12_comesBack 35 = .ok (.iconst 0, 1) := by decide +kernel
theorem dX12_comesBack_36 : decode cX12_comesBack 36 = .ok (.istore 4, 2) := by decide +kernel
theorem dX12_comesBack_38 : decode cX12_comesBack 38 = .ok (.iload 4, 2) := by decide +kernel
theorem dX12_comesBack_40 : decode cX12_comesBack 40 = .ok (.bipush 24, 2) := by decide +kernel
theorem dX12_comesBack_42 : decode cX12_comesBack 42 = .ok (.if_icmp .ge 41, 3) := by decide +kernel
theorem dX12_comesBack_45 : decode cX12_comesBack 45 = .ok (.aload_n 0, 1) := by decide +kernel
theorem dX12_comesBack_46 : decode cX12_comesBack 46 = .ok (.getfield 216, 3) := by decide +kernel
theorem dX12_comesBack_49 : decode cX12_comesBack 49 = .ok (.iload 4, 2) := by decide +kernel
theorem dX12_comesBack_51 : decode cX12_comesBack 51 = .ok (.baload, 1) := by decide +kernel
theorem dX12_comesBack_52 : decode cX12_comesBack 52 = .ok (.ifCond .eq 25, 3) := by decide +kernel
theorem dX12_comesBack_55 : decode cX12_comesBack 55 = .ok (.aload_n 0, 1) := by decide +kernel
theorem dX12_comesBack_56 : decode cX12_comesBack 56 = .ok (.iload 4, 2) := by decide +kernel
theorem dX12_comesBack_58 : decode cX12_comesBack 58 = .ok (.bipush 12, 2) := by decide +kernel
theorem dX12_comesBack_60 : decode cX12_comesBack 60 = .ok (.irem, 1) := by decide +kernel
theorem dX12_comesBack_61 : decode cX12_comesBack 61 = .ok (.iload 4, 2) := by decide +kernel
theorem dX12_comesBack_63 : decode cX12_comesBack 63 = .ok (.bipush 12, 2) := by decide +kernel
theorem dX12_comesBack_65 : decode cX12_comesBack 65 = .ok (.if_icmp .ge 7, 3) := by decide +kernel
theorem dX12_comesBack_68 : decode cX12_comesBack 68 = .ok (.iconst (-1), 1) := by decide +kernel
theorem dX12_comesBack_69 : decode cX12_comesBack 69 = .ok (.goto 5, 3) := by decide +kernel
theorem dX12_comesBack_72 : decode cX12_comesBack 72 = .ok (.bipush (-2), 2) := by decide +kernel
theorem dX12_comesBack_74 : decode cX12_comesBack 74 = .ok (.invokevirtual 489, 3) := by decide +kernel
theorem dX12_comesBack_77 : decode cX12_comesBack 77 = .ok (.iinc 4 1, 3) := by decide +kernel
theorem dX12_comesBack_80 : decode cX12_comesBack 80 = .ok (.goto (-42), 3) := by decide +kernel
theorem dX12_comesBack_83 : decode cX12_comesBack 83 = .ok (.iconst 0, 1) := by decide +kernel
theorem dX12_comesBack_84 : decode cX12_comesBack 84 = .ok (.istore 4, 2) := by decide +kernel
theorem dX12_comesBack_86 : decode cX12_comesBack 86 = .ok (.iconst 0, 1) := by decide +kernel
theorem dX12_comesBack_87 : decode cX12_comesBack 87 = .ok (.istore 5, 2) := by decide +kernel
theorem dX12_comesBack_89 : decode cX12_comesBack 89 = .ok (.iload 5, 2) := by decide +kernel
theorem dX12_comesBack_91 : decode cX12_comesBack 91 = .ok (.bipush 24, 2) := by decide +kernel
theorem dX12_comesBack_93 : decode cX12_comesBack 93 = .ok (.if_icmp .ge 22, 3) := by decide +kernel
theorem dX12_comesBack_96 : decode cX12_comesBack 96 = .ok (.aload_n 0, 1) := by decide +kernel
theorem dX12_comesBack_97 : decode cX12_comesBack 97 = .ok (.getfield 216, 3) := by decide +kernel
theorem dX12_comesBack_100 : decode cX12_comesBack 100 = .ok (.iload 5, 2) := by decide +kernel
theorem dX12_comesBack_102 : decode cX12_comesBack 102 = .ok (.baload, 1) := by decide +kernel
theorem dX12_comesBack_103 : decode cX12_comesBack 103 = .ok (.ifCond .eq 6, 3) := by decide +kernel
theorem dX12_comesBack_106 : decode cX12_comesBack 106 = .ok (.iinc 4 1, 3) := by decide +kernel
theorem dX12_comesBack_109 : decode cX12_comesBack 109 = .ok (.iinc 5 1, 3) := by decide +kernel
theorem dX12_comesBack_112 : decode cX12_comesBack 112 = .ok (.goto (-23), 3) := by decide +kernel
theorem dX12_comesBack_115 : decode cX12_comesBack 115 = .ok (.iload 4, 2) := by decide +kernel
theorem dX12_comesBack_117 : decode cX12_comesBack 117 = .ok (.iload_n 3, 1) := by decide +kernel
theorem dX12_comesBack_118 : decode cX12_comesBack 118 = .ok (.if_icmp .le 7, 3) := by decide +kernel
theorem dX12_comesBack_121 : decode cX12_comesBack 121 = .ok (.iconst 1, 1) := by decide +kernel
theorem dX12_comesBack_122 : decode cX12_comesBack 122 = .ok (.goto 4, 3) := by decide +kernel
theorem dX12_comesBack_125 : decode cX12_comesBack 125 = .ok (.iconst 0, 1) := by decide +kernel
theorem dX12_comesBack_126 : decode cX12_comesBack 126 = .ok (.istore_n 2, 1) := by decide +kernel
theorem dX12_comesBack_127 : decode cX12_comesBack 127 = .ok (.iload 4, 2) := by decide +kernel
theorem dX12_comesBack_129 : decode cX12_comesBack 129 = .ok (.istore_n 3, 1) := by decide +kernel
theorem dX12_comesBack_130 : decode cX12_comesBack 130 = .ok (.goto (-99), 3) := by decide +kernel
theorem dX12_comesBack_133 : decode cX12_comesBack 133 = .ok (.aload_n 0, 1) := by decide +kernel
theorem dX12_comesBack_134 : decode cX12_comesBack 134 = .ok (.getfield 216, 3) := by decide +kernel
theorem dX12_comesBack_137 : decode cX12_comesBack 137 = .ok (.iload_n 1, 1) := by decide +kernel
theorem dX12_comesBack_138 : decode cX12_comesBack 138 = .ok (.baload, 1) := by decide +kernel
theorem dX12_comesBack_139 : decode cX12_comesBack 139 = .ok (.ireturn, 1) := by decide +kernel
theorem dX12_leadsOn_0 : decode cX12_leadsOn 0 = .ok (.aload_n 0, 1) := by decide +kernel
theorem dX12_leadsOn_1 : decode cX12_leadsOn 1 = .ok (.getfield 85, 3) := by decide +kernel
theorem dX12_leadsOn_4 : decode cX12_leadsOn 4 = .ok (.bipush 13, 2) := by decide +kernel
theorem dX12_leadsOn_6 : decode cX12_leadsOn 6 = .ok (.aload_n 0, 1) := by decide +kernel
theorem dX12_leadsOn_7 : decode cX12_leadsOn 7 = .ok (.getfield 308, 3) := by decide +kernel
theorem dX12_leadsOn_10 : decode cX12_leadsOn 10 = .ok (.imul, 1) := by decide +kernel
theorem dX12_leadsOn_11 : decode cX12_leadsOn 11 = .ok (.iload_n 1, 1) := by decide +kernel
theorem dX12_leadsOn_12 : decode cX12_leadsOn 12 = .ok (.iadd, 1) := by decide +kernel
theorem dX12_leadsOn_13 : decode cX12_leadsOn 13 = .ok (.iaload, 1) := by decide +kernel
theorem dX12_leadsOn_14 : decode cX12_leadsOn 14 = .ok (.istore_n 3, 1) := by decide +kernel
theorem dX12_leadsOn_15 : decode cX12_leadsOn 15 = .ok (.iload_n 3, 1) := by decide +kernel
theorem dX12_leadsOn_16 : decode cX12_leadsOn 16 = .ok (.aload_n 0, 1) := by decide +kernel
theorem dX12_leadsOn_17 : decode cX12_leadsOn 17 = .ok (.getfield 85, 3) := by decide +kernel
theorem dX12_leadsOn_20 : decode cX12_leadsOn 20 = .ok (.bipush 13, 2) := by decide +kernel
theorem dX12_leadsOn_22 : decode cX12_leadsOn 22 = .ok (.aload_n 0, 1) := by decide +kernel
theorem dX12_leadsOn_23 : decode cX12_leadsOn 23 = .ok (.getfield 308, 3) := by decide +kernel
theorem dX12_leadsOn_26 : decode cX12_leadsOn 26 = .ok (.imul, 1) := by decide +kernel
theorem dX12_leadsOn_27 : decode cX12_leadsOn 27 = .ok (.iload_n 1, 1) := by decide +kernel
theorem dX12_leadsOn_28 : decode cX12_leadsOn 28 = .ok (.iadd, 1) := by decide +kernel
theorem dX12_leadsOn_29 : decode cX12_leadsOn 29 = .ok (.iconst 1, 1) := by decide +kernel
theorem dX12_leadsOn_30 : decode cX12_leadsOn 30 = .ok (.iadd, 1) := by decide +kernel
theorem dX12_leadsOn_31 : decode cX12_leadsOn 31 = .ok (.iaload, 1) := by decide +kernel
theorem dX12_leadsOn_32 : decode cX12_leadsOn 32 = .ok (.if_icmp .ge 120, 3) := by decide +kernel
theorem dX12_leadsOn_35 : decode cX12_leadsOn 35 = .ok (.aload_n 0, 1) := by decide +kernel
theorem dX12_leadsOn_36 : decode cX12_leadsOn 36 = .ok (.getfield 88, 3) := by decide +kernel
theorem dX12_leadsOn_39 : decode cX12_leadsOn 39 = .ok (.bipush 80, 2) := by decide +kernel
theorem dX12_leadsOn_41 : decode cX12_leadsOn 41 = .ok (.aload_n 0, 1) := by decide +kernel
theorem dX12_leadsOn_42 : decode cX12_leadsOn 42 = .ok (.getfield 308, 3) := by decide +kernel
theorem dX12_leadsOn_45 : decode cX12_leadsOn 45 = .ok (.imul, 1) := by decide +kernel
theorem dX12_leadsOn_46 : decode cX12_leadsOn 46 = .ok (.iload_n 3, 1) := by decide +kernel
theorem dX12_leadsOn_47 : decode cX12_leadsOn 47 = .ok (.iadd, 1) := by decide +kernel
theorem dX12_leadsOn_48 : decode cX12_leadsOn 48 = .ok (.iaload, 1) := by decide +kernel
theorem dX12_leadsOn_49 : decode cX12_leadsOn 49 = .ok (.iload_n 2, 1) := by decide +kernel
theorem dX12_leadsOn_50 : decode cX12_leadsOn 50 = .ok (.if_icmp .eq 6, 3) := by decide +kernel
theorem dX12_leadsOn_53 : decode cX12_leadsOn 53 = .ok (.goto 93, 3) := by decide +kernel
theorem dX12_leadsOn_56 : decode cX12_leadsOn 56 = .ok (.aload_n 0, 1) := by decide +kernel
theorem dX12_leadsOn_57 : decode cX12_leadsOn 57 = .ok (.getfield 94, 3) := by decide +kernel
theorem dX12_leadsOn_60 : decode cX12_leadsOn 60 = .ok (.bipush 81, 2) := by decide +kernel
theorem dX12_leadsOn_62 : decode cX12_leadsOn 62 = .ok (.aload_n 0, 1) := by decide +kernel
theorem dX12_leadsOn_63 : decode cX12_leadsOn 63 = .ok (.getfield 308, 3) := by decide +kernel
theorem dX12_leadsOn_66 : decode cX12_leadsOn 66 = .ok (.imul, 1) := by decide +kernel
theorem dX12_leadsOn_67 : decode cX12_leadsOn 67 = .ok (.iload_n 3, 1) := by decide +kernel
theorem dX12_leadsOn_68 : decode cX12_leadsOn 68 = .ok (.iadd, 1) := by decide +kernel
theorem dX12_leadsOn_69 : decode cX12_leadsOn 69 = .ok (.iaload, 1) := by decide +kernel
theorem dX12_leadsOn_70 : decode cX12_leadsOn 70 = .ok (.istore 4, 2) := by decide +kernel
theorem dX12_leadsOn_72 : decode cX12_leadsOn 72 = .ok (.iload 4, 2) := by decide +kernel
theorem dX12_leadsOn_74 : decode cX12_leadsOn 74 = .ok (.aload_n 0, 1) := by decide +kernel
theorem dX12_leadsOn_75 : decode cX12_leadsOn 75 = .ok (.getfield 94, 3) := by decide +kernel
theorem dX12_leadsOn_78 : decode cX12_leadsOn 78 = .ok (.bipush 81, 2) := by decide +kernel
theorem dX12_leadsOn_80 : decode cX12_leadsOn 80 = .ok (.aload_n 0, 1) := by decide +kernel
theorem dX12_leadsOn_81 : decode cX12_leadsOn 81 = .ok (.getfield 308, 3) := by decide +kernel
theorem dX12_leadsOn_84 : decode cX12_leadsOn 84 = .ok (.imul, 1) := by decide +kernel
theorem dX12_leadsOn_85 : decode cX12_leadsOn 85 = .ok (.iload_n 3, 1) := by decide +kernel
theorem dX12_leadsOn_86 : decode cX12_leadsOn 86 = .ok (.iadd, 1) := by decide +kernel
theorem dX12_leadsOn_87 : decode cX12_leadsOn 87 = .ok (.iconst 1, 1) := by decide +kernel
theorem dX12_leadsOn_88 : decode cX12_leadsOn 88 = .ok (.iadd, 1) := by decide +kernel
theorem dX12_leadsOn_89 : decode cX12_leadsOn 89 = .ok (.iaload, 1) := by decide +kernel
theorem dX12_leadsOn_90 : decode cX12_leadsOn 90 = .ok (.if_icmp .ge 56, 3) := by decide +kernel
