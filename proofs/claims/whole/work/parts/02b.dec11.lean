theorem dX11_init_0 : decode cX11_init 0 = .ok (.aload_n 0, 1) := by decide +kernel
theorem dX11_init_1 : decode cX11_init 1 = .ok (.invokespecial 1, 3) := by decide +kernel
theorem dX11_init_4 : decode cX11_init 4 = .ok (.aload_n 0, 1) := by decide +kernel
theorem dX11_init_5 : decode cX11_init 5 = .ok (.bipush 30, 2) := by decide +kernel
theorem dX11_init_7 : decode cX11_init 7 = .ok (.newarray .int, 2) := by decide +kernel
theorem dX11_init_9 : decode cX11_init 9 = .ok (.putfield 9, 3) := by decide +kernel
theorem dX11_init_12 : decode cX11_init 12 = .ok (.aload_n 0, 1) := by decide +kernel
theorem dX11_init_13 : decode cX11_init 13 = .ok (.bipush 6, 2) := by decide +kernel
theorem dX11_init_15 : decode cX11_init 15 = .ok (.anewarray 13, 3) := by decide +kernel
theorem dX11_init_18 : decode cX11_init 18 = .ok (.putfield 15, 3) := by decide +kernel
theorem dX11_init_21 : decode cX11_init 21 = .ok (.aload_n 0, 1) := by decide +kernel
theorem dX11_init_22 : decode cX11_init 22 = .ok (.new 19, 3) := by decide +kernel
theorem dX11_init_25 : decode cX11_init 25 = .ok (.dup, 1) := by decide +kernel
theorem dX11_init_26 : decode cX11_init 26 = .ok (.invokespecial 21, 3) := by decide +kernel
theorem dX11_init_29 : decode cX11_init 29 = .ok (.putfield 22, 3) := by decide +kernel
theorem dX11_init_32 : decode cX11_init 32 = .ok (.aload_n 0, 1) := by decide +kernel
theorem dX11_init_33 : decode cX11_init 33 = .ok (.new 26, 3) := by decide +kernel
theorem dX11_init_36 : decode cX11_init 36 = .ok (.dup, 1) := by decide +kernel
theorem dX11_init_37 : decode cX11_init 37 = .ok (.invokespecial 28, 3) := by decide +kernel
theorem dX11_init_40 : decode cX11_init 40 = .ok (.putfield 29, 3) := by decide +kernel
theorem dX11_init_43 : decode cX11_init 43 = .ok (.aload_n 0, 1) := by decide +kernel
theorem dX11_init_44 : decode cX11_init 44 = .ok (.iconst 4, 1) := by decide +kernel
theorem dX11_init_45 : decode cX11_init 45 = .ok (.iconst 3, 1) := by decide +kernel
theorem dX11_init_46 : decode cX11_init 46 = .ok (.multianewarray 33 2, 4) := by decide +kernel
theorem dX11_init_50 : decode cX11_init 50 = .ok (.putfield 35, 3) := by decide +kernel
theorem dX11_init_53 : decode cX11_init 53 = .ok (.aload_n 0, 1) := by decide +kernel
theorem dX11_init_54 : decode cX11_init 54 = .ok (.iconst 4, 1) := by decide +kernel
theorem dX11_init_55 : decode cX11_init 55 = .ok (.bipush 40, 2) := by decide +kernel
theorem dX11_init_57 : decode cX11_init 57 = .ok (.multianewarray 38 2, 4) := by decide +kernel
theorem dX11_init_61 : decode cX11_init 61 = .ok (.putfield 40, 3) := by decide +kernel
theorem dX11_init_64 : decode cX11_init 64 = .ok (.aload_n 0, 1) := by decide +kernel
theorem dX11_init_65 : decode cX11_init 65 = .ok (.iconst 4, 1) := by decide +kernel
theorem dX11_init_66 : decode cX11_init 66 = .ok (.newarray .int, 2) := by decide +kernel
theorem dX11_init_68 : decode cX11_init 68 = .ok (.putfield 43, 3) := by decide +kernel
theorem dX11_init_71 : decode cX11_init 71 = .ok (.aload_n 0, 1) := by decide +kernel
theorem dX11_init_72 : decode cX11_init 72 = .ok (.iconst 4, 1) := by decide +kernel
theorem dX11_init_73 : decode cX11_init 73 = .ok (.newarray .int, 2) := by decide +kernel
theorem dX11_init_75 : decode cX11_init 75 = .ok (.putfield 46, 3) := by decide +kernel
theorem dX11_init_78 : decode cX11_init 78 = .ok (.aload_n 0, 1) := by decide +kernel
theorem dX11_init_79 : decode cX11_init 79 = .ok (.iconst 4, 1) := by decide +kernel
theorem dX11_init_80 : decode cX11_init 80 = .ok (.newarray .int, 2) := by decide +kernel
theorem dX11_init_82 : decode cX11_init 82 = .ok (.putfield 49, 3) := by decide +kernel
theorem dX11_init_85 : decode cX11_init 85 = .ok (.aload_n 0, 1) := by decide +kernel
theorem dX11_init_86 : decode cX11_init 86 = .ok (.iconst 4, 1) := by decide +kernel
theorem dX11_init_87 : decode cX11_init 87 = .ok (.newarray .int, 2) := by decide +kernel
theorem dX11_init_89 : decode cX11_init 89 = .ok (.putfield 52, 3) := by decide +kernel
theorem dX11_init_92 : decode cX11_init 92 = .ok (.aload_n 0, 1) := by decide +kernel
theorem dX11_init_93 : decode cX11_init 93 = .ok (.iconst 4, 1) := by decide +kernel
theorem dX11_init_94 : decode cX11_init 94 = .ok (.newarray .int, 2) := by decide +kernel
theorem dX11_init_96 : decode cX11_init 96 = .ok (.putfield 55, 3) := by decide +kernel
theorem dX11_init_99 : decode cX11_init 99 = .ok (.aload_n 0, 1) := by decide +kernel
theorem dX11_init_100 : decode cX11_init 100 = .ok (.iconst 0, 1) := by decide +kernel
theorem dX11_init_101 : decode cX11_init 101 = .ok (.putfield 58, 3) := by decide +kernel
theorem dX11_init_104 : decode cX11_init 104 = .ok (.aload_n 0, 1) := by decide +kernel
theorem dX11_init_105 : decode cX11_init 105 = .ok (.iconst 0, 1) := by decide +kernel
theorem dX11_init_106 : decode cX11_init 106 = .ok (.putfield 62, 3) := by decide +kernel
theorem dX11_init_109 : decode cX11_init 109 = .ok (.aload_n 0, 1) := by decide +kernel
theorem dX11_init_110 : decode cX11_init 110 = .ok (.iconst 0, 1) := by decide +kernel
theorem dX11_init_111 : decode cX11_init 111 = .ok (.putfield 66, 3) := by decide +kernel
theorem dX11_init_114 : decode cX11_init 114 = .ok (.aload_n 0, 1) := by decide +kernel
theorem dX11_init_115 : decode cX11_init 115 = .ok (.getfield 15, 3) := by decide +kernel
theorem dX11_init_118 : decode cX11_init 118 = .ok (.iconst 0, 1) := by decide +kernel
theorem dX11_init_119 : decode cX11_init 119 = .ok (.new 13, 3) := by decide +kernel
theorem dX11_init_122 : decode cX11_init 122 = .ok (.dup, 1) := by decide +kernel
theorem dX11_init_123 : decode cX11_init 123 = .ok (.aload_n 0, 1) := by decide +kernel
theorem dX11_init_124 : decode cX11_init 124 = .ok (.getfield 9, 3) := by decide +kernel
theorem dX11_init_127 : decode cX11_init 127 = .ok (.invokespecial 69, 3) := by decide +kernel
theorem dX11_init_130 : decode cX11_init 130 = .ok (.aastore, 1) := by decide +kernel
theorem dX11_init_131 : decode cX11_init 131 = .ok (.aload_n 0, 1) := by decide +kernel
theorem dX11_init_132 : decode cX11_init 132 = .ok (.getfield 15, 3) := by decide +kernel
theorem dX11_init_135 : decode cX11_init 135 = .ok (.iconst 1, 1) := by decide +kernel
theorem dX11_init_136 : decode cX11_init 136 = .ok (.new 72, 3) := by decide +kernel
theorem dX11_init_139 : decode cX11_init 139 = .ok (.dup, 1) := by decide +kernel
theorem dX11_init_140 : decode cX11_init 140 = .ok (.aload_n 0, 1) := by decide +kernel
theorem dX11_init_141 : decode cX11_init 141 = .ok (.getfield 9, 3) := by decide +kernel
theorem dX11_init_144 : decode cX11_init 144 = .ok (.invokespecial 74, 3) := by decide +kernel
theorem dX11_init_147 : decode cX11_init 147 = .ok (.aastore, 1) := by decide +kernel
theorem dX11_init_148 : decode cX11_init 148 = .ok (.aload_n 0, 1) := by decide +kernel
theorem dX11_init_149 : decode cX11_init 149 = .ok (.getfield 15, 3) := by decide +kernel
theorem dX11_init_152 : decode cX11_init 152 = .ok (.iconst 2, 1) := by decide +kernel
theorem dX11_init_153 : decode cX11_init 153 = .ok (.new 75, 3) := by decide +kernel
theorem dX11_init_156 : decode cX11_init 156 = .ok (.dup, 1) := by decide +kernel
theorem dX11_init_157 : decode cX11_init 157 = .ok (.aload_n 0, 1) := by decide +kernel
theorem dX11_init_158 : decode cX11_init 158 = .ok (.getfield 9, 3) := by decide +kernel
theorem dX11_init_161 : decode cX11_init 161 = .ok (.invokespecial 77, 3) := by decide +kernel
theorem dX11_init_164 : decode cX11_init 164 = .ok (.aastore, 1) := by decide +kernel
theorem dX11_init_165 : decode cX11_init 165 = .ok (.aload_n 0, 1) := by decide +kernel
theorem dX11_init_166 : decode cX11_init 166 = .ok (.getfield 15, 3) := by decide +kernel
theorem dX11_init_169 : decode cX11_init 169 = .ok (.iconst 3, 1) := by decide +kernel
theorem dX11_init_170 : decode cX11_init 170 = .ok (.new 78, 3) := by decide +kernel
theorem dX11_init_173 : decode cX11_init 173 = .ok (.dup, 1) := by decide +kernel
theorem dX11_init_174 : decode cX11_init 174 = .ok (.aload_n 0, 1) := by decide +kernel
theorem dX11_init_175 : decode cX11_init 175 = .ok (.getfield 9, 3) := by decide +kernel
theorem dX11_init_178 : decode cX11_init 178 = .ok (.invokespecial 80, 3) := by decide +kernel
theorem dX11_init_181 : decode cX11_init 181 = .ok (.aastore, 1) := by decide +kernel
theorem dX11_init_182 : decode cX11_init 182 = .ok (.aload_n 0, 1) := by decide +kernel
theorem dX11_init_183 : decode cX11_init 183 = .ok (.getfield 15, 3) := by decide +kernel
theorem dX11_init_186 : decode cX11_init 186 = .ok (.iconst 4, 1) := by decide +kernel
theorem dX11_init_187 : decode cX11_init 187 = .ok (.new 81, 3) := by decide +kernel
theorem dX11_init_190 : decode cX11_init 190 = .ok (.dup, 1) := by decide +kernel
theorem dX11_init_191 : decode cX11_init 191 = .ok (.aload_n 0, 1) := by decide +kernel
theorem dX11_init_192 : decode cX11_init 192 = .ok (.getfield 9, 3) := by decide +kernel
theorem dX11_init_195 : decode cX11_init 195 = .ok (.invokespecial 83, 3) := by decide +kernel
theorem dX11_init_198 : decode cX11_init 198 = .ok (.aastore, 1) := by decide +kernel
theorem dX11_init_199 : decode cX11_init 199 = .ok (.aload_n 0, 1) := by decide +kernel
theorem dX11_init_200 : decode cX11_init 200 = .ok (.getfield 15, 3) := by decide +kernel
theorem dX11_init_203 : decode cX11_init 203 = .ok (.iconst 5, 1) := by decide +kernel
theorem dX11_init_204 : decode cX11_init 204 = .ok (.new 84, 3) := by decide +kernel
theorem dX11_init_207 : decode cX11_init 207 = .ok (.dup, 1) := by decide +kernel
theorem dX11_init_208 : decode cX11_init 208 = .ok (.aload_n 0, 1) := by decide +kernel
theorem dX11_init_209 : decode cX11_init 209 = .ok (.getfield 9, 3) := by decide +kernel
theorem dX11_init_212 : decode cX11_init 212 = .ok (.invokespecial 86, 3) := by decide +kernel
theorem dX11_init_215 : decode cX11_init 215 = .ok (.aastore, 1) := by decide +kernel
theorem dX11_init_216 : decode cX11_init 216 = .ok (.aload_n 0, 1) := by decide +kernel
theorem dX11_init_217 : decode cX11_init 217 = .ok (.new 87, 3) := by decide +kernel
theorem dX11_init_220 : decode cX11_init 220 = .ok (.dup, 1) := by decide +kernel
theorem dX11_init_221 : decode cX11_init 221 = .ok (.aload_n 0, 1) := by decide +kernel
theorem dX11_init_222 : decode cX11_init 222 = .ok (.getfield 15, 3) := by decide +kernel
theorem dX11_init_225 : decode cX11_init 225 = .ok (.invokespecial 89, 3) := by decide +kernel
theorem dX11_init_228 : decode cX11_init 228 = .ok (.putfield 92, 3) := by decide +kernel
theorem dX11_init_231 : decode cX11_init 231 = .ok (.aload_n 0, 1) := by decide +kernel
theorem dX11_init_232 : decode cX11_init 232 = .ok (.new 87, 3) := by decide +kernel
theorem dX11_init_235 : decode cX11_init 235 = .ok (.dup, 1) := by decide +kernel
theorem dX11_init_236 : decode cX11_init 236 = .ok (.aload_n 0, 1) := by decide +kernel
theorem dX11_init_237 : decode cX11_init 237 = .ok (.getfield 15, 3) := by decide +kernel
theorem dX11_init_240 : decode cX11_init 240 = .ok (.invokespecial 89, 3) := by decide +kernel
theorem dX11_init_243 : decode cX11_init 243 = .ok (.putfield 96, 3) := by decide +kernel
theorem dX11_init_246 : decode cX11_init 246 = .ok (.aload_n 0, 1) := by decide +kernel
theorem dX11_init_247 : decode cX11_init 247 = .ok (.new 99, 3) := by decide +kernel
theorem dX11_init_250 : decode cX11_init 250 = .ok (.dup, 1) := by decide +kernel
theorem dX11_init_251 : decode cX11_init 251 = .ok (.aload_n 0, 1) := by decide +kernel
theorem dX11_init_252 : decode cX11_init 252 = .ok (.getfield 92, 3) := by decide +kernel
theorem dX11_init_255 : decode cX11_init 255 = .ok (.invokespecial 101, 3) := by decide +kernel
theorem dX11_init_258 : decode cX11_init 258 = .ok (.putfield 104, 3) := by decide +kernel
theorem dX11_init_261 : decode cX11_init 261 = .ok (.aload_n 0, 1) := by decide +kernel
theorem dX11_init_262 : decode cX11_init 262 = .ok (.getfield 43, 3) := by decide +kernel
theorem dX11_init_265 : decode cX11_init 265 = .ok (.iconst (-1), 1) := by decide +kernel
theorem dX11_init_266 : decode cX11_init 266 = .ok (.invokestatic 108, 3) := by decide +kernel
theorem dX11_init_269 : decode cX11_init 269 = .ok (.aload_n 0, 1) := by decide +kernel
theorem dX11_init_270 : decode cX11_init 270 = .ok (.getfield 49, 3) := by decide +kernel
theorem dX11_init_273 : decode cX11_init 273 = .ok (.iconst 2, 1) := by decide +kernel
theorem dX11_init_274 : decode cX11_init 274 = .ok (.invokestatic 108, 3) := by decide +kernel
theorem dX11_init_277 : decode cX11_init 277 = .ok (.return_, 1) := by decide +kernel
theorem dX11_kite_0 : decode cX11_kite 0 = .ok (.iload_n 1, 1) := by decide +kernel
theorem dX11_kite_1 : decode cX11_kite 1 = .ok (.iconst 1, 1) := by decide +kernel
theorem dX11_kite_2 : decode cX11_kite 2 = .ok (.iconst 5, 1) := by decide +kernel
theorem dX11_kite_3 : decode cX11_kite 3 = .ok (.invokestatic 114, 3) := by decide +kernel
theorem dX11_kite_6 : decode cX11_kite 6 = .ok (.ifCond .eq 33, 3) := by decide +kernel
theorem dX11_kite_9 : decode cX11_kite 9 = .ok (.iload_n 2, 1) := by decide +kernel
theorem dX11_kite_10 : decode cX11_kite 10 = .ok (.iconst 0, 1) := by decide +kernel
theorem dX11_kite_11 : decode cX11_kite 11 = .ok (.bipush 63, 2) := by decide +kernel
theorem dX11_kite_13 : decode cX11_kite 13 = .ok (.invokestatic 114, 3) := by decide +kernel
theorem dX11_kite_16 : decode cX11_kite 16 = .ok (.ifCond .eq 23, 3) := by decide +kernel
theorem dX11_kite_19 : decode cX11_kite 19 = .ok (.iload_n 3, 1) := by decide +kernel
theorem dX11_kite_20 : decode cX11_kite 20 = .ok (.iconst 0, 1) := by decide +kernel
theorem dX11_kite_21 : decode cX11_kite 21 = .ok (.bipush 9, 2) := by decide +kernel
theorem dX11_kite_23 : decode cX11_kite 23 = .ok (.invokestatic 114, 3) := by decide +kernel
theorem dX11_kite_26 : decode cX11_kite 26 = .ok (.ifCond .eq 13, 3) := by decide +kernel
theorem dX11_kite_29 : decode cX11_kite 29 = .ok (.iload 4, 2) := by decide +kernel
theorem dX11_kite_31 : decode cX11_kite 31 = .ok (.iconst 0, 1) := by decide +kernel
theorem dX11_kite_32 : decode cX11_kite 32 = .ok (.iconst 5, 1) := by decide +kernel
theorem dX11_kite_33 : decode cX11_kite 33 = .ok (.invokestatic 114, 3) := by decide +kernel
theorem dX11_kite_36 : decode cX11_kite 36 = .ok (.ifCond .ne 5, 3) := by decide +kernel
theorem dX11_kite_39 : decode cX11_kite 39 = .ok (.iconst (-1), 1) := by decide +kernel
theorem dX11_kite_40 : decode cX11_kite 40 = .ok (.ireturn, 1) := by decide +kernel
theorem dX11_kite_41 : decode cX11_kite 41 = .ok (.aload_n 0, 1) := by decide +kernel
theorem dX11_kite_42 : decode cX11_kite 42 = .ok (.getfield 92, 3) := by decide +kernel
theorem dX11_kite_45 : decode cX11_kite 45 = .ok (.getfield 118, 3) := by decide +kernel
theorem dX11_kite_48 : decode cX11_kite 48 = .ok (.bipush 6, 2) := by decide +kernel
theorem dX11_kite_50 : decode cX11_kite 50 = .ok (.if_icmp .lt 8, 3) := by decide +kernel
theorem dX11_kite_53 : decode cX11_kite 53 = .ok (.bipush (-2), 2) := by decide +kernel
theorem dX11_kite_55 : decode cX11_kite 55 = .ok (.goto 15, 3) := by decide +kernel
theorem dX11_kite_58 : decode cX11_kite 58 = .ok (.aload_n 0, 1) := by decide +kernel
theorem dX11_kite_59 : decode cX11_kite 59 = .ok (.getfield 92, 3) := by decide +kernel
theorem dX11_kite_62 : decode cX11_kite 62 = .ok (.iload_n 1, 1) := by decide +kernel
theorem dX11_kite_63 : decode cX11_kite 63 = .ok (.iload_n 2, 1) := by decide +kernel
theorem dX11_kite_64 : decode cX11_kite 64 = .ok (.iload_n 3, 1) := by decide +kernel
theorem dX11_kite_65 : decode cX11_kite 65 = .ok (.iload 4, 2) := by decide +kernel
theorem dX11_kite_67 : decode cX11_kite 67 = .ok (.invokevirtual 121, 3) := by decide +kernel
theorem dX11_kite_70 : decode cX11_kite 70 = .ok (.ireturn, 1) := by decide +kernel
theorem dX11_kiteOf_0 : decode cX11_kiteOf 0 = .ok (.aload_n 0, 1) := by decide +kernel
theorem dX11_kiteOf_1 : decode cX11_kiteOf 1 = .ok (.iload_n 1, 1) := by decide +kernel
theorem dX11_kiteOf_2 : decode cX11_kiteOf 2 = .ok (.invokevirtual 125, 3) := by decide +kernel
theorem dX11_kiteOf_5 : decode cX11_kiteOf 5 = .ok (.ifCond .ne 5, 3) := by decide +kernel
theorem dX11_kiteOf_8 : decode cX11_kiteOf 8 = .ok (.iconst (-1), 1) := by decide +kernel
theorem dX11_kiteOf_9 : decode cX11_kiteOf 9 = .ok (.ireturn, 1) := by decide +kernel
theorem dX11_kiteOf_10 : decode cX11_kiteOf 10 = .ok (.aload_n 0, 1) := by decide +kernel
theorem dX11_kiteOf_11 : decode cX11_kiteOf 11 = .ok (.getfield 92, 3) := by decide +kernel
theorem dX11_kiteOf_14 : decode cX11_kiteOf 14 = .ok (.getfield 129, 3) := by decide +kernel
theorem dX11_kiteOf_17 : decode cX11_kiteOf 17 = .ok (.astore_n 3, 1) := by decide +kernel
theorem dX11_kiteOf_18 : decode cX11_kiteOf 18 = .ok (.iload_n 2, 1) := by decide +kernel
theorem dX11_kiteOf_19 : decode cX11_kiteOf 19 = .ok (.tableswitch 159 0 9 #[53, 63, 70, 77, 87, 104, 121, 130, 139, 149], 53) := by decide +kernel
theorem dX11_kiteOf_72 : decode cX11_kiteOf 72 = .ok (.aload_n 0, 1) := by decide +kernel
theorem dX11_kiteOf_73 : decode cX11_kiteOf 73 = .ok (.getfield 92, 3) := by decide +kernel
theorem dX11_kiteOf_76 : decode cX11_kiteOf 76 = .ok (.getfield 132, 3) := by decide +kernel
theorem dX11_kiteOf_79 : decode cX11_kiteOf 79 = .ok (.iload_n 1, 1) := by decide +kernel
theorem dX11_kiteOf_80 : decode cX11_kiteOf 80 = .ok (.iaload, 1) := by decide +kernel
theorem dX11_kiteOf_81 : decode cX11_kiteOf 81 = .ok (.ireturn, 1) := by decide +kernel
theorem dX11_kiteOf_82 : decode cX11_kiteOf 82 = .ok (.aload_n 3, 1) := by decide +kernel
theorem dX11_kiteOf_83 : decode cX11_kiteOf 83 = .ok (.getfield 135, 3) := by decide +kernel
theorem dX11_kiteOf_86 : decode cX11_kiteOf 86 = .ok (.iload_n 1, 1) := by decide +kernel
theorem dX11_kiteOf_87 : decode cX11_kiteOf 87 = .ok (.iaload, 1) := by decide +kernel
theorem dX11_kiteOf_88 : decode cX11_kiteOf 88 = .ok (.ireturn, 1) := by decide +kernel
theorem dX11_kiteOf_89 : decode cX11_kiteOf 89 = .ok (.aload_n 3, 1) := by decide +kernel
theorem dX11_kiteOf_90 : decode cX11_kiteOf 90 = .ok (.getfield 138, 3) := by decide +kernel
theorem dX11_kiteOf_93 : decode cX11_kiteOf 93 = .ok (.iload_n 1, 1) := by decide +kernel
theorem dX11_kiteOf_94 : decode cX11_kiteOf 94 = .ok (.iaload, 1) := by decide +kernel
theorem dX11_kiteOf_95 : decode cX11_kiteOf 95 = .ok (.ireturn, 1) := by decide +kernel
theorem dX11_kiteOf_96 : decode cX11_kiteOf 96 = .ok (.aload_n 0, 1) := by decide +kernel
theorem dX11_kiteOf_97 : decode cX11_kiteOf 97 = .ok (.getfield 92, 3) := by decide +kernel
theorem dX11_kiteOf_100 : decode cX11_kiteOf 100 = .ok (.getfield 141, 3) := by decide +kernel
theorem dX11_kiteOf_103 : decode cX11_kiteOf 103 = .ok (.iload_n 1, 1) := by decide +kernel
theorem dX11_kiteOf_104 : decode cX11_kiteOf 104 = .ok (.iaload, 1) := by decide +kernel
theorem dX11_kiteOf_105 : decode cX11_kiteOf 105 = .ok (.ireturn, 1) := by decide +kernel
theorem dX11_kiteOf_106 : decode cX11_kiteOf 106 = .ok (.aload_n 3, 1) := by decide +kernel
theorem dX11_kiteOf_107 : decode cX11_kiteOf 107 = .ok (.getfield 144, 3) := by decide +kernel
theorem dX11_kiteOf_110 : decode cX11_kiteOf 110 = .ok (.iload_n 1, 1) := by decide +kernel
theorem dX11_kiteOf_111 : decode cX11_kiteOf 111 = .ok (.invokestatic 147, 3) := by decide +kernel
theorem dX11_kiteOf_114 : decode cX11_kiteOf 114 = .ok (.ifCond .eq 7, 3) := by decide +kernel
theorem dX11_kiteOf_117 : decode cX11_kiteOf 117 = .ok (.iconst 1, 1) := by decide +kernel
theorem dX11_kiteOf_118 : decode cX11_kiteOf 118 = .ok (.goto 4, 3) := by decide +kernel
theorem dX11_kiteOf_121 : decode cX11_kiteOf 121 = .ok (.iconst 0, 1) := by decide +kernel
theorem dX11_kiteOf_122 : decode cX11_kiteOf 122 = .ok (.ireturn, 1) := by decide +kernel
theorem dX11_kiteOf_123 : decode cX11_kiteOf 123 = .ok (.aload_n 3, 1) := by decide +kernel
theorem dX11_kiteOf_124 : decode cX11_kiteOf 124 = .ok (.getfield 151, 3) := by decide +kernel
theorem dX11_kiteOf_127 : decode cX11_kiteOf 127 = .ok (.iload_n 1, 1) := by decide +kernel
theorem dX11_kiteOf_128 : decode cX11_kiteOf 128 = .ok (.invokestatic 147, 3) := by decide +kernel
theorem dX11_kiteOf_131 : decode cX11_kiteOf 131 = .ok (.ifCond .eq 7, 3) := by decide +kernel
theorem dX11_kiteOf_134 : decode cX11_kiteOf 134 = .ok (.iconst 1, 1) := by decide +kernel
theorem dX11_kiteOf_135 : decode cX11_kiteOf 135 = .ok (.goto 4, 3) := by decide +kernel
theorem dX11_kiteOf_138 : decode cX11_kiteOf 138 = .ok (.iconst 0, 1) := by decide +kernel
theorem dX11_kiteOf_139 : decode cX11_kiteOf 139 = .ok (.ireturn, 1) := by decide +kernel
theorem dX11_kiteOf_140 : decode cX11_kiteOf 140 = .ok (.aload_n 0, 1) := by decide +kernel
theorem dX11_kiteOf_141 : decode cX11_kiteOf 141 = .ok (.getfield 92, 3) := by decide +kernel
theorem dX11_kiteOf_144 : decode cX11_kiteOf 144 = .ok (.iload_n 1, 1) := by decide +kernel
theorem dX11_kiteOf_145 : decode cX11_kiteOf 145 = .ok (.invokevirtual 154, 3) := by decide +kernel
theorem dX11_kiteOf_148 : decode cX11_kiteOf 148 = .ok (.ireturn, 1) := by decide +kernel
theorem dX11_kiteOf_149 : decode cX11_kiteOf 149 = .ok (.aload_n 0, 1) := by decide +kernel
theorem dX11_kiteOf_150 : decode cX11_kiteOf 150 = .ok (.getfield 92, 3) := by decide +kernel
theorem dX11_kiteOf_153 : decode cX11_kiteOf 153 = .ok (.iload_n 1, 1) := by decide +kernel
theorem dX11_kiteOf_154 : decode cX11_kiteOf 154 = .ok (.invokevirtual 158, 3) := by decide +kernel
theorem dX11_kiteOf_157 : decode cX11_kiteOf 157 = .ok (.ireturn, 1) := by decide +kernel
theorem dX11_kiteOf_158 : decode cX11_kiteOf 158 = .ok (.aload_n 0, 1) := by decide +kernel
theorem dX11_kiteOf_159 : decode cX11_kiteOf 159 = .ok (.getfield 92, 3) := by decide +kernel
theorem dX11_kiteOf_162 : decode cX11_kiteOf 162 = .ok (.aload_n 3, 1) := by decide +kernel
theorem dX11_kiteOf_163 : decode cX11_kiteOf 163 = .ok (.iload_n 1, 1) := by decide +kernel
theorem dX11_kiteOf_164 : decode cX11_kiteOf 164 = .ok (.invokevirtual 161, 3) := by decide +kernel
theorem dX11_kiteOf_167 : decode cX11_kiteOf 167 = .ok (.ireturn, 1) := by decide +kernel
theorem dX11_kiteOf_168 : decode cX11_kiteOf 168 = .ok (.aload_n 0, 1) := by decide +kernel
theorem dX11_kiteOf_169 : decode cX11_kiteOf 169 = .ok (.getfield 92, 3) := by decide +kernel
theorem dX11_kiteOf_172 : decode cX11_kiteOf 172 = .ok (.aload_n 3, 1) := by decide +kernel
theorem dX11_kiteOf_173 : decode cX11_kiteOf 173 = .ok (.iload_n 1, 1) := by decide +kernel
theorem dX11_kiteOf_174 : decode cX11_kiteOf 174 = .ok (.invokevirtual 165, 3) := by decide +kernel
theorem dX11_kiteOf_177 : decode cX11_kiteOf 177 = .ok (.ireturn, 1) := by decide +kernel
theorem dX11_kiteOf_178 : decode cX11_kiteOf 178 = .ok (.iconst (-1), 1) := by decide +kernel
theorem dX11_kiteOf_179 : decode cX11_kiteOf 179 = .ok (.ireturn, 1) := by decide +kernel
theorem dX11_change_0 : decode cX11_change 0 = .ok (.aload_n 0, 1) := by decide +kernel
theorem dX11_change_1 : decode cX11_change 1 = .ok (.iload_n 1, 1) := by decide +kernel
theorem dX11_change_2 : decode cX11_change 2 = .ok (.invokevirtual 125, 3) := by decide +kernel
theorem dX11_change_5 : decode cX11_change 5 = .ok (.ifCond .eq 15, 3) := by decide +kernel
theorem dX11_change_8 : decode cX11_change 8 = .ok (.iload_n 3, 1) := by decide +kernel
theorem dX11_change_9 : decode cX11_change 9 = .ok (.iconst 0, 1) := by decide +kernel
theorem dX11_change_10 : decode cX11_change 10 = .ok (.iload_n 2, 1) := by decide +kernel
theorem dX11_change_11 : decode cX11_change 11 = .ok (.invokestatic 168, 3) := by decide +kernel
theorem dX11_change_14 : decode cX11_change 14 = .ok (.invokestatic 114, 3) := by decide +kernel
theorem dX11_change_17 : decode cX11_change 17 = .ok (.ifCond .ne 5, 3) := by decide +kernel
theorem dX11_change_20 : decode cX11_change 20 = .ok (.iconst (-1), 1) := by decide +kernel
theorem dX11_change_21 : decode cX11_change 21 = .ok (.ireturn, 1) := by decide +kernel
theorem dX11_change_22 : decode cX11_change 22 = .ok (.aload_n 0, 1) := by decide +kernel
theorem dX11_change_23 : decode cX11_change 23 = .ok (.iload_n 1, 1) := by decide +kernel
theorem dX11_change_24 : decode cX11_change 24 = .ok (.iload_n 2, 1) := by decide +kernel
theorem dX11_change_25 : decode cX11_change 25 = .ok (.invokevirtual 171, 3) := by decide +kernel
theorem dX11_change_28 : decode cX11_change 28 = .ok (.istore 4, 2) := by decide +kernel
theorem dX11_change_30 : decode cX11_change 30 = .ok (.aload_n 0, 1) := by decide +kernel
theorem dX11_change_31 : decode cX11_change 31 = .ok (.getfield 92, 3) := by decide +kernel
theorem dX11_change_34 : decode cX11_change 34 = .ok (.getfield 129, 3) := by decide +kernel
theorem dX11_change_37 : decode cX11_change 37 = .ok (.astore 5, 2) := by decide +kernel
theorem dX11_change_39 : decode cX11_change 39 = .ok (.iload_n 2, 1) := by decide +kernel
theorem dX11_change_40 : decode cX11_change 40 = .ok (.tableswitch 85 1 4 #[32, 43, 54, 67], 32) := by decide +kernel
theorem dX11_change_72 : decode cX11_change 72 = .ok (.aload 5, 2) := by decide +kernel
theorem dX11_change_74 : decode cX11_change 74 = .ok (.getfield 135, 3) := by decide +kernel
theorem dX11_change_77 : decode cX11_change 77 = .ok (.iload_n 1, 1) := by decide +kernel
theorem dX11_change_78 : decode cX11_change 78 = .ok (.iload_n 3, 1) := by decide +kernel
theorem dX11_change_79 : decode cX11_change 79 = .ok (.iastore, 1) := by decide +kernel
theorem dX11_change_80 : decode cX11_change 80 = .ok (.goto 60, 3) := by decide +kernel
theorem dX11_change_83 : decode cX11_change 83 = .ok (.aload 5, 2) := by decide +kernel
theorem dX11_change_85 : decode cX11_change 85 = .ok (.getfield 138, 3) := by decide +kernel
theorem dX11_change_88 : decode cX11_change 88 = .ok (.iload_n 1, 1) := by decide +kernel
theorem dX11_change_89 : decode cX11_change 89 = .ok (.iload_n 3, 1) := by decide +kernel
theorem dX11_change_90 : decode cX11_change 90 = .ok (.iastore, 1) := by decide +kernel
theorem dX11_change_91 : decode cX11_change 91 = .ok (.goto 49, 3) := by decide +kernel
theorem dX11_change_94 : decode cX11_change 94 = .ok (.aload_n 0, 1) := by decide +kernel
theorem dX11_change_95 : decode cX11_change 95 = .ok (.getfield 92, 3) := by decide +kernel
theorem dX11_change_98 : decode cX11_change 98 = .ok (.getfield 141, 3) := by decide +kernel
theorem dX11_change_101 : decode cX11_change 101 = .ok (.iload_n 1, 1) := by decide +kernel
theorem dX11_change_102 : decode cX11_change 102 = .ok (.iload_n 3, 1) := by decide +kernel
theorem dX11_change_103 : decode cX11_change 103 = .ok (.iastore, 1) := by decide +kernel
theorem dX11_change_104 : decode cX11_change 104 = .ok (.goto 36, 3) := by decide +kernel
theorem dX11_change_107 : decode cX11_change 107 = .ok (.aload 5, 2) := by decide +kernel
theorem dX11_change_109 : decode cX11_change 109 = .ok (.aload 5, 2) := by decide +kernel
theorem dX11_change_111 : decode cX11_change 111 = .ok (.getfield 144, 3) := by decide +kernel
theorem dX11_change_114 : decode cX11_change 114 = .ok (.iload_n 1, 1) := by decide +kernel
theorem dX11_change_115 : decode cX11_change 115 = .ok (.iload_n 3, 1) := by decide +kernel
theorem dX11_change_116 : decode cX11_change 116 = .ok (.invokestatic 175, 3) := by decide +kernel
theorem dX11_change_119 : decode cX11_change 119 = .ok (.putfield 144, 3) := by decide +kernel
theorem dX11_change_122 : decode cX11_change 122 = .ok (.goto 18, 3) := by decide +kernel
theorem dX11_change_125 : decode cX11_change 125 = .ok (.aload 5, 2) := by decide +kernel
theorem dX11_change_127 : decode cX11_change 127 = .ok (.aload 5, 2) := by decide +kernel
theorem dX11_change_129 : decode cX11_change 129 = .ok (.getfield 151, 3) := by decide +kernel
theorem dX11_change_132 : decode cX11_change 132 = .ok (.iload_n 1, 1) := by decide +kernel
theorem dX11_change_133 : decode cX11_change 133 = .ok (.iload_n 3, 1) := by decide +kernel
theorem dX11_change_134 : decode cX11_change 134 = .ok (.invokestatic 175, 3) := by decide +kernel
theorem dX11_change_137 : decode cX11_change 137 = .ok (.putfield 151, 3) := by decide +kernel
theorem dX11_change_140 : decode cX11_change 140 = .ok (.iload 4, 2) := by decide +kernel
theorem dX11_change_142 : decode cX11_change 142 = .ok (.ireturn, 1) := by decide +kernel
theorem dX11_mostOf_0 : decode cX11_mostOf 0 = .ok (.iload_n 0, 1) := by decide +kernel
theorem dX11_mostOf_1 : decode cX11_mostOf 1 = .ok (.tableswitch 45 1 5 #[35, 38, 41, 43, 43], 35) := by decide +kernel
theorem dX11_mostOf_36 : decode cX11_mostOf 36 = .ok (.bipush 63, 2) := by decide +kernel
theorem dX11_mostOf_38 : decode cX11_mostOf 38 = .ok (.ireturn, 1) := by decide +kernel
theorem dX11_mostOf_39 : decode cX11_mostOf 39 = .ok (.bipush 9, 2) := by decide +kernel
theorem dX11_mostOf_41 : decode cX11_mostOf 41 = .ok (.ireturn, 1) := by decide +kernel
theorem dX11_mostOf_42 : decode cX11_mostOf 42 = .ok (.iconst 5, 1) := by decide +kernel
theorem dX11_mostOf_43 : decode cX11_mostOf 43 = .ok (.ireturn, 1) := by decide +kernel
theorem dX11_mostOf_44 : decode cX11_mostOf 44 = .ok (.iconst 1, 1) := by decide +kernel
theorem dX11_mostOf_45 : decode cX11_mostOf 45 = .ok (.ireturn, 1) := by decide +kernel
theorem dX11_mostOf_46 : decode cX11_mostOf 46 = .ok (.iconst (-1), 1) := by decide +kernel
theorem dX11_mostOf_47 : decode cX11_mostOf 47 = .ok (.ireturn, 1) := by decide +kernel
theorem dX11_remake_0 : decode cX11_remake 0 = .ok (.aload_n 0, 1) := by decide +kernel
theorem dX11_remake_1 : decode cX11_remake 1 = .ok (.iload_n 1, 1) := by decide +kernel
theorem dX11_remake_2 : decode cX11_remake 2 = .ok (.invokevirtual 125, 3) := by decide +kernel
theorem dX11_remake_5 : decode cX11_remake 5 = .ok (.ifCond .eq 12, 3) := by decide +kernel
theorem dX11_remake_8 : decode cX11_remake 8 = .ok (.iload_n 2, 1) := by decide +kernel
theorem dX11_remake_9 : decode cX11_remake 9 = .ok (.iconst 1, 1) := by decide +kernel
theorem dX11_remake_10 : decode cX11_remake 10 = .ok (.iconst 5, 1) := by decide +kernel
theorem dX11_remake_11 : decode cX11_remake 11 = .ok (.invokestatic 114, 3) := by decide +kernel
theorem dX11_remake_14 : decode cX11_remake 14 = .ok (.ifCond .ne 5, 3) := by decide +kernel
theorem dX11_remake_17 : decode cX11_remake 17 = .ok (.iconst (-1), 1) := by decide +kernel
theorem dX11_remake_18 : decode cX11_remake 18 = .ok (.ireturn, 1) := by decide +kernel
theorem dX11_remake_19 : decode cX11_remake 19 = .ok (.aload_n 0, 1) := by decide +kernel
theorem dX11_remake_20 : decode cX11_remake 20 = .ok (.getfield 92, 3) := by decide +kernel
theorem dX11_remake_23 : decode cX11_remake 23 = .ok (.getfield 132, 3) := by decide +kernel
theorem dX11_remake_26 : decode cX11_remake 26 = .ok (.iload_n 1, 1) := by decide +kernel
theorem dX11_remake_27 : decode cX11_remake 27 = .ok (.iaload, 1) := by decide +kernel
theorem dX11_remake_28 : decode cX11_remake 28 = .ok (.istore_n 3, 1) := by decide +kernel
theorem dX11_remake_29 : decode cX11_remake 29 = .ok (.aload_n 0, 1) := by decide +kernel
theorem dX11_remake_30 : decode cX11_remake 30 = .ok (.getfield 92, 3) := by decide +kernel
theorem dX11_remake_33 : decode cX11_remake 33 = .ok (.getfield 132, 3) := by decide +kernel
theorem dX11_remake_36 : decode cX11_remake 36 = .ok (.iload_n 1, 1) := by decide +kernel
theorem dX11_remake_37 : decode cX11_remake 37 = .ok (.iload_n 2, 1) := by decide +kernel
theorem dX11_remake_38 : decode cX11_remake 38 = .ok (.iastore, 1) := by decide +kernel
theorem dX11_remake_39 : decode cX11_remake 39 = .ok (.iload_n 3, 1) := by decide +kernel
theorem dX11_remake_40 : decode cX11_remake 40 = .ok (.ireturn, 1) := by decide +kernel
theorem dX11_wind_0 : decode cX11_wind 0 = .ok (.iload_n 1, 1) := by decide +kernel
theorem dX11_wind_1 : decode cX11_wind 1 = .ok (.iconst 0, 1) := by decide +kernel
theorem dX11_wind_2 : decode cX11_wind 2 = .ok (.bipush 15, 2) := by decide +kernel
theorem dX11_wind_4 : decode cX11_wind 4 = .ok (.invokestatic 114, 3) := by decide +kernel
theorem dX11_wind_7 : decode cX11_wind 7 = .ok (.ifCond .eq 13, 3) := by decide +kernel
theorem dX11_wind_10 : decode cX11_wind 10 = .ok (.iload_n 2, 1) := by decide +kernel
theorem dX11_wind_11 : decode cX11_wind 11 = .ok (.iconst 0, 1) := by decide +kernel
theorem dX11_wind_12 : decode cX11_wind 12 = .ok (.bipush 15, 2) := by decide +kernel
theorem dX11_wind_14 : decode cX11_wind 14 = .ok (.invokestatic 114, 3) := by decide +kernel
theorem dX11_wind_17 : decode cX11_wind 17 = .ok (.ifCond .ne 5, 3) := by decide +kernel
theorem dX11_wind_20 : decode cX11_wind 20 = .ok (.iconst (-1), 1) := by decide +kernel
theorem dX11_wind_21 : decode cX11_wind 21 = .ok (.ireturn, 1) := by decide +kernel
theorem dX11_wind_22 : decode cX11_wind 22 = .ok (.aload_n 0, 1) := by decide +kernel
theorem dX11_wind_23 : decode cX11_wind 23 = .ok (.getfield 92, 3) := by decide +kernel
theorem dX11_wind_26 : decode cX11_wind 26 = .ok (.getfield 179, 3) := by decide +kernel
theorem dX11_wind_29 : decode cX11_wind 29 = .ok (.iload_n 1, 1) := by decide +kernel
theorem dX11_wind_30 : decode cX11_wind 30 = .ok (.iaload, 1) := by decide +kernel
theorem dX11_wind_31 : decode cX11_wind 31 = .ok (.istore_n 3, 1) := by decide +kernel
theorem dX11_wind_32 : decode cX11_wind 32 = .ok (.aload_n 0, 1) := by decide +kernel
theorem dX11_wind_33 : decode cX11_wind 33 = .ok (.getfield 92, 3) := by decide +kernel
theorem dX11_wind_36 : decode cX11_wind 36 = .ok (.getfield 179, 3) := by decide +kernel
theorem dX11_wind_39 : decode cX11_wind 39 = .ok (.iload_n 1, 1) := by decide +kernel
theorem dX11_wind_40 : decode cX11_wind 40 = .ok (.iload_n 2, 1) := by decide +kernel
theorem dX11_wind_41 : decode cX11_wind 41 = .ok (.iastore, 1) := by decide +kernel
theorem dX11_wind_42 : decode cX11_wind 42 = .ok (.iload_n 3, 1) := by decide +kernel
theorem dX11_wind_43 : decode cX11_wind 43 = .ok (.ireturn, 1) := by decide +kernel
theorem dX11_farm_0 : decode cX11_farm 0 = .ok (.aload_n 0, 1) := by decide +kernel
theorem dX11_farm_1 : decode cX11_farm 1 = .ok (.iload_n 1, 1) := by decide +kernel
theorem dX11_farm_2 : decode cX11_farm 2 = .ok (.iload_n 2, 1) := by decide +kernel
theorem dX11_farm_3 : decode cX11_farm 3 = .ok (.invokevirtual 182, 3) := by decide +kernel
theorem dX11_farm_6 : decode cX11_farm 6 = .ok (.istore 4, 2) := by decide +kernel
theorem dX11_farm_8 : decode cX11_farm 8 = .ok (.iload 4, 2) := by decide +kernel
theorem dX11_farm_10 : decode cX11_farm 10 = .ok (.iconst (-1), 1) := by decide +kernel
theorem dX11_farm_11 : decode cX11_farm 11 = .ok (.if_icmp .eq 22, 3) := by decide +kernel
theorem dX11_farm_14 : decode cX11_farm 14 = .ok (.iload_n 3, 1) := by decide +kernel
theorem dX11_farm_15 : decode cX11_farm 15 = .ok (.iconst 0, 1) := by decide +kernel
theorem dX11_farm_16 : decode cX11_farm 16 = .ok (.iload_n 2, 1) := by decide +kernel
theorem dX11_farm_17 : decode cX11_farm 17 = .ok (.ifCond .ne 8, 3) := by decide +kernel
theorem dX11_farm_20 : decode cX11_farm 20 = .ok (.bipush 63, 2) := by decide +kernel
theorem dX11_farm_22 : decode cX11_farm 22 = .ok (.goto 5, 3) := by decide +kernel
theorem dX11_farm_25 : decode cX11_farm 25 = .ok (.bipush 14, 2) := by decide +kernel
theorem dX11_farm_27 : decode cX11_farm 27 = .ok (.invokestatic 114, 3) := by decide +kernel
theorem dX11_farm_30 : decode cX11_farm 30 = .ok (.ifCond .ne 5, 3) := by decide +kernel
theorem dX11_farm_33 : decode cX11_farm 33 = .ok (.iconst (-1), 1) := by decide +kernel
theorem dX11_farm_34 : decode cX11_farm 34 = .ok (.ireturn, 1) := by decide +kernel
theorem dX11_farm_35 : decode cX11_farm 35 = .ok (.iload_n 2, 1) := by decide +kernel
theorem dX11_farm_36 : decode cX11_farm 36 = .ok (.ifCond .ne 16, 3) := by decide +kernel
theorem dX11_farm_39 : decode cX11_farm 39 = .ok (.aload_n 0, 1) := by decide +kernel
theorem dX11_farm_40 : decode cX11_farm 40 = .ok (.getfield 92, 3) := by decide +kernel
theorem dX11_farm_43 : decode cX11_farm 43 = .ok (.getfield 185, 3) := by decide +kernel
theorem dX11_farm_46 : decode cX11_farm 46 = .ok (.iload_n 1, 1) := by decide +kernel
theorem dX11_farm_47 : decode cX11_farm 47 = .ok (.iload_n 3, 1) := by decide +kernel
theorem dX11_farm_48 : decode cX11_farm 48 = .ok (.iastore, 1) := by decide +kernel
theorem dX11_farm_49 : decode cX11_farm 49 = .ok (.goto 13, 3) := by decide +kernel
theorem dX11_farm_52 : decode cX11_farm 52 = .ok (.aload_n 0, 1) := by decide +kernel
theorem dX11_farm_53 : decode cX11_farm 53 = .ok (.getfield 92, 3) := by decide +kernel
theorem dX11_farm_56 : decode cX11_farm 56 = .ok (.getfield 188, 3) := by decide +kernel
theorem dX11_farm_59 : decode cX11_farm 59 = .ok (.iload_n 1, 1) := by decide +kernel
theorem dX11_farm_60 : decode cX11_farm 60 = .ok (.iload_n 3, 1) := by decide +kernel
theorem dX11_farm_61 : decode cX11_farm 61 = .ok (.iastore, 1) := by decide +kernel
theorem dX11_farm_62 : decode cX11_farm 62 = .ok (.iload 4, 2) := by decide +kernel
theorem dX11_farm_64 : decode cX11_farm 64 = .ok (.ireturn, 1) := by decide +kernel
theorem dX11_farmOf_0 : decode cX11_farmOf 0 = .ok (.iload_n 1, 1) := by decide +kernel
theorem dX11_farmOf_1 : decode cX11_farmOf 1 = .ok (.iconst 0, 1) := by decide +kernel
theorem dX11_farmOf_2 : decode cX11_farmOf 2 = .ok (.iconst 5, 1) := by decide +kernel
theorem dX11_farmOf_3 : decode cX11_farmOf 3 = .ok (.invokestatic 114, 3) := by decide +kernel
theorem dX11_farmOf_6 : decode cX11_farmOf 6 = .ok (.ifCond .eq 12, 3) := by decide +kernel
theorem dX11_farmOf_9 : decode cX11_farmOf 9 = .ok (.iload_n 2, 1) := by decide +kernel
theorem dX11_farmOf_10 : decode cX11_farmOf 10 = .ok (.iconst 0, 1) := by decide +kernel
theorem dX11_farmOf_11 : decode cX11_farmOf 11 = .ok (.iconst 1, 1) := by decide +kernel
theorem dX11_farmOf_12 : decode cX11_farmOf 12 = .ok (.invokestatic 114, 3) := by decide +kernel
theorem dX11_farmOf_15 : decode cX11_farmOf 15 = .ok (.ifCond .ne 5, 3) := by decide +kernel
theorem dX11_farmOf_18 : decode cX11_farmOf 18 = .ok (.iconst (-1), 1) := by decide +kernel
theorem dX11_farmOf_19 : decode cX11_farmOf 19 = .ok (.ireturn, 1) := by decide +kernel
theorem dX11_farmOf_20 : decode cX11_farmOf 20 = .ok (.iload_n 2, 1) := by decide +kernel
theorem dX11_farmOf_21 : decode cX11_farmOf 21 = .ok (.ifCond .ne 15, 3) := by decide +kernel
theorem dX11_farmOf_24 : decode cX11_farmOf 24 = .ok (.aload_n 0, 1) := by decide +kernel
theorem dX11_farmOf_25 : decode cX11_farmOf 25 = .ok (.getfield 92, 3) := by decide +kernel
theorem dX11_farmOf_28 : decode cX11_farmOf 28 = .ok (.getfield 185, 3) := by decide +kernel
theorem dX11_farmOf_31 : decode cX11_farmOf 31 = .ok (.iload_n 1, 1) := by decide +kernel
theorem dX11_farmOf_32 : decode cX11_farmOf 32 = .ok (.iaload, 1) := by decide +kernel
theorem dX11_farmOf_33 : decode cX11_farmOf 33 = .ok (.goto 12, 3) := by decide +kernel
theorem dX11_farmOf_36 : decode cX11_farmOf 36 = .ok (.aload_n 0, 1) := by decide +kernel
theorem dX11_farmOf_37 : decode cX11_farmOf 37 = .ok (.getfield 92, 3) := by decide +kernel
theorem dX11_farmOf_40 : decode cX11_farmOf 40 = .ok (.getfield 188, 3) := by decide +kernel
theorem dX11_farmOf_43 : decode cX11_farmOf 43 = .ok (.iload_n 1, 1) := by decide +kernel
theorem dX11_farmOf_44 : decode cX11_farmOf 44 = .ok (.iaload, 1) := by decide +kernel
theorem dX11_farmOf_45 : decode cX11_farmOf 45 = .ok (.ireturn, 1) := by decide +kernel
theorem dX11_ends_0 : decode cX11_ends 0 = .ok (.iload_n 1, 1) := by decide +kernel
theorem dX11_ends_1 : decode cX11_ends 1 = .ok (.iconst 1, 1) := by decide +kernel
theorem dX11_ends_2 : decode cX11_ends 2 = .ok (.bipush 16, 2) := by decide +kernel
theorem dX11_ends_4 : decode cX11_ends 4 = .ok (.invokestatic 114, 3) := by decide +kernel
theorem dX11_ends_7 : decode cX11_ends 7 = .ok (.ifCond .ne 5, 3) := by decide +kernel
theorem dX11_ends_10 : decode cX11_ends 10 = .ok (.iconst (-1), 1) := by decide +kernel
theorem dX11_ends_11 : decode cX11_ends 11 = .ok (.ireturn, 1) := by decide +kernel
theorem dX11_ends_12 : decode cX11_ends 12 = .ok (.iload_n 1, 1) := by decide +kernel
theorem dX11_ends_13 : decode cX11_ends 13 = .ok (.aload_n 0, 1) := by decide +kernel
theorem dX11_ends_14 : decode cX11_ends 14 = .ok (.getfield 92, 3) := by decide +kernel
theorem dX11_ends_17 : decode cX11_ends 17 = .ok (.getfield 129, 3) := by decide +kernel
theorem dX11_ends_20 : decode cX11_ends 20 = .ok (.getfield 191, 3) := by decide +kernel
theorem dX11_ends_23 : decode cX11_ends 23 = .ok (.if_icmp .ge 6, 3) := by decide +kernel
theorem dX11_ends_26 : decode cX11_ends 26 = .ok (.bipush (-4), 2) := by decide +kernel
theorem dX11_ends_28 : decode cX11_ends 28 = .ok (.ireturn, 1) := by decide +kernel
theorem dX11_ends_29 : decode cX11_ends 29 = .ok (.aload_n 0, 1) := by decide +kernel
theorem dX11_ends_30 : decode cX11_ends 30 = .ok (.getfield 92, 3) := by decide +kernel
theorem dX11_ends_33 : decode cX11_ends 33 = .ok (.getfield 194, 3) := by decide +kernel
theorem dX11_ends_36 : decode cX11_ends 36 = .ok (.istore_n 2, 1) := by decide +kernel
theorem dX11_ends_37 : decode cX11_ends 37 = .ok (.aload_n 0, 1) := by decide +kernel
theorem dX11_ends_38 : decode cX11_ends 38 = .ok (.getfield 92, 3) := by decide +kernel
theorem dX11_ends_41 : decode cX11_ends 41 = .ok (.iload_n 1, 1) := by decide +kernel
theorem dX11_ends_42 : decode cX11_ends 42 = .ok (.putfield 194, 3) := by decide +kernel
theorem dX11_ends_45 : decode cX11_ends 45 = .ok (.iload_n 2, 1) := by decide +kernel
theorem dX11_ends_46 : decode cX11_ends 46 = .ok (.ireturn, 1) := by decide +kernel
theorem dX11_anew_0 : decode cX11_anew 0 = .ok (.aload_n 0, 1) := by decide +kernel
theorem dX11_anew_1 : decode cX11_anew 1 = .ok (.getfield 92, 3) := by decide +kernel
theorem dX11_anew_4 : decode cX11_anew 4 = .ok (.getfield 129, 3) := by decide +kernel
theorem dX11_anew_7 : decode cX11_anew 7 = .ok (.astore_n 1, 1) := by decide +kernel
theorem dX11_anew_8 : decode cX11_anew 8 = .ok (.aload_n 1, 1) := by decide +kernel
theorem dX11_anew_9 : decode cX11_anew 9 = .ok (.getfield 191, 3) := by decide +kernel
theorem dX11_anew_12 : decode cX11_anew 12 = .ok (.istore_n 2, 1) := by decide +kernel
theorem dX11_anew_13 : decode cX11_anew 13 = .ok (.aload_n 1, 1) := by decide +kernel
theorem dX11_anew_14 : decode cX11_anew 14 = .ok (.iconst 0, 1) := by decide +kernel
theorem dX11_anew_15 : decode cX11_anew 15 = .ok (.putfield 191, 3) := by decide +kernel
theorem dX11_anew_18 : decode cX11_anew 18 = .ok (.aload_n 1, 1) := by decide +kernel
theorem dX11_anew_19 : decode cX11_anew 19 = .ok (.iconst 0, 1) := by decide +kernel
theorem dX11_anew_20 : decode cX11_anew 20 = .ok (.putfield 197, 3) := by decide +kernel
theorem dX11_anew_23 : decode cX11_anew 23 = .ok (.aload_n 1, 1) := by decide +kernel
theorem dX11_anew_24 : decode cX11_anew 24 = .ok (.aload_n 0, 1) := by decide +kernel
theorem dX11_anew_25 : decode cX11_anew 25 = .ok (.getfield 92, 3) := by decide +kernel
theorem dX11_anew_28 : decode cX11_anew 28 = .ok (.invokevirtual 200, 3) := by decide +kernel
theorem dX11_anew_31 : decode cX11_anew 31 = .ok (.putfield 144, 3) := by decide +kernel
theorem dX11_anew_34 : decode cX11_anew 34 = .ok (.aload_n 1, 1) := by decide +kernel
theorem dX11_anew_35 : decode cX11_anew 35 = .ok (.iconst 0, 1) := by decide +kernel
theorem dX11_anew_36 : decode cX11_anew 36 = .ok (.putfield 151, 3) := by decide +kernel
theorem dX11_anew_39 : decode cX11_anew 39 = .ok (.iload_n 2, 1) := by decide +kernel
theorem dX11_anew_40 : decode cX11_anew 40 = .ok (.ireturn, 1) := by decide +kernel
theorem dX11_state_0 : decode cX11_state 0 = .ok (.aload_n 0, 1) := by decide +kernel
theorem dX11_state_1 : decode cX11_state 1 = .ok (.getfield 92, 3) := by decide +kernel
theorem dX11_state_4 : decode cX11_state 4 = .ok (.getfield 129, 3) := by decide +kernel
theorem dX11_state_7 : decode cX11_state 7 = .ok (.astore_n 2, 1) := by decide +kernel
theorem dX11_state_8 : decode cX11_state 8 = .ok (.iload_n 1, 1) := by decide +kernel
theorem dX11_state_9 : decode cX11_state 9 = .ok (.tableswitch 100 0 6 #[43, 48, 56, 61, 78, 83, 88], 43) := by decide +kernel
theorem dX11_state_52 : decode cX11_state 52 = .ok (.aload_n 2, 1) := by decide +kernel
theorem dX11_state_53 : decode cX11_state 53 = .ok (.getfield 191, 3) := by decide +kernel
theorem dX11_state_56 : decode cX11_state 56 = .ok (.ireturn, 1) := by decide +kernel
theorem dX11_state_57 : decode cX11_state 57 = .ok (.aload_n 0, 1) := by decide +kernel
theorem dX11_state_58 : decode cX11_state 58 = .ok (.getfield 92, 3) := by decide +kernel
theorem dX11_state_61 : decode cX11_state 61 = .ok (.getfield 194, 3) := by decide +kernel
theorem dX11_state_64 : decode cX11_state 64 = .ok (.ireturn, 1) := by decide +kernel
theorem dX11_state_65 : decode cX11_state 65 = .ok (.aload_n 2, 1) := by decide +kernel
theorem dX11_state_66 : decode cX11_state 66 = .ok (.getfield 197, 3) := by decide +kernel
theorem dX11_state_69 : decode cX11_state 69 = .ok (.ireturn, 1) := by decide +kernel
theorem dX11_state_70 : decode cX11_state 70 = .ok (.aload_n 0, 1) := by decide +kernel
theorem dX11_state_71 : decode cX11_state 71 = .ok (.getfield 92, 3) := by decide +kernel
theorem dX11_state_74 : decode cX11_state 74 = .ok (.aload_n 2, 1) := by decide +kernel
theorem dX11_state_75 : decode cX11_state 75 = .ok (.invokevirtual 204, 3) := by decide +kernel
theorem dX11_state_78 : decode cX11_state 78 = .ok (.ifCond .eq 7, 3) := by decide +kernel
theorem dX11_state_81 : decode cX11_state 81 = .ok (.iconst 1, 1) := by decide +kernel
theorem dX11_state_82 : decode cX11_state 82 = .ok (.goto 4, 3) := by decide +kernel
theorem dX11_state_85 : decode cX11_state 85 = .ok (.iconst 0, 1) := by decide +kernel
theorem dX11_state_86 : decode cX11_state 86 = .ok (.ireturn, 1) := by decide +kernel
theorem dX11_state_87 : decode cX11_state 87 = .ok (.aload_n 2, 1) := by decide +kernel
theorem dX11_state_88 : decode cX11_state 88 = .ok (.getfield 144, 3) := by decide +kernel
theorem dX11_state_91 : decode cX11_state 91 = .ok (.ireturn, 1) := by decide +kernel
theorem dX11_state_92 : decode cX11_state 92 = .ok (.aload_n 2, 1) := by decide +kernel
theorem dX11_state_93 : decode cX11_state 93 = .ok (.getfield 151, 3) := by decide +kernel
theorem dX11_state_96 : decode cX11_state 96 = .ok (.ireturn, 1) := by decide +kernel
theorem dX11_state_97 : decode cX11_state 97 = .ok (.aload_n 0, 1) := by decide +kernel
theorem dX11_state_98 : decode cX11_state 98 = .ok (.getfield 92, 3) := by decide +kernel
theorem dX11_state_101 : decode cX11_state 101 = .ok (.aload_n 2, 1) := by decide +kernel
theorem dX11_state_102 : decode cX11_state 102 = .ok (.getfield 191, 3) := by decide +kernel
theorem dX11_state_105 : decode cX11_state 105 = .ok (.invokevirtual 208, 3) := by decide +kernel
theorem dX11_state_108 : decode cX11_state 108 = .ok (.ireturn, 1) := by decide +kernel
theorem dX11_state_109 : decode cX11_state 109 = .ok (.iconst (-1), 1) := by decide +kernel
theorem dX11_state_110 : decode cX11_state 110 = .ok (.ireturn, 1) := by decide +kernel
theorem dX11_feed_0 : decode cX11_feed 0 = .ok (.iload_n 3, 1) := by decide +kernel
theorem dX11_feed_1 : decode cX11_feed 1 = .ok (.iconst 1, 1) := by decide +kernel
theorem dX11_feed_2 : decode cX11_feed 2 = .ok (.bipush 8, 2) := by decide +kernel
theorem dX11_feed_4 : decode cX11_feed 4 = .ok (.invokestatic 114, 3) := by decide +kernel
theorem dX11_feed_7 : decode cX11_feed 7 = .ok (.ifCond .ne 5, 3) := by decide +kernel
theorem dX11_feed_10 : decode cX11_feed 10 = .ok (.iconst (-1), 1) := by decide +kernel
theorem dX11_feed_11 : decode cX11_feed 11 = .ok (.ireturn, 1) := by decide +kernel
theorem dX11_feed_12 : decode cX11_feed 12 = .ok (.aload_n 0, 1) := by decide +kernel
theorem dX11_feed_13 : decode cX11_feed 13 = .ok (.getfield 22, 3) := by decide +kernel
theorem dX11_feed_16 : decode cX11_feed 16 = .ok (.getfield 211, 3) := by decide +kernel
theorem dX11_feed_19 : decode cX11_feed 19 = .ok (.iload_n 3, 1) := by decide +kernel
theorem dX11_feed_20 : decode cX11_feed 20 = .ok (.iadd, 1) := by decide +kernel
theorem dX11_feed_21 : decode cX11_feed 21 = .ok (.sipush 200, 3) := by decide +kernel
theorem dX11_feed_24 : decode cX11_feed 24 = .ok (.if_icmp .le 8, 3) := by decide +kernel
theorem dX11_feed_27 : decode cX11_feed 27 = .ok (.bipush (-2), 2) := by decide +kernel
theorem dX11_feed_29 : decode cX11_feed 29 = .ok (.goto 12, 3) := by decide +kernel
theorem dX11_feed_32 : decode cX11_feed 32 = .ok (.aload_n 0, 1) := by decide +kernel
theorem dX11_feed_33 : decode cX11_feed 33 = .ok (.getfield 22, 3) := by decide +kernel
theorem dX11_feed_36 : decode cX11_feed 36 = .ok (.lload_n 1, 1) := by decide +kernel
theorem dX11_feed_37 : decode cX11_feed 37 = .ok (.iload_n 3, 1) := by decide +kernel
theorem dX11_feed_38 : decode cX11_feed 38 = .ok (.invokevirtual 214, 3) := by decide +kernel
theorem dX11_feed_41 : decode cX11_feed 41 = .ok (.ireturn, 1) := by decide +kernel
theorem dX11_rules_0 : decode cX11_rules 0 = .ok (.aload_n 0, 1) := by decide +kernel
theorem dX11_rules_1 : decode cX11_rules 1 = .ok (.getfield 22, 3) := by decide +kernel
theorem dX11_rules_4 : decode cX11_rules 4 = .ok (.aload_n 0, 1) := by decide +kernel
theorem dX11_rules_5 : decode cX11_rules 5 = .ok (.getfield 92, 3) := by decide +kernel
theorem dX11_rules_8 : decode cX11_rules 8 = .ok (.getfield 218, 3) := by decide +kernel
theorem dX11_rules_11 : decode cX11_rules 11 = .ok (.invokevirtual 222, 3) := by decide +kernel
theorem dX11_rules_14 : decode cX11_rules 14 = .ok (.ireturn, 1) := by decide +kernel
theorem dX11_gust_0 : decode cX11_gust 0 = .ok (.aload_n 0, 1) := by decide +kernel
theorem dX11_gust_1 : decode cX11_gust 1 = .ok (.getfield 92, 3) := by decide +kernel
theorem dX11_gust_4 : decode cX11_gust 4 = .ok (.aload_n 0, 1) := by decide +kernel
theorem dX11_gust_5 : decode cX11_gust 5 = .ok (.getfield 92, 3) := by decide +kernel
theorem dX11_gust_8 : decode cX11_gust 8 = .ok (.getfield 129, 3) := by decide +kernel
theorem dX11_gust_11 : decode cX11_gust 11 = .ok (.invokevirtual 204, 3) := by decide +kernel
theorem dX11_gust_14 : decode cX11_gust 14 = .ok (.ifCond .eq 8, 3) := by decide +kernel
theorem dX11_gust_17 : decode cX11_gust 17 = .ok (.bipush (-4), 2) := by decide +kernel
theorem dX11_gust_19 : decode cX11_gust 19 = .ok (.goto 17, 3) := by decide +kernel
theorem dX11_gust_22 : decode cX11_gust 22 = .ok (.aload_n 0, 1) := by decide +kernel
theorem dX11_gust_23 : decode cX11_gust 23 = .ok (.getfield 92, 3) := by decide +kernel
theorem dX11_gust_26 : decode cX11_gust 26 = .ok (.aload_n 0, 1) := by decide +kernel
theorem dX11_gust_27 : decode cX11_gust 27 = .ok (.getfield 92, 3) := by decide +kernel
theorem dX11_gust_30 : decode cX11_gust 30 = .ok (.getfield 129, 3) := by decide +kernel
theorem dX11_gust_33 : decode cX11_gust 33 = .ok (.invokevirtual 226, 3) := by decide +kernel
theorem dX11_gust_36 : decode cX11_gust 36 = .ok (.ireturn, 1) := by decide +kernel
theorem dX11_on_0 : decode cX11_on 0 = .ok (.iload_n 1, 1) := by decide +kernel
theorem dX11_on_1 : decode cX11_on 1 = .ok (.iconst 0, 1) := by decide +kernel
theorem dX11_on_2 : decode cX11_on 2 = .ok (.bipush 16, 2) := by decide +kernel
theorem dX11_on_4 : decode cX11_on 4 = .ok (.invokestatic 114, 3) := by decide +kernel
theorem dX11_on_7 : decode cX11_on 7 = .ok (.ifCond .eq 11, 3) := by decide +kernel
theorem dX11_on_10 : decode cX11_on 10 = .ok (.aload_n 0, 1) := by decide +kernel
theorem dX11_on_11 : decode cX11_on 11 = .ok (.iload_n 1, 1) := by decide +kernel
theorem dX11_on_12 : decode cX11_on 12 = .ok (.invokevirtual 230, 3) := by decide +kernel
theorem dX11_on_15 : decode cX11_on 15 = .ok (.goto 4, 3) := by decide +kernel
theorem dX11_on_18 : decode cX11_on 18 = .ok (.iconst (-1), 1) := by decide +kernel
theorem dX11_on_19 : decode cX11_on 19 = .ok (.ireturn, 1) := by decide +kernel
theorem dX11_worthOfRest_0 : decode cX11_worthOfRest 0 = .ok (.aload_n 0, 1) := by decide +kernel
theorem dX11_worthOfRest_1 : decode cX11_worthOfRest 1 = .ok (.getfield 29, 3) := by decide +kernel
theorem dX11_worthOfRest_4 : decode cX11_worthOfRest 4 = .ok (.aload_n 0, 1) := by decide +kernel
theorem dX11_worthOfRest_5 : decode cX11_worthOfRest 5 = .ok (.getfield 92, 3) := by decide +kernel
theorem dX11_worthOfRest_8 : decode cX11_worthOfRest 8 = .ok (.getfield 129, 3) := by decide +kernel
theorem dX11_worthOfRest_11 : decode cX11_worthOfRest 11 = .ok (.invokevirtual 233, 3) := by decide +kernel
theorem dX11_worthOfRest_14 : decode cX11_worthOfRest 14 = .ok (.aload_n 0, 1) := by decide +kernel
theorem dX11_worthOfRest_15 : decode cX11_worthOfRest 15 = .ok (.iload_n 1, 1) := by decide +kernel
theorem dX11_worthOfRest_16 : decode cX11_worthOfRest 16 = .ok (.invokevirtual 237, 3) := by decide +kernel
theorem dX11_worthOfRest_19 : decode cX11_worthOfRest 19 = .ok (.ireturn, 1) := by decide +kernel
theorem dX11_worthOnTrial_0 : decode cX11_worthOnTrial 0 = .ok (.iconst 0, 1) := by decide +kernel
theorem dX11_worthOnTrial_1 : decode cX11_worthOnTrial 1 = .ok (.istore_n 2, 1) := by decide +kernel
theorem dX11_worthOnTrial_2 : decode cX11_worthOnTrial 2 = .ok (.iconst 0, 1) := by decide +kernel
theorem dX11_worthOnTrial_3 : decode cX11_worthOnTrial 3 = .ok (.istore_n 3, 1) := by decide +kernel
theorem dX11_worthOnTrial_4 : decode cX11_worthOnTrial 4 = .ok (.iload_n 3, 1) := by decide +kernel
theorem dX11_worthOnTrial_5 : decode cX11_worthOnTrial 5 = .ok (.iload_n 1, 1) := by decide +kernel
theorem dX11_worthOnTrial_6 : decode cX11_worthOnTrial 6 = .ok (.if_icmp .ge 37, 3) := by decide +kernel
theorem dX11_worthOnTrial_9 : decode cX11_worthOnTrial 9 = .ok (.aload_n 0, 1) := by decide +kernel
theorem dX11_worthOnTrial_10 : decode cX11_worthOnTrial 10 = .ok (.getfield 92, 3) := by decide +kernel
theorem dX11_worthOnTrial_13 : decode cX11_worthOnTrial 13 = .ok (.aload_n 0, 1) := by decide +kernel
theorem dX11_worthOnTrial_14 : decode cX11_worthOnTrial 14 = .ok (.getfield 29, 3) := by decide +kernel
theorem dX11_worthOnTrial_17 : decode cX11_worthOnTrial 17 = .ok (.invokevirtual 204, 3) := by decide +kernel
theorem dX11_worthOnTrial_20 : decode cX11_worthOnTrial 20 = .ok (.ifCond .ne 23, 3) := by decide +kernel
theorem dX11_worthOnTrial_23 : decode cX11_worthOnTrial 23 = .ok (.iload_n 2, 1) := by decide +kernel
theorem dX11_worthOnTrial_24 : decode cX11_worthOnTrial 24 = .ok (.aload_n 0, 1) := by decide +kernel
theorem dX11_worthOnTrial_25 : decode cX11_worthOnTrial 25 = .ok (.getfield 92, 3) := by decide +kernel
theorem dX11_worthOnTrial_28 : decode cX11_worthOnTrial 28 = .ok (.aload_n 0, 1) := by decide +kernel
theorem dX11_worthOnTrial_29 : decode cX11_worthOnTrial 29 = .ok (.getfield 29, 3) := by decide +kernel
theorem dX11_worthOnTrial_32 : decode cX11_worthOnTrial 32 = .ok (.invokevirtual 226, 3) := by decide +kernel
theorem dX11_worthOnTrial_35 : decode cX11_worthOnTrial 35 = .ok (.iadd, 1) := by decide +kernel
theorem dX11_worthOnTrial_36 : decode cX11_worthOnTrial 36 = .ok (.istore_n 2, 1) := by decide +kernel
theorem dX11_worthOnTrial_37 : decode cX11_worthOnTrial 37 = .ok (.iinc 3 1, 3) := by decide +kernel
theorem dX11_worthOnTrial_40 : decode cX11_worthOnTrial 40 = .ok (.goto (-36), 3) := by decide +kernel
theorem dX11_worthOnTrial_43 : decode cX11_worthOnTrial 43 = .ok (.iload_n 2, 1) := by decide +kernel
theorem dX11_worthOnTrial_44 : decode cX11_worthOnTrial 44 = .ok (.ireturn, 1) := by decide +kernel
theorem dX11_when_0 : decode cX11_when 0 = .ok (.aload_n 0, 1) := by decide +kernel
theorem dX11_when_1 : decode cX11_when 1 = .ok (.iload_n 1, 1) := by decide +kernel
theorem dX11_when_2 : decode cX11_when 2 = .ok (.invokevirtual 125, 3) := by decide +kernel
theorem dX11_when_5 : decode cX11_when 5 = .ok (.ifCond .ne 5, 3) := by decide +kernel
theorem dX11_when_8 : decode cX11_when 8 = .ok (.iconst (-1), 1) := by decide +kernel
theorem dX11_when_9 : decode cX11_when 9 = .ok (.ireturn, 1) := by decide +kernel
theorem dX11_when_10 : decode cX11_when 10 = .ok (.aload_n 0, 1) := by decide +kernel
theorem dX11_when_11 : decode cX11_when 11 = .ok (.getfield 29, 3) := by decide +kernel
theorem dX11_when_14 : decode cX11_when 14 = .ok (.aload_n 0, 1) := by decide +kernel
theorem dX11_when_15 : decode cX11_when 15 = .ok (.getfield 92, 3) := by decide +kernel
theorem dX11_when_18 : decode cX11_when 18 = .ok (.getfield 129, 3) := by decide +kernel
theorem dX11_when_21 : decode cX11_when 21 = .ok (.invokevirtual 233, 3) := by decide +kernel
theorem dX11_when_24 : decode cX11_when 24 = .ok (.aload_n 0, 1) := by decide +kernel
theorem dX11_when_25 : decode cX11_when 25 = .ok (.getfield 29, 3) := by decide +kernel
theorem dX11_when_28 : decode cX11_when 28 = .ok (.getfield 144, 3) := by decide +kernel
theorem dX11_when_31 : decode cX11_when 31 = .ok (.iload_n 1, 1) := by decide +kernel
theorem dX11_when_32 : decode cX11_when 32 = .ok (.invokestatic 147, 3) := by decide +kernel
theorem dX11_when_35 : decode cX11_when 35 = .ok (.ifCond .ne 6, 3) := by decide +kernel
theorem dX11_when_38 : decode cX11_when 38 = .ok (.bipush (-3), 2) := by decide +kernel
theorem dX11_when_40 : decode cX11_when 40 = .ok (.ireturn, 1) := by decide +kernel
theorem dX11_when_41 : decode cX11_when 41 = .ok (.iconst 0, 1) := by decide +kernel
theorem dX11_when_42 : decode cX11_when 42 = .ok (.istore_n 2, 1) := by decide +kernel
theorem dX11_when_43 : decode cX11_when 43 = .ok (.iload_n 2, 1) := by decide +kernel
theorem dX11_when_44 : decode cX11_when 44 = .ok (.bipush 16, 2) := by decide +kernel
theorem dX11_when_46 : decode cX11_when 46 = .ok (.if_icmp .ge 59, 3) := by decide +kernel
theorem dX11_when_49 : decode cX11_when 49 = .ok (.aload_n 0, 1) := by decide +kernel
theorem dX11_when_50 : decode cX11_when 50 = .ok (.getfield 92, 3) := by decide +kernel
theorem dX11_when_53 : decode cX11_when 53 = .ok (.aload_n 0, 1) := by decide +kernel
theorem dX11_when_54 : decode cX11_when 54 = .ok (.getfield 29, 3) := by decide +kernel
theorem dX11_when_57 : decode cX11_when 57 = .ok (.invokevirtual 204, 3) := by decide +kernel
theorem dX11_when_60 : decode cX11_when 60 = .ok (.ifCond .ne 45, 3) := by decide +kernel
theorem dX11_when_63 : decode cX11_when 63 = .ok (.aload_n 0, 1) := by decide +kernel
theorem dX11_when_64 : decode cX11_when 64 = .ok (.getfield 92, 3) := by decide +kernel
theorem dX11_when_67 : decode cX11_when 67 = .ok (.aload_n 0, 1) := by decide +kernel
theorem dX11_when_68 : decode cX11_when 68 = .ok (.getfield 29, 3) := by decide +kernel
theorem dX11_when_71 : decode cX11_when 71 = .ok (.invokevirtual 226, 3) := by decide +kernel
theorem dX11_when_74 : decode cX11_when 74 = .ok (.pop, 1) := by decide +kernel
theorem dX11_when_75 : decode cX11_when 75 = .ok (.aload_n 0, 1) := by decide +kernel
theorem dX11_when_76 : decode cX11_when 76 = .ok (.getfield 29, 3) := by decide +kernel
theorem dX11_when_79 : decode cX11_when 79 = .ok (.getfield 144, 3) := by decide +kernel
theorem dX11_when_82 : decode cX11_when 82 = .ok (.iload_n 1, 1) := by decide +kernel
theorem dX11_when_83 : decode cX11_when 83 = .ok (.invokestatic 147, 3) := by decide +kernel
theorem dX11_when_86 : decode cX11_when 86 = .ok (.ifCond .ne 13, 3) := by decide +kernel
theorem dX11_when_89 : decode cX11_when 89 = .ok (.aload_n 0, 1) := by decide +kernel
theorem dX11_when_90 : decode cX11_when 90 = .ok (.getfield 29, 3) := by decide +kernel
theorem dX11_when_93 : decode cX11_when 93 = .ok (.getfield 191, 3) := by decide +kernel
theorem dX11_when_96 : decode cX11_when 96 = .ok (.iconst 1, 1) := by decide +kernel
theorem dX11_when_97 : decode cX11_when 97 = .ok (.isub, 1) := by decide +kernel
theorem dX11_when_98 : decode cX11_when 98 = .ok (.ireturn, 1) := by decide +kernel
theorem dX11_when_99 : decode cX11_when 99 = .ok (.iinc 2 1, 3) := by decide +kernel
theorem dX11_when_102 : decode cX11_when 102 = .ok (.goto (-59), 3) := by decide +kernel
theorem dX11_when_105 : decode cX11_when 105 = .ok (.bipush (-3), 2) := by decide +kernel
theorem dX11_when_107 : decode cX11_when 107 = .ok (.ireturn, 1) := by decide +kernel
theorem dX11_stringFor_0 : decode cX11_stringFor 0 = .ok (.aload_n 0, 1) := by decide +kernel
theorem dX11_stringFor_1 : decode cX11_stringFor 1 = .ok (.iload_n 1, 1) := by decide +kernel
theorem dX11_stringFor_2 : decode cX11_stringFor 2 = .ok (.invokevirtual 125, 3) := by decide +kernel
theorem dX11_stringFor_5 : decode cX11_stringFor 5 = .ok (.ifCond .ne 5, 3) := by decide +kernel
theorem dX11_stringFor_8 : decode cX11_stringFor 8 = .ok (.iconst (-1), 1) := by decide +kernel
theorem dX11_stringFor_9 : decode cX11_stringFor 9 = .ok (.ireturn, 1) := by decide +kernel
theorem dX11_stringFor_10 : decode cX11_stringFor 10 = .ok (.iconst (-1), 1) := by decide +kernel
theorem dX11_stringFor_11 : decode cX11_stringFor 11 = .ok (.istore_n 2, 1) := by decide +kernel
theorem dX11_stringFor_12 : decode cX11_stringFor 12 = .ok (.iconst 0, 1) := by decide +kernel
theorem dX11_stringFor_13 : decode cX11_stringFor 13 = .ok (.istore_n 3, 1) := by decide +kernel
theorem dX11_stringFor_14 : decode cX11_stringFor 14 = .ok (.iconst 0, 1) := by decide +kernel
theorem dX11_stringFor_15 : decode cX11_stringFor 15 = .ok (.istore 4, 2) := by decide +kernel
theorem dX11_stringFor_17 : decode cX11_stringFor 17 = .ok (.iload 4, 2) := by decide +kernel
theorem dX11_stringFor_19 : decode cX11_stringFor 19 = .ok (.bipush 9, 2) := by decide +kernel
theorem dX11_stringFor_21 : decode cX11_stringFor 21 = .ok (.if_icmp .gt 54, 3) := by decide +kernel
theorem dX11_stringFor_24 : decode cX11_stringFor 24 = .ok (.aload_n 0, 1) := by decide +kernel
theorem dX11_stringFor_25 : decode cX11_stringFor 25 = .ok (.getfield 29, 3) := by decide +kernel
theorem dX11_stringFor_28 : decode cX11_stringFor 28 = .ok (.aload_n 0, 1) := by decide +kernel
theorem dX11_stringFor_29 : decode cX11_stringFor 29 = .ok (.getfield 92, 3) := by decide +kernel
theorem dX11_stringFor_32 : decode cX11_stringFor 32 = .ok (.getfield 129, 3) := by decide +kernel
theorem dX11_stringFor_35 : decode cX11_stringFor 35 = .ok (.invokevirtual 233, 3) := by decide +kernel
theorem dX11_stringFor_38 : decode cX11_stringFor 38 = .ok (.aload_n 0, 1) := by decide +kernel
theorem dX11_stringFor_39 : decode cX11_stringFor 39 = .ok (.getfield 29, 3) := by decide +kernel
theorem dX11_stringFor_42 : decode cX11_stringFor 42 = .ok (.getfield 138, 3) := by decide +kernel
theorem dX11_stringFor_45 : decode cX11_stringFor 45 = .ok (.iload_n 1, 1) := by decide +kernel
theorem dX11_stringFor_46 : decode cX11_stringFor 46 = .ok (.iload 4, 2) := by decide +kernel
theorem dX11_stringFor_48 : decode cX11_stringFor 48 = .ok (.iastore, 1) := by decide +kernel
theorem dX11_stringFor_49 : decode cX11_stringFor 49 = .ok (.aload_n 0, 1) := by decide +kernel
theorem dX11_stringFor_50 : decode cX11_stringFor 50 = .ok (.bipush 16, 2) := by decide +kernel
theorem dX11_stringFor_52 : decode cX11_stringFor 52 = .ok (.invokevirtual 237, 3) := by decide +kernel
theorem dX11_stringFor_55 : decode cX11_stringFor 55 = .ok (.istore 5, 2) := by decide +kernel
theorem dX11_stringFor_57 : decode cX11_stringFor 57 = .ok (.iload 5, 2) := by decide +kernel
theorem dX11_stringFor_59 : decode cX11_stringFor 59 = .ok (.iload_n 2, 1) := by decide +kernel
theorem dX11_stringFor_60 : decode cX11_stringFor 60 = .ok (.if_icmp .le 9, 3) := by decide +kernel
theorem dX11_stringFor_63 : decode cX11_stringFor 63 = .ok (.iload 5, 2) := by decide +kernel
theorem dX11_stringFor_65 : decode cX11_stringFor 65 = .ok (.istore_n 2, 1) := by decide +kernel
theorem dX11_stringFor_66 : decode cX11_stringFor 66 = .ok (.iload 4, 2) := by decide +kernel
theorem dX11_stringFor_68 : decode cX11_stringFor 68 = .ok (.istore_n 3, 1) := by decide +kernel
theorem dX11_stringFor_69 : decode cX11_stringFor 69 = .ok (.iinc 4 1, 3) := by decide +kernel
theorem dX11_stringFor_72 : decode cX11_stringFor 72 = .ok (.goto (-55), 3) := by decide +kernel
theorem dX11_stringFor_75 : decode cX11_stringFor 75 = .ok (.iload_n 3, 1) := by decide +kernel
theorem dX11_stringFor_76 : decode cX11_stringFor 76 = .ok (.ireturn, 1) := by decide +kernel
theorem dX11_nameFor_0 : decode cX11_nameFor 0 = .ok (.aload_n 0, 1) := by decide +kernel
theorem dX11_nameFor_1 : decode cX11_nameFor 1 = .ok (.iload_n 1, 1) := by decide +kernel
theorem dX11_nameFor_2 : decode cX11_nameFor 2 = .ok (.invokevirtual 125, 3) := by decide +kernel
theorem dX11_nameFor_5 : decode cX11_nameFor 5 = .ok (.ifCond .ne 5, 3) := by decide +kernel
theorem dX11_nameFor_8 : decode cX11_nameFor 8 = .ok (.iconst (-1), 1) := by decide +kernel
theorem dX11_nameFor_9 : decode cX11_nameFor 9 = .ok (.ireturn, 1) := by decide +kernel
theorem dX11_nameFor_10 : decode cX11_nameFor 10 = .ok (.aload_n 0, 1) := by decide +kernel
theorem dX11_nameFor_11 : decode cX11_nameFor 11 = .ok (.getfield 92, 3) := by decide +kernel
theorem dX11_nameFor_14 : decode cX11_nameFor 14 = .ok (.getfield 141, 3) := by decide +kernel
theorem dX11_nameFor_17 : decode cX11_nameFor 17 = .ok (.iload_n 1, 1) := by decide +kernel
theorem dX11_nameFor_18 : decode cX11_nameFor 18 = .ok (.iaload, 1) := by decide +kernel
theorem dX11_nameFor_19 : decode cX11_nameFor 19 = .ok (.istore_n 2, 1) := by decide +kernel
theorem dX11_nameFor_20 : decode cX11_nameFor 20 = .ok (.iconst (-1), 1) := by decide +kernel
theorem dX11_nameFor_21 : decode cX11_nameFor 21 = .ok (.istore_n 3, 1) := by decide +kernel
theorem dX11_nameFor_22 : decode cX11_nameFor 22 = .ok (.iconst 0, 1) := by decide +kernel
theorem dX11_nameFor_23 : decode cX11_nameFor 23 = .ok (.istore 4, 2) := by decide +kernel
theorem dX11_nameFor_25 : decode cX11_nameFor 25 = .ok (.iconst 0, 1) := by decide +kernel
theorem dX11_nameFor_26 : decode cX11_nameFor 26 = .ok (.istore 5, 2) := by decide +kernel
theorem dX11_nameFor_28 : decode cX11_nameFor 28 = .ok (.iload 5, 2) := by decide +kernel
theorem dX11_nameFor_30 : decode cX11_nameFor 30 = .ok (.bipush 6, 2) := by decide +kernel
theorem dX11_nameFor_32 : decode cX11_nameFor 32 = .ok (.if_icmp .ge 41, 3) := by decide +kernel
theorem dX11_nameFor_35 : decode cX11_nameFor 35 = .ok (.aload_n 0, 1) := by decide +kernel
theorem dX11_nameFor_36 : decode cX11_nameFor 36 = .ok (.getfield 92, 3) := by decide +kernel
theorem dX11_nameFor_39 : decode cX11_nameFor 39 = .ok (.getfield 141, 3) := by decide +kernel
theorem dX11_nameFor_42 : decode cX11_nameFor 42 = .ok (.iload_n 1, 1) := by decide +kernel
theorem dX11_nameFor_43 : decode cX11_nameFor 43 = .ok (.iload 5, 2) := by decide +kernel
theorem dX11_nameFor_45 : decode cX11_nameFor 45 = .ok (.iastore, 1) := by decide +kernel
theorem dX11_nameFor_46 : decode cX11_nameFor 46 = .ok (.aload_n 0, 1) := by decide +kernel
theorem dX11_nameFor_47 : decode cX11_nameFor 47 = .ok (.bipush 16, 2) := by decide +kernel
theorem dX11_nameFor_49 : decode cX11_nameFor 49 = .ok (.invokevirtual 230, 3) := by decide +kernel
theorem dX11_nameFor_52 : decode cX11_nameFor 52 = .ok (.istore 6, 2) := by decide +kernel
theorem dX11_nameFor_54 : decode cX11_nameFor 54 = .ok (.iload 6, 2) := by decide +kernel
theorem dX11_nameFor_56 : decode cX11_nameFor 56 = .ok (.iload_n 3, 1) := by decide +kernel
theorem dX11_nameFor_57 : decode cX11_nameFor 57 = .ok (.if_icmp .le 10, 3) := by decide +kernel
theorem dX11_nameFor_60 : decode cX11_nameFor 60 = .ok (.iload 6, 2) := by decide +kernel
theorem dX11_nameFor_62 : decode cX11_nameFor 62 = .ok (.istore_n 3, 1) := by decide +kernel
theorem dX11_nameFor_63 : decode cX11_nameFor 63 = .ok (.iload 5, 2) := by decide +kernel
theorem dX11_nameFor_65 : decode cX11_nameFor 65 = .ok (.istore 4, 2) := by decide +kernel
theorem dX11_nameFor_67 : decode cX11_nameFor 67 = .ok (.iinc 5 1, 3) := by decide +kernel
theorem dX11_nameFor_70 : decode cX11_nameFor 70 = .ok (.goto (-42), 3) := by decide +kernel
theorem dX11_nameFor_73 : decode cX11_nameFor 73 = .ok (.aload_n 0, 1) := by decide +kernel
theorem dX11_nameFor_74 : decode cX11_nameFor 74 = .ok (.getfield 92, 3) := by decide +kernel
theorem dX11_nameFor_77 : decode cX11_nameFor 77 = .ok (.getfield 141, 3) := by decide +kernel
theorem dX11_nameFor_80 : decode cX11_nameFor 80 = .ok (.iload_n 1, 1) := by decide +kernel
theorem dX11_nameFor_81 : decode cX11_nameFor 81 = .ok (.iload_n 2, 1) := by decide +kernel
theorem dX11_nameFor_82 : decode cX11_nameFor 82 = .ok (.iastore, 1) := by decide +kernel
theorem dX11_nameFor_83 : decode cX11_nameFor 83 = .ok (.iload 4, 2) := by decide +kernel
theorem dX11_nameFor_85 : decode cX11_nameFor 85 = .ok (.ireturn, 1) := by decide +kernel
theorem dX11_over_0 : decode cX11_over 0 = .ok (.iload_n 1, 1) := by decide +kernel
theorem dX11_over_1 : decode cX11_over 1 = .ok (.iconst 0, 1) := by decide +kernel
theorem dX11_over_2 : decode cX11_over 2 = .ok (.bipush 63, 2) := by decide +kernel
theorem dX11_over_4 : decode cX11_over 4 = .ok (.invokestatic 114, 3) := by decide +kernel
theorem dX11_over_7 : decode cX11_over 7 = .ok (.ifCond .ne 5, 3) := by decide +kernel
theorem dX11_over_10 : decode cX11_over 10 = .ok (.iconst (-1), 1) := by decide +kernel
theorem dX11_over_11 : decode cX11_over 11 = .ok (.ireturn, 1) := by decide +kernel
theorem dX11_over_12 : decode cX11_over 12 = .ok (.aload_n 0, 1) := by decide +kernel
theorem dX11_over_13 : decode cX11_over 13 = .ok (.getfield 29, 3) := by decide +kernel
theorem dX11_over_16 : decode cX11_over 16 = .ok (.aload_n 0, 1) := by decide +kernel
theorem dX11_over_17 : decode cX11_over 17 = .ok (.getfield 92, 3) := by decide +kernel
theorem dX11_over_20 : decode cX11_over 20 = .ok (.getfield 129, 3) := by decide +kernel
theorem dX11_over_23 : decode cX11_over 23 = .ok (.invokevirtual 233, 3) := by decide +kernel
theorem dX11_over_26 : decode cX11_over 26 = .ok (.iconst 0, 1) := by decide +kernel
theorem dX11_over_27 : decode cX11_over 27 = .ok (.istore_n 2, 1) := by decide +kernel
theorem dX11_over_28 : decode cX11_over 28 = .ok (.iload_n 2, 1) := by decide +kernel
theorem dX11_over_29 : decode cX11_over 29 = .ok (.bipush 16, 2) := by decide +kernel
theorem dX11_over_31 : decode cX11_over 31 = .ok (.if_icmp .ge 61, 3) := by decide +kernel
theorem dX11_over_34 : decode cX11_over 34 = .ok (.aload_n 0, 1) := by decide +kernel
theorem dX11_over_35 : decode cX11_over 35 = .ok (.getfield 92, 3) := by decide +kernel
theorem dX11_over_38 : decode cX11_over 38 = .ok (.aload_n 0, 1) := by decide +kernel
theorem dX11_over_39 : decode cX11_over 39 = .ok (.getfield 29, 3) := by decide +kernel
theorem dX11_over_42 : decode cX11_over 42 = .ok (.invokevirtual 204, 3) := by decide +kernel
theorem dX11_over_45 : decode cX11_over 45 = .ok (.ifCond .ne 47, 3) := by decide +kernel
theorem dX11_over_48 : decode cX11_over 48 = .ok (.aload_n 0, 1) := by decide +kernel
theorem dX11_over_49 : decode cX11_over 49 = .ok (.getfield 92, 3) := by decide +kernel
theorem dX11_over_52 : decode cX11_over 52 = .ok (.aload_n 0, 1) := by decide +kernel
theorem dX11_over_53 : decode cX11_over 53 = .ok (.getfield 29, 3) := by decide +kernel
theorem dX11_over_56 : decode cX11_over 56 = .ok (.iconst 0, 1) := by decide +kernel
theorem dX11_over_57 : decode cX11_over 57 = .ok (.invokevirtual 240, 3) := by decide +kernel
theorem dX11_over_60 : decode cX11_over 60 = .ok (.pop, 1) := by decide +kernel
theorem dX11_over_61 : decode cX11_over 61 = .ok (.aload_n 0, 1) := by decide +kernel
theorem dX11_over_62 : decode cX11_over 62 = .ok (.getfield 92, 3) := by decide +kernel
theorem dX11_over_65 : decode cX11_over 65 = .ok (.aload_n 0, 1) := by decide +kernel
theorem dX11_over_66 : decode cX11_over 66 = .ok (.getfield 29, 3) := by decide +kernel
theorem dX11_over_69 : decode cX11_over 69 = .ok (.iload_n 1, 1) := by decide +kernel
theorem dX11_over_70 : decode cX11_over 70 = .ok (.invokevirtual 243, 3) := by decide +kernel
theorem dX11_over_73 : decode cX11_over 73 = .ok (.ifCond .eq 13, 3) := by decide +kernel
theorem dX11_over_76 : decode cX11_over 76 = .ok (.aload_n 0, 1) := by decide +kernel
theorem dX11_over_77 : decode cX11_over 77 = .ok (.getfield 29, 3) := by decide +kernel
theorem dX11_over_80 : decode cX11_over 80 = .ok (.getfield 191, 3) := by decide +kernel
theorem dX11_over_83 : decode cX11_over 83 = .ok (.iconst 1, 1) := by decide +kernel
theorem dX11_over_84 : decode cX11_over 84 = .ok (.isub, 1) := by decide +kernel
theorem dX11_over_85 : decode cX11_over 85 = .ok (.ireturn, 1) := by decide +kernel
theorem dX11_over_86 : decode cX11_over 86 = .ok (.iinc 2 1, 3) := by decide +kernel
theorem dX11_over_89 : decode cX11_over 89 = .ok (.goto (-61), 3) := by decide +kernel
theorem dX11_over_92 : decode cX11_over 92 = .ok (.bipush (-3), 2) := by decide +kernel
theorem dX11_over_94 : decode cX11_over 94 = .ok (.ireturn, 1) := by decide +kernel
theorem dX11_cases_0 : decode cX11_cases 0 = .ok (.iload_n 1, 1) := by decide +kernel
theorem dX11_cases_1 : decode cX11_cases 1 = .ok (.iconst (-1), 1) := by decide +kernel
theorem dX11_cases_2 : decode cX11_cases 2 = .ok (.if_icmp .ne 11, 3) := by decide +kernel
theorem dX11_cases_5 : decode cX11_cases 5 = .ok (.aload_n 0, 1) := by decide +kernel
theorem dX11_cases_6 : decode cX11_cases 6 = .ok (.getfield 92, 3) := by decide +kernel
theorem dX11_cases_9 : decode cX11_cases 9 = .ok (.invokevirtual 247, 3) := by decide +kernel
theorem dX11_cases_12 : decode cX11_cases 12 = .ok (.ireturn, 1) := by decide +kernel
theorem dX11_cases_13 : decode cX11_cases 13 = .ok (.aload_n 0, 1) := by decide +kernel
theorem dX11_cases_14 : decode cX11_cases 14 = .ok (.iload_n 1, 1) := by decide +kernel
theorem dX11_cases_15 : decode cX11_cases 15 = .ok (.invokevirtual 125, 3) := by decide +kernel
theorem dX11_cases_18 : decode cX11_cases 18 = .ok (.ifCond .eq 14, 3) := by decide +kernel
theorem dX11_cases_21 : decode cX11_cases 21 = .ok (.aload_n 0, 1) := by decide +kernel
theorem dX11_cases_22 : decode cX11_cases 22 = .ok (.getfield 92, 3) := by decide +kernel
theorem dX11_cases_25 : decode cX11_cases 25 = .ok (.iload_n 1, 1) := by decide +kernel
theorem dX11_cases_26 : decode cX11_cases 26 = .ok (.invokevirtual 250, 3) := by decide +kernel
theorem dX11_cases_29 : decode cX11_cases 29 = .ok (.goto 4, 3) := by decide +kernel
theorem dX11_cases_32 : decode cX11_cases 32 = .ok (.iconst (-1), 1) := by decide +kernel
theorem dX11_cases_33 : decode cX11_cases 33 = .ok (.ireturn, 1) := by decide +kernel
theorem dX11_circuit_0 : decode cX11_circuit 0 = .ok (.iload_n 1, 1) := by decide +kernel
theorem dX11_circuit_1 : decode cX11_circuit 1 = .ok (.iconst 0, 1) := by decide +kernel
theorem dX11_circuit_2 : decode cX11_circuit 2 = .ok (.bipush 63, 2) := by decide +kernel
theorem dX11_circuit_4 : decode cX11_circuit 4 = .ok (.invokestatic 114, 3) := by decide +kernel
theorem dX11_circuit_7 : decode cX11_circuit 7 = .ok (.ifCond .eq 12, 3) := by decide +kernel
theorem dX11_circuit_10 : decode cX11_circuit 10 = .ok (.iload_n 2, 1) := by decide +kernel
theorem dX11_circuit_11 : decode cX11_circuit 11 = .ok (.iconst 0, 1) := by decide +kernel
theorem dX11_circuit_12 : decode cX11_circuit 12 = .ok (.iconst 1, 1) := by decide +kernel
theorem dX11_circuit_13 : decode cX11_circuit 13 = .ok (.invokestatic 114, 3) := by decide +kernel
theorem dX11_circuit_16 : decode cX11_circuit 16 = .ok (.ifCond .ne 5, 3) := by decide +kernel
theorem dX11_circuit_19 : decode cX11_circuit 19 = .ok (.iconst (-1), 1) := by decide +kernel
theorem dX11_circuit_20 : decode cX11_circuit 20 = .ok (.ireturn, 1) := by decide +kernel
theorem dX11_circuit_21 : decode cX11_circuit 21 = .ok (.aload_n 0, 1) := by decide +kernel
theorem dX11_circuit_22 : decode cX11_circuit 22 = .ok (.getfield 92, 3) := by decide +kernel
theorem dX11_circuit_25 : decode cX11_circuit 25 = .ok (.invokevirtual 200, 3) := by decide +kernel
theorem dX11_circuit_28 : decode cX11_circuit 28 = .ok (.aload_n 0, 1) := by decide +kernel
theorem dX11_circuit_29 : decode cX11_circuit 29 = .ok (.getfield 92, 3) := by decide +kernel
theorem dX11_circuit_32 : decode cX11_circuit 32 = .ok (.getfield 129, 3) := by decide +kernel
theorem dX11_circuit_35 : decode cX11_circuit 35 = .ok (.getfield 144, 3) := by decide +kernel
theorem dX11_circuit_38 : decode cX11_circuit 38 = .ok (.iconst (-1), 1) := by decide +kernel
theorem dX11_circuit_39 : decode cX11_circuit 39 = .ok (.ixor, 1) := by decide +kernel
theorem dX11_circuit_40 : decode cX11_circuit 40 = .ok (.iand, 1) := by decide +kernel
theorem dX11_circuit_41 : decode cX11_circuit 41 = .ok (.istore_n 3, 1) := by decide +kernel
theorem dX11_circuit_42 : decode cX11_circuit 42 = .ok (.aload_n 0, 1) := by decide +kernel
theorem dX11_circuit_43 : decode cX11_circuit 43 = .ok (.iload_n 1, 1) := by decide +kernel
theorem dX11_circuit_44 : decode cX11_circuit 44 = .ok (.iload_n 3, 1) := by decide +kernel
theorem dX11_circuit_45 : decode cX11_circuit 45 = .ok (.invokevirtual 253, 3) := by decide +kernel
theorem dX11_circuit_48 : decode cX11_circuit 48 = .ok (.istore 4, 2) := by decide +kernel
theorem dX11_circuit_50 : decode cX11_circuit 50 = .ok (.iload_n 2, 1) := by decide +kernel
theorem dX11_circuit_51 : decode cX11_circuit 51 = .ok (.ifCond .ne 8, 3) := by decide +kernel
theorem dX11_circuit_54 : decode cX11_circuit 54 = .ok (.iload 4, 2) := by decide +kernel
theorem dX11_circuit_56 : decode cX11_circuit 56 = .ok (.goto 11, 3) := by decide +kernel
theorem dX11_circuit_59 : decode cX11_circuit 59 = .ok (.aload_n 0, 1) := by decide +kernel
theorem dX11_circuit_60 : decode cX11_circuit 60 = .ok (.iload_n 1, 1) := by decide +kernel
theorem dX11_circuit_61 : decode cX11_circuit 61 = .ok (.iload_n 3, 1) := by decide +kernel
theorem dX11_circuit_62 : decode cX11_circuit 62 = .ok (.iload 4, 2) := by decide +kernel
theorem dX11_circuit_64 : decode cX11_circuit 64 = .ok (.invokevirtual 256, 3) := by decide +kernel
theorem dX11_circuit_67 : decode cX11_circuit 67 = .ok (.ireturn, 1) := by decide +kernel
theorem dX11_fewestSteps_0 : decode cX11_fewestSteps 0 = .ok (.bipush (-3), 2) := by decide +kernel
theorem dX11_fewestSteps_2 : decode cX11_fewestSteps 2 = .ok (.istore_n 3, 1) := by decide +kernel
theorem dX11_fewestSteps_3 : decode cX11_fewestSteps 3 = .ok (.iconst 0, 1) := by decide +kernel
theorem dX11_fewestSteps_4 : decode cX11_fewestSteps 4 = .ok (.istore 4, 2) := by decide +kernel
theorem dX11_fewestSteps_6 : decode cX11_fewestSteps 6 = .ok (.iload 4, 2) := by decide +kernel
theorem dX11_fewestSteps_8 : decode cX11_fewestSteps 8 = .ok (.aload_n 0, 1) := by decide +kernel
theorem dX11_fewestSteps_9 : decode cX11_fewestSteps 9 = .ok (.getfield 92, 3) := by decide +kernel
theorem dX11_fewestSteps_12 : decode cX11_fewestSteps 12 = .ok (.getfield 118, 3) := by decide +kernel
theorem dX11_fewestSteps_15 : decode cX11_fewestSteps 15 = .ok (.if_icmp .ge 70, 3) := by decide +kernel
theorem dX11_fewestSteps_18 : decode cX11_fewestSteps 18 = .ok (.iload_n 2, 1) := by decide +kernel
theorem dX11_fewestSteps_19 : decode cX11_fewestSteps 19 = .ok (.iload 4, 2) := by decide +kernel
theorem dX11_fewestSteps_21 : decode cX11_fewestSteps 21 = .ok (.invokestatic 147, 3) := by decide +kernel
theorem dX11_fewestSteps_24 : decode cX11_fewestSteps 24 = .ok (.ifCond .eq 55, 3) := by decide +kernel
theorem dX11_fewestSteps_27 : decode cX11_fewestSteps 27 = .ok (.aload_n 0, 1) := by decide +kernel
theorem dX11_fewestSteps_28 : decode cX11_fewestSteps 28 = .ok (.getfield 92, 3) := by decide +kernel
theorem dX11_fewestSteps_31 : decode cX11_fewestSteps 31 = .ok (.getfield 129, 3) := by decide +kernel
theorem dX11_fewestSteps_34 : decode cX11_fewestSteps 34 = .ok (.getfield 135, 3) := by decide +kernel
theorem dX11_fewestSteps_37 : decode cX11_fewestSteps 37 = .ok (.iload 4, 2) := by decide +kernel
theorem dX11_fewestSteps_39 : decode cX11_fewestSteps 39 = .ok (.iaload, 1) := by decide +kernel
theorem dX11_fewestSteps_40 : decode cX11_fewestSteps 40 = .ok (.istore 5, 2) := by decide +kernel
theorem dX11_fewestSteps_42 : decode cX11_fewestSteps 42 = .ok (.iload_n 1, 1) := by decide +kernel
theorem dX11_fewestSteps_43 : decode cX11_fewestSteps 43 = .ok (.iload 5, 2) := by decide +kernel
theorem dX11_fewestSteps_45 : decode cX11_fewestSteps 45 = .ok (.invokestatic 259, 3) := by decide +kernel
theorem dX11_fewestSteps_48 : decode cX11_fewestSteps 48 = .ok (.aload_n 0, 1) := by decide +kernel
theorem dX11_fewestSteps_49 : decode cX11_fewestSteps 49 = .ok (.iload 5, 2) := by decide +kernel
theorem dX11_fewestSteps_51 : decode cX11_fewestSteps 51 = .ok (.iload_n 2, 1) := by decide +kernel
theorem dX11_fewestSteps_52 : decode cX11_fewestSteps 52 = .ok (.iload 4, 2) := by decide +kernel
theorem dX11_fewestSteps_54 : decode cX11_fewestSteps 54 = .ok (.iconst 0, 1) := by decide +kernel
theorem dX11_fewestSteps_55 : decode cX11_fewestSteps 55 = .ok (.invokestatic 175, 3) := by decide +kernel
theorem dX11_fewestSteps_58 : decode cX11_fewestSteps 58 = .ok (.invokevirtual 253, 3) := by decide +kernel
theorem dX11_fewestSteps_61 : decode cX11_fewestSteps 61 = .ok (.iadd, 1) := by decide +kernel
theorem dX11_fewestSteps_62 : decode cX11_fewestSteps 62 = .ok (.istore 6, 2) := by decide +kernel
theorem dX11_fewestSteps_64 : decode cX11_fewestSteps 64 = .ok (.iload_n 3, 1) := by decide +kernel
theorem dX11_fewestSteps_65 : decode cX11_fewestSteps 65 = .ok (.bipush (-3), 2) := by decide +kernel
theorem dX11_fewestSteps_67 : decode cX11_fewestSteps 67 = .ok (.if_icmp .eq 9, 3) := by decide +kernel
theorem dX11_fewestSteps_70 : decode cX11_fewestSteps 70 = .ok (.iload 6, 2) := by decide +kernel
theorem dX11_fewestSteps_72 : decode cX11_fewestSteps 72 = .ok (.iload_n 3, 1) := by decide +kernel
theorem dX11_fewestSteps_73 : decode cX11_fewestSteps 73 = .ok (.if_icmp .ge 6, 3) := by decide +kernel
theorem dX11_fewestSteps_76 : decode cX11_fewestSteps 76 = .ok (.iload 6, 2) := by decide +kernel
theorem dX11_fewestSteps_78 : decode cX11_fewestSteps 78 = .ok (.istore_n 3, 1) := by decide +kernel
theorem dX11_fewestSteps_79 : decode cX11_fewestSteps 79 = .ok (.iinc 4 1, 3) := by decide +kernel
theorem dX11_fewestSteps_82 : decode cX11_fewestSteps 82 = .ok (.goto (-76), 3) := by decide +kernel
theorem dX11_fewestSteps_85 : decode cX11_fewestSteps 85 = .ok (.iload_n 3, 1) := by decide +kernel
theorem dX11_fewestSteps_86 : decode cX11_fewestSteps 86 = .ok (.bipush (-3), 2) := by decide +kernel
theorem dX11_fewestSteps_88 : decode cX11_fewestSteps 88 = .ok (.if_icmp .ne 7, 3) := by decide +kernel
theorem dX11_fewestSteps_91 : decode cX11_fewestSteps 91 = .ok (.iconst 0, 1) := by decide +kernel
theorem dX11_fewestSteps_92 : decode cX11_fewestSteps 92 = .ok (.goto 4, 3) := by decide +kernel
theorem dX11_fewestSteps_95 : decode cX11_fewestSteps 95 = .ok (.iload_n 3, 1) := by decide +kernel
theorem dX11_fewestSteps_96 : decode cX11_fewestSteps 96 = .ok (.ireturn, 1) := by decide +kernel
theorem dX11_firstOnCircuit_0 : decode cX11_firstOnCircuit 0 = .ok (.iconst 0, 1) := by decide +kernel
theorem dX11_firstOnCircuit_1 : decode cX11_firstOnCircuit 1 = .ok (.istore 4, 2) := by decide +kernel
theorem dX11_firstOnCircuit_3 : decode cX11_firstOnCircuit 3 = .ok (.iload 4, 2) := by decide +kernel
theorem dX11_firstOnCircuit_5 : decode cX11_firstOnCircuit 5 = .ok (.aload_n 0, 1) := by decide +kernel
theorem dX11_firstOnCircuit_6 : decode cX11_firstOnCircuit 6 = .ok (.getfield 92, 3) := by decide +kernel
theorem dX11_firstOnCircuit_9 : decode cX11_firstOnCircuit 9 = .ok (.getfield 118, 3) := by decide +kernel
theorem dX11_firstOnCircuit_12 : decode cX11_firstOnCircuit 12 = .ok (.if_icmp .ge 60, 3) := by decide +kernel
theorem dX11_firstOnCircuit_15 : decode cX11_firstOnCircuit 15 = .ok (.iload_n 2, 1) := by decide +kernel
theorem dX11_firstOnCircuit_16 : decode cX11_firstOnCircuit 16 = .ok (.iload 4, 2) := by decide +kernel
theorem dX11_firstOnCircuit_18 : decode cX11_firstOnCircuit 18 = .ok (.invokestatic 147, 3) := by decide +kernel
theorem dX11_firstOnCircuit_21 : decode cX11_firstOnCircuit 21 = .ok (.ifCond .eq 45, 3) := by decide +kernel
theorem dX11_firstOnCircuit_24 : decode cX11_firstOnCircuit 24 = .ok (.aload_n 0, 1) := by decide +kernel
theorem dX11_firstOnCircuit_25 : decode cX11_firstOnCircuit 25 = .ok (.getfield 92, 3) := by decide +kernel
theorem dX11_firstOnCircuit_28 : decode cX11_firstOnCircuit 28 = .ok (.getfield 129, 3) := by decide +kernel
theorem dX11_firstOnCircuit_31 : decode cX11_firstOnCircuit 31 = .ok (.getfield 135, 3) := by decide +kernel
theorem dX11_firstOnCircuit_34 : decode cX11_firstOnCircuit 34 = .ok (.iload 4, 2) := by decide +kernel
theorem dX11_firstOnCircuit_36 : decode cX11_firstOnCircuit 36 = .ok (.iaload, 1) := by decide +kernel
theorem dX11_firstOnCircuit_37 : decode cX11_firstOnCircuit 37 = .ok (.istore 5, 2) := by decide +kernel
theorem dX11_firstOnCircuit_39 : decode cX11_firstOnCircuit 39 = .ok (.iload_n 1, 1) := by decide +kernel
theorem dX11_firstOnCircuit_40 : decode cX11_firstOnCircuit 40 = .ok (.iload 5, 2) := by decide +kernel
theorem dX11_firstOnCircuit_42 : decode cX11_firstOnCircuit 42 = .ok (.invokestatic 259, 3) := by decide +kernel
theorem dX11_firstOnCircuit_45 : decode cX11_firstOnCircuit 45 = .ok (.aload_n 0, 1) := by decide +kernel
theorem dX11_firstOnCircuit_46 : decode cX11_firstOnCircuit 46 = .ok (.iload 5, 2) := by decide +kernel
theorem dX11_firstOnCircuit_48 : decode cX11_firstOnCircuit 48 = .ok (.iload_n 2, 1) := by decide +kernel
theorem dX11_firstOnCircuit_49 : decode cX11_firstOnCircuit 49 = .ok (.iload 4, 2) := by decide +kernel
theorem dX11_firstOnCircuit_51 : decode cX11_firstOnCircuit 51 = .ok (.iconst 0, 1) := by decide +kernel
theorem dX11_firstOnCircuit_52 : decode cX11_firstOnCircuit 52 = .ok (.invokestatic 175, 3) := by decide +kernel
theorem dX11_firstOnCircuit_55 : decode cX11_firstOnCircuit 55 = .ok (.invokevirtual 253, 3) := by decide +kernel
theorem dX11_firstOnCircuit_58 : decode cX11_firstOnCircuit 58 = .ok (.iadd, 1) := by decide +kernel
theorem dX11_firstOnCircuit_59 : decode cX11_firstOnCircuit 59 = .ok (.iload_n 3, 1) := by decide +kernel
theorem dX11_firstOnCircuit_60 : decode cX11_firstOnCircuit 60 = .ok (.if_icmp .ne 6, 3) := by decide +kernel
theorem dX11_firstOnCircuit_63 : decode cX11_firstOnCircuit 63 = .ok (.iload 4, 2) := by decide +kernel
theorem dX11_firstOnCircuit_65 : decode cX11_firstOnCircuit 65 = .ok (.ireturn, 1) := by decide +kernel
theorem dX11_firstOnCircuit_66 : decode cX11_firstOnCircuit 66 = .ok (.iinc 4 1, 3) := by decide +kernel
theorem dX11_firstOnCircuit_69 : decode cX11_firstOnCircuit 69 = .ok (.goto (-66), 3) := by decide +kernel
theorem dX11_firstOnCircuit_72 : decode cX11_firstOnCircuit 72 = .ok (.bipush (-3), 2) := by decide +kernel
theorem dX11_firstOnCircuit_74 : decode cX11_firstOnCircuit 74 = .ok (.ireturn, 1) := by decide +kernel
theorem dX11_best_0 : decode cX11_best 0 = .ok (.iload_n 1, 1) := by decide +kernel
theorem dX11_best_1 : decode cX11_best 1 = .ok (.invokestatic 262, 3) := by decide +kernel
theorem dX11_best_4 : decode cX11_best 4 = .ok (.ifCond .ne 5, 3) := by decide +kernel
theorem dX11_best_7 : decode cX11_best 7 = .ok (.iconst (-1), 1) := by decide +kernel
theorem dX11_best_8 : decode cX11_best 8 = .ok (.ireturn, 1) := by decide +kernel
theorem dX11_best_9 : decode cX11_best 9 = .ok (.aload_n 0, 1) := by decide +kernel
theorem dX11_best_10 : decode cX11_best 10 = .ok (.getfield 104, 3) := by decide +kernel
theorem dX11_best_13 : decode cX11_best 13 = .ok (.iload_n 1, 1) := by decide +kernel
theorem dX11_best_14 : decode cX11_best 14 = .ok (.iconst 0, 1) := by decide +kernel
theorem dX11_best_15 : decode cX11_best 15 = .ok (.invokevirtual 265, 3) := by decide +kernel
theorem dX11_best_18 : decode cX11_best 18 = .ok (.aload_n 0, 1) := by decide +kernel
theorem dX11_best_19 : decode cX11_best 19 = .ok (.getfield 104, 3) := by decide +kernel
theorem dX11_best_22 : decode cX11_best 22 = .ok (.getfield 269, 3) := by decide +kernel
theorem dX11_best_25 : decode cX11_best 25 = .ok (.ireturn, 1) := by decide +kernel
theorem dX11_ith_0 : decode cX11_ith 0 = .ok (.iload_n 1, 1) := by decide +kernel
theorem dX11_ith_1 : decode cX11_ith 1 = .ok (.invokestatic 262, 3) := by decide +kernel
theorem dX11_ith_4 : decode cX11_ith 4 = .ok (.ifCond .eq 12, 3) := by decide +kernel
theorem dX11_ith_7 : decode cX11_ith 7 = .ok (.iload_n 2, 1) := by decide +kernel
theorem dX11_ith_8 : decode cX11_ith 8 = .ok (.iconst 0, 1) := by decide +kernel
theorem dX11_ith_9 : decode cX11_ith 9 = .ok (.iconst 3, 1) := by decide +kernel
theorem dX11_ith_10 : decode cX11_ith 10 = .ok (.invokestatic 114, 3) := by decide +kernel
theorem dX11_ith_13 : decode cX11_ith 13 = .ok (.ifCond .ne 5, 3) := by decide +kernel
theorem dX11_ith_16 : decode cX11_ith 16 = .ok (.iconst (-1), 1) := by decide +kernel
theorem dX11_ith_17 : decode cX11_ith 17 = .ok (.ireturn, 1) := by decide +kernel
theorem dX11_ith_18 : decode cX11_ith 18 = .ok (.aload_n 0, 1) := by decide +kernel
theorem dX11_ith_19 : decode cX11_ith 19 = .ok (.getfield 104, 3) := by decide +kernel
theorem dX11_ith_22 : decode cX11_ith 22 = .ok (.iload_n 1, 1) := by decide +kernel
theorem dX11_ith_23 : decode cX11_ith 23 = .ok (.iconst 0, 1) := by decide +kernel
theorem dX11_ith_24 : decode cX11_ith 24 = .ok (.invokevirtual 265, 3) := by decide +kernel
theorem dX11_ith_27 : decode cX11_ith 27 = .ok (.iload_n 2, 1) := by decide +kernel
theorem dX11_ith_28 : decode cX11_ith 28 = .ok (.aload_n 0, 1) := by decide +kernel
theorem dX11_ith_29 : decode cX11_ith 29 = .ok (.getfield 104, 3) := by decide +kernel
theorem dX11_ith_32 : decode cX11_ith 32 = .ok (.getfield 272, 3) := by decide +kernel
theorem dX11_ith_35 : decode cX11_ith 35 = .ok (.if_icmp .ge 15, 3) := by decide +kernel
theorem dX11_ith_38 : decode cX11_ith 38 = .ok (.aload_n 0, 1) := by decide +kernel
theorem dX11_ith_39 : decode cX11_ith 39 = .ok (.getfield 104, 3) := by decide +kernel
theorem dX11_ith_42 : decode cX11_ith 42 = .ok (.getfield 273, 3) := by decide +kernel
theorem dX11_ith_45 : decode cX11_ith 45 = .ok (.iload_n 2, 1) := by decide +kernel
theorem dX11_ith_46 : decode cX11_ith 46 = .ok (.iaload, 1) := by decide +kernel
theorem dX11_ith_47 : decode cX11_ith 47 = .ok (.goto 5, 3) := by decide +kernel
theorem dX11_ith_50 : decode cX11_ith 50 = .ok (.bipush (-3), 2) := by decide +kernel
theorem dX11_ith_52 : decode cX11_ith 52 = .ok (.ireturn, 1) := by decide +kernel
theorem dX11_ways_0 : decode cX11_ways 0 = .ok (.iload_n 1, 1) := by decide +kernel
theorem dX11_ways_1 : decode cX11_ways 1 = .ok (.invokestatic 262, 3) := by decide +kernel
theorem dX11_ways_4 : decode cX11_ways 4 = .ok (.ifCond .ne 5, 3) := by decide +kernel
theorem dX11_ways_7 : decode cX11_ways 7 = .ok (.iconst (-1), 1) := by decide +kernel
theorem dX11_ways_8 : decode cX11_ways 8 = .ok (.ireturn, 1) := by decide +kernel
theorem dX11_ways_9 : decode cX11_ways 9 = .ok (.aload_n 0, 1) := by decide +kernel
theorem dX11_ways_10 : decode cX11_ways 10 = .ok (.getfield 104, 3) := by decide +kernel
theorem dX11_ways_13 : decode cX11_ways 13 = .ok (.iload_n 1, 1) := by decide +kernel
theorem dX11_ways_14 : decode cX11_ways 14 = .ok (.iconst 0, 1) := by decide +kernel
theorem dX11_ways_15 : decode cX11_ways 15 = .ok (.invokevirtual 265, 3) := by decide +kernel
theorem dX11_ways_18 : decode cX11_ways 18 = .ok (.aload_n 0, 1) := by decide +kernel
theorem dX11_ways_19 : decode cX11_ways 19 = .ok (.getfield 104, 3) := by decide +kernel
theorem dX11_ways_22 : decode cX11_ways 22 = .ok (.getfield 276, 3) := by decide +kernel
theorem dX11_ways_25 : decode cX11_ways 25 = .ok (.ireturn, 1) := by decide +kernel
theorem dX11_writ_0 : decode cX11_writ 0 = .ok (.iload_n 1, 1) := by decide +kernel
theorem dX11_writ_1 : decode cX11_writ 1 = .ok (.invokestatic 262, 3) := by decide +kernel
theorem dX11_writ_4 : decode cX11_writ 4 = .ok (.ifCond .eq 18, 3) := by decide +kernel
theorem dX11_writ_7 : decode cX11_writ 7 = .ok (.iload_n 2, 1) := by decide +kernel
theorem dX11_writ_8 : decode cX11_writ 8 = .ok (.iconst 0, 1) := by decide +kernel
theorem dX11_writ_9 : decode cX11_writ 9 = .ok (.aload_n 0, 1) := by decide +kernel
theorem dX11_writ_10 : decode cX11_writ 10 = .ok (.getfield 92, 3) := by decide +kernel
theorem dX11_writ_13 : decode cX11_writ 13 = .ok (.invokevirtual 200, 3) := by decide +kernel
theorem dX11_writ_16 : decode cX11_writ 16 = .ok (.invokestatic 114, 3) := by decide +kernel
theorem dX11_writ_19 : decode cX11_writ 19 = .ok (.ifCond .ne 5, 3) := by decide +kernel
theorem dX11_writ_22 : decode cX11_writ 22 = .ok (.iconst (-1), 1) := by decide +kernel
theorem dX11_writ_23 : decode cX11_writ 23 = .ok (.ireturn, 1) := by decide +kernel
theorem dX11_writ_24 : decode cX11_writ 24 = .ok (.aload_n 0, 1) := by decide +kernel
theorem dX11_writ_25 : decode cX11_writ 25 = .ok (.getfield 104, 3) := by decide +kernel
theorem dX11_writ_28 : decode cX11_writ 28 = .ok (.iload_n 1, 1) := by decide +kernel
theorem dX11_writ_29 : decode cX11_writ 29 = .ok (.iload_n 2, 1) := by decide +kernel
theorem dX11_writ_30 : decode cX11_writ 30 = .ok (.invokevirtual 265, 3) := by decide +kernel
theorem dX11_writ_33 : decode cX11_writ 33 = .ok (.aload_n 0, 1) := by decide +kernel
theorem dX11_writ_34 : decode cX11_writ 34 = .ok (.getfield 104, 3) := by decide +kernel
theorem dX11_writ_37 : decode cX11_writ 37 = .ok (.getfield 279, 3) := by decide +kernel
theorem dX11_writ_40 : decode cX11_writ 40 = .ok (.ireturn, 1) := by decide +kernel
theorem dX11_bars_0 : decode cX11_bars 0 = .ok (.iload_n 1, 1) := by decide +kernel
theorem dX11_bars_1 : decode cX11_bars 1 = .ok (.invokestatic 262, 3) := by decide +kernel
theorem dX11_bars_4 : decode cX11_bars 4 = .ok (.ifCond .eq 18, 3) := by decide +kernel
theorem dX11_bars_7 : decode cX11_bars 7 = .ok (.iload_n 2, 1) := by decide +kernel
theorem dX11_bars_8 : decode cX11_bars 8 = .ok (.iconst 0, 1) := by decide +kernel
theorem dX11_bars_9 : decode cX11_bars 9 = .ok (.aload_n 0, 1) := by decide +kernel
theorem dX11_bars_10 : decode cX11_bars 10 = .ok (.getfield 92, 3) := by decide +kernel
theorem dX11_bars_13 : decode cX11_bars 13 = .ok (.invokevirtual 200, 3) := by decide +kernel
theorem dX11_bars_16 : decode cX11_bars 16 = .ok (.invokestatic 114, 3) := by decide +kernel
theorem dX11_bars_19 : decode cX11_bars 19 = .ok (.ifCond .ne 5, 3) := by decide +kernel
theorem dX11_bars_22 : decode cX11_bars 22 = .ok (.iconst (-1), 1) := by decide +kernel
theorem dX11_bars_23 : decode cX11_bars 23 = .ok (.ireturn, 1) := by decide +kernel
theorem dX11_bars_24 : decode cX11_bars 24 = .ok (.aload_n 0, 1) := by decide +kernel
theorem dX11_bars_25 : decode cX11_bars 25 = .ok (.getfield 104, 3) := by decide +kernel
theorem dX11_bars_28 : decode cX11_bars 28 = .ok (.iload_n 1, 1) := by decide +kernel
theorem dX11_bars_29 : decode cX11_bars 29 = .ok (.iconst 0, 1) := by decide +kernel
theorem dX11_bars_30 : decode cX11_bars 30 = .ok (.invokevirtual 265, 3) := by decide +kernel
theorem dX11_bars_33 : decode cX11_bars 33 = .ok (.iconst 0, 1) := by decide +kernel
theorem dX11_bars_34 : decode cX11_bars 34 = .ok (.istore_n 3, 1) := by decide +kernel
theorem dX11_bars_35 : decode cX11_bars 35 = .ok (.iload_n 3, 1) := by decide +kernel
theorem dX11_bars_36 : decode cX11_bars 36 = .ok (.aload_n 0, 1) := by decide +kernel
theorem dX11_bars_37 : decode cX11_bars 37 = .ok (.getfield 92, 3) := by decide +kernel
theorem dX11_bars_40 : decode cX11_bars 40 = .ok (.getfield 118, 3) := by decide +kernel
theorem dX11_bars_43 : decode cX11_bars 43 = .ok (.if_icmp .ge 33, 3) := by decide +kernel
theorem dX11_bars_46 : decode cX11_bars 46 = .ok (.iload_n 2, 1) := by decide +kernel
theorem dX11_bars_47 : decode cX11_bars 47 = .ok (.iload_n 3, 1) := by decide +kernel
theorem dX11_bars_48 : decode cX11_bars 48 = .ok (.invokestatic 147, 3) := by decide +kernel
theorem dX11_bars_51 : decode cX11_bars 51 = .ok (.ifCond .eq 19, 3) := by decide +kernel
theorem dX11_bars_54 : decode cX11_bars 54 = .ok (.aload_n 0, 1) := by decide +kernel
theorem dX11_bars_55 : decode cX11_bars 55 = .ok (.getfield 104, 3) := by decide +kernel
theorem dX11_bars_58 : decode cX11_bars 58 = .ok (.getfield 282, 3) := by decide +kernel
theorem dX11_bars_61 : decode cX11_bars 61 = .ok (.iload_n 3, 1) := by decide +kernel
theorem dX11_bars_62 : decode cX11_bars 62 = .ok (.invokestatic 147, 3) := by decide +kernel
theorem dX11_bars_65 : decode cX11_bars 65 = .ok (.ifCond .ne 5, 3) := by decide +kernel
theorem dX11_bars_68 : decode cX11_bars 68 = .ok (.iload_n 3, 1) := by decide +kernel
theorem dX11_bars_69 : decode cX11_bars 69 = .ok (.ireturn, 1) := by decide +kernel
theorem dX11_bars_70 : decode cX11_bars 70 = .ok (.iinc 3 1, 3) := by decide +kernel
theorem dX11_bars_73 : decode cX11_bars 73 = .ok (.goto (-38), 3) := by decide +kernel
theorem dX11_bars_76 : decode cX11_bars 76 = .ok (.bipush (-3), 2) := by decide +kernel
theorem dX11_bars_78 : decode cX11_bars 78 = .ok (.ireturn, 1) := by decide +kernel
theorem dX11_game_0 : decode cX11_game 0 = .ok (.iload_n 1, 1) := by decide +kernel
theorem dX11_game_1 : decode cX11_game 1 = .ok (.iconst 1, 1) := by decide +kernel
theorem dX11_game_2 : decode cX11_game 2 = .ok (.iconst 4, 1) := by decide +kernel
theorem dX11_game_3 : decode cX11_game 3 = .ok (.invokestatic 114, 3) := by decide +kernel
theorem dX11_game_6 : decode cX11_game 6 = .ok (.ifCond .eq 14, 3) := by decide +kernel
theorem dX11_game_9 : decode cX11_game 9 = .ok (.aload_n 0, 1) := by decide +kernel
theorem dX11_game_10 : decode cX11_game 10 = .ok (.getfield 104, 3) := by decide +kernel
theorem dX11_game_13 : decode cX11_game 13 = .ok (.iload_n 1, 1) := by decide +kernel
theorem dX11_game_14 : decode cX11_game 14 = .ok (.invokevirtual 285, 3) := by decide +kernel
theorem dX11_game_17 : decode cX11_game 17 = .ok (.goto 4, 3) := by decide +kernel
theorem dX11_game_20 : decode cX11_game 20 = .ok (.iconst (-1), 1) := by decide +kernel
theorem dX11_game_21 : decode cX11_game 21 = .ok (.ireturn, 1) := by decide +kernel
theorem dX11_play_0 : decode cX11_play 0 = .ok (.iload_n 1, 1) := by decide +kernel
theorem dX11_play_1 : decode cX11_play 1 = .ok (.iconst 1, 1) := by decide +kernel
theorem dX11_play_2 : decode cX11_play 2 = .ok (.iconst 4, 1) := by decide +kernel
theorem dX11_play_3 : decode cX11_play 3 = .ok (.invokestatic 114, 3) := by decide +kernel
theorem dX11_play_6 : decode cX11_play 6 = .ok (.ifCond .ne 5, 3) := by decide +kernel
theorem dX11_play_9 : decode cX11_play 9 = .ok (.iconst (-1), 1) := by decide +kernel
theorem dX11_play_10 : decode cX11_play 10 = .ok (.ireturn, 1) := by decide +kernel
theorem dX11_play_11 : decode cX11_play 11 = .ok (.aload_n 0, 1) := by decide +kernel
theorem dX11_play_12 : decode cX11_play 12 = .ok (.getfield 92, 3) := by decide +kernel
theorem dX11_play_15 : decode cX11_play 15 = .ok (.aload_n 0, 1) := by decide +kernel
theorem dX11_play_16 : decode cX11_play 16 = .ok (.getfield 92, 3) := by decide +kernel
theorem dX11_play_19 : decode cX11_play 19 = .ok (.getfield 129, 3) := by decide +kernel
theorem dX11_play_22 : decode cX11_play 22 = .ok (.invokevirtual 204, 3) := by decide +kernel
theorem dX11_play_25 : decode cX11_play 25 = .ok (.ifCond .eq 6, 3) := by decide +kernel
theorem dX11_play_28 : decode cX11_play 28 = .ok (.bipush (-3), 2) := by decide +kernel
theorem dX11_play_30 : decode cX11_play 30 = .ok (.ireturn, 1) := by decide +kernel
theorem dX11_play_31 : decode cX11_play 31 = .ok (.aload_n 0, 1) := by decide +kernel
theorem dX11_play_32 : decode cX11_play 32 = .ok (.getfield 104, 3) := by decide +kernel
theorem dX11_play_35 : decode cX11_play 35 = .ok (.iload_n 1, 1) := by decide +kernel
theorem dX11_play_36 : decode cX11_play 36 = .ok (.invokevirtual 285, 3) := by decide +kernel
theorem dX11_play_39 : decode cX11_play 39 = .ok (.pop, 1) := by decide +kernel
theorem dX11_play_40 : decode cX11_play 40 = .ok (.aload_n 0, 1) := by decide +kernel
theorem dX11_play_41 : decode cX11_play 41 = .ok (.getfield 104, 3) := by decide +kernel
theorem dX11_play_44 : decode cX11_play 44 = .ok (.getfield 288, 3) := by decide +kernel
theorem dX11_play_47 : decode cX11_play 47 = .ok (.ireturn, 1) := by decide +kernel
theorem dX11_report_0 : decode cX11_report 0 = .ok (.iload_n 1, 1) := by decide +kernel
theorem dX11_report_1 : decode cX11_report 1 = .ok (.iconst 0, 1) := by decide +kernel
theorem dX11_report_2 : decode cX11_report 2 = .ok (.bipush 15, 2) := by decide +kernel
theorem dX11_report_4 : decode cX11_report 4 = .ok (.invokestatic 114, 3) := by decide +kernel
theorem dX11_report_7 : decode cX11_report 7 = .ok (.ifCond .eq 33, 3) := by decide +kernel
theorem dX11_report_10 : decode cX11_report 10 = .ok (.iload_n 2, 1) := by decide +kernel
theorem dX11_report_11 : decode cX11_report 11 = .ok (.iconst 0, 1) := by decide +kernel
theorem dX11_report_12 : decode cX11_report 12 = .ok (.iconst 1, 1) := by decide +kernel
theorem dX11_report_13 : decode cX11_report 13 = .ok (.invokestatic 114, 3) := by decide +kernel
theorem dX11_report_16 : decode cX11_report 16 = .ok (.ifCond .eq 24, 3) := by decide +kernel
theorem dX11_report_19 : decode cX11_report 19 = .ok (.iload_n 3, 1) := by decide +kernel
theorem dX11_report_20 : decode cX11_report 20 = .ok (.iconst 0, 1) := by decide +kernel
theorem dX11_report_21 : decode cX11_report 21 = .ok (.bipush 7, 2) := by decide +kernel
theorem dX11_report_23 : decode cX11_report 23 = .ok (.invokestatic 114, 3) := by decide +kernel
theorem dX11_report_26 : decode cX11_report 26 = .ok (.ifCond .eq 14, 3) := by decide +kernel
theorem dX11_report_29 : decode cX11_report 29 = .ok (.iload 4, 2) := by decide +kernel
theorem dX11_report_31 : decode cX11_report 31 = .ok (.iload_n 3, 1) := by decide +kernel
theorem dX11_report_32 : decode cX11_report 32 = .ok (.bipush 7, 2) := by decide +kernel
theorem dX11_report_34 : decode cX11_report 34 = .ok (.invokestatic 114, 3) := by decide +kernel
theorem dX11_report_37 : decode cX11_report 37 = .ok (.ifCond .ne 5, 3) := by decide +kernel
theorem dX11_report_40 : decode cX11_report 40 = .ok (.iconst (-1), 1) := by decide +kernel
theorem dX11_report_41 : decode cX11_report 41 = .ok (.ireturn, 1) := by decide +kernel
theorem dX11_report_42 : decode cX11_report 42 = .ok (.aload_n 0, 1) := by decide +kernel
theorem dX11_report_43 : decode cX11_report 43 = .ok (.getfield 92, 3) := by decide +kernel
theorem dX11_report_46 : decode cX11_report 46 = .ok (.getfield 291, 3) := by decide +kernel
theorem dX11_report_49 : decode cX11_report 49 = .ok (.bipush 6, 2) := by decide +kernel
theorem dX11_report_51 : decode cX11_report 51 = .ok (.if_icmp .lt 8, 3) := by decide +kernel
theorem dX11_report_54 : decode cX11_report 54 = .ok (.bipush (-2), 2) := by decide +kernel
theorem dX11_report_56 : decode cX11_report 56 = .ok (.goto 15, 3) := by decide +kernel
theorem dX11_report_59 : decode cX11_report 59 = .ok (.aload_n 0, 1) := by decide +kernel
theorem dX11_report_60 : decode cX11_report 60 = .ok (.getfield 92, 3) := by decide +kernel
theorem dX11_report_63 : decode cX11_report 63 = .ok (.iload_n 1, 1) := by decide +kernel
theorem dX11_report_64 : decode cX11_report 64 = .ok (.iload_n 2, 1) := by decide +kernel
theorem dX11_report_65 : decode cX11_report 65 = .ok (.iload_n 3, 1) := by decide +kernel
theorem dX11_report_66 : decode cX11_report 66 = .ok (.iload 4, 2) := by decide +kernel
theorem dX11_report_68 : decode cX11_report 68 = .ok (.invokevirtual 294, 3) := by decide +kernel
theorem dX11_report_71 : decode cX11_report 71 = .ok (.ireturn, 1) := by decide +kernel
theorem dX11_forget_0 : decode cX11_forget 0 = .ok (.aload_n 0, 1) := by decide +kernel
theorem dX11_forget_1 : decode cX11_forget 1 = .ok (.getfield 92, 3) := by decide +kernel
theorem dX11_forget_4 : decode cX11_forget 4 = .ok (.getfield 291, 3) := by decide +kernel
theorem dX11_forget_7 : decode cX11_forget 7 = .ok (.istore_n 1, 1) := by decide +kernel
theorem dX11_forget_8 : decode cX11_forget 8 = .ok (.aload_n 0, 1) := by decide +kernel
theorem dX11_forget_9 : decode cX11_forget 9 = .ok (.getfield 92, 3) := by decide +kernel
theorem dX11_forget_12 : decode cX11_forget 12 = .ok (.iconst 0, 1) := by decide +kernel
theorem dX11_forget_13 : decode cX11_forget 13 = .ok (.putfield 291, 3) := by decide +kernel
theorem dX11_forget_16 : decode cX11_forget 16 = .ok (.iload_n 1, 1) := by decide +kernel
theorem dX11_forget_17 : decode cX11_forget 17 = .ok (.ireturn, 1) := by decide +kernel
theorem dX11_span_0 : decode cX11_span 0 = .ok (.iload_n 1, 1) := by decide +kernel
theorem dX11_span_1 : decode cX11_span 1 = .ok (.iconst 0, 1) := by decide +kernel
theorem dX11_span_2 : decode cX11_span 2 = .ok (.iconst 2, 1) := by decide +kernel
theorem dX11_span_3 : decode cX11_span 3 = .ok (.invokestatic 114, 3) := by decide +kernel
theorem dX11_span_6 : decode cX11_span 6 = .ok (.ifCond .ne 5, 3) := by decide +kernel
theorem dX11_span_9 : decode cX11_span 9 = .ok (.iconst (-1), 1) := by decide +kernel
theorem dX11_span_10 : decode cX11_span 10 = .ok (.ireturn, 1) := by decide +kernel
theorem dX11_span_11 : decode cX11_span 11 = .ok (.iload_n 1, 1) := by decide +kernel
theorem dX11_span_12 : decode cX11_span 12 = .ok (.ifCond .ne 11, 3) := by decide +kernel
theorem dX11_span_15 : decode cX11_span 15 = .ok (.aload_n 0, 1) := by decide +kernel
theorem dX11_span_16 : decode cX11_span 16 = .ok (.getfield 92, 3) := by decide +kernel
theorem dX11_span_19 : decode cX11_span 19 = .ok (.invokevirtual 297, 3) := by decide +kernel
theorem dX11_span_22 : decode cX11_span 22 = .ok (.ireturn, 1) := by decide +kernel
theorem dX11_span_23 : decode cX11_span 23 = .ok (.aload_n 0, 1) := by decide +kernel
theorem dX11_span_24 : decode cX11_span 24 = .ok (.getfield 92, 3) := by decide +kernel
theorem dX11_span_27 : decode cX11_span 27 = .ok (.bipush (-3), 2) := by decide +kernel
theorem dX11_span_29 : decode cX11_span 29 = .ok (.invokevirtual 300, 3) := by decide +kernel
theorem dX11_span_32 : decode cX11_span 32 = .ok (.istore_n 2, 1) := by decide +kernel
theorem dX11_span_33 : decode cX11_span 33 = .ok (.iload_n 2, 1) := by decide +kernel
theorem dX11_span_34 : decode cX11_span 34 = .ok (.bipush (-3), 2) := by decide +kernel
theorem dX11_span_36 : decode cX11_span 36 = .ok (.if_icmp .ne 6, 3) := by decide +kernel
theorem dX11_span_39 : decode cX11_span 39 = .ok (.bipush (-3), 2) := by decide +kernel
theorem dX11_span_41 : decode cX11_span 41 = .ok (.ireturn, 1) := by decide +kernel
theorem dX11_span_42 : decode cX11_span 42 = .ok (.iload_n 1, 1) := by decide +kernel
theorem dX11_span_43 : decode cX11_span 43 = .ok (.iconst 1, 1) := by decide +kernel
theorem dX11_span_44 : decode cX11_span 44 = .ok (.if_icmp .ne 10, 3) := by decide +kernel
theorem dX11_span_47 : decode cX11_span 47 = .ok (.iload_n 2, 1) := by decide +kernel
theorem dX11_span_48 : decode cX11_span 48 = .ok (.bipush 64, 2) := by decide +kernel
theorem dX11_span_50 : decode cX11_span 50 = .ok (.idiv, 1) := by decide +kernel
theorem dX11_span_51 : decode cX11_span 51 = .ok (.goto 7, 3) := by decide +kernel
theorem dX11_span_54 : decode cX11_span 54 = .ok (.iload_n 2, 1) := by decide +kernel
theorem dX11_span_55 : decode cX11_span 55 = .ok (.bipush 64, 2) := by decide +kernel
theorem dX11_span_57 : decode cX11_span 57 = .ok (.irem, 1) := by decide +kernel
theorem dX11_span_58 : decode cX11_span 58 = .ok (.ireturn, 1) := by decide +kernel
theorem dX11_liar_0 : decode cX11_liar 0 = .ok (.aload_n 0, 1) := by decide +kernel
theorem dX11_liar_1 : decode cX11_liar 1 = .ok (.getfield 92, 3) := by decide +kernel
theorem dX11_liar_4 : decode cX11_liar 4 = .ok (.bipush (-3), 2) := by decide +kernel
theorem dX11_liar_6 : decode cX11_liar 6 = .ok (.invokevirtual 300, 3) := by decide +kernel
theorem dX11_liar_9 : decode cX11_liar 9 = .ok (.bipush (-3), 2) := by decide +kernel
theorem dX11_liar_11 : decode cX11_liar 11 = .ok (.if_icmp .eq 6, 3) := by decide +kernel
theorem dX11_liar_14 : decode cX11_liar 14 = .ok (.bipush (-3), 2) := by decide +kernel
theorem dX11_liar_16 : decode cX11_liar 16 = .ok (.ireturn, 1) := by decide +kernel
theorem dX11_liar_17 : decode cX11_liar 17 = .ok (.iconst 0, 1) := by decide +kernel
theorem dX11_liar_18 : decode cX11_liar 18 = .ok (.istore_n 1, 1) := by decide +kernel
theorem dX11_liar_19 : decode cX11_liar 19 = .ok (.iload_n 1, 1) := by decide +kernel
theorem dX11_liar_20 : decode cX11_liar 20 = .ok (.aload_n 0, 1) := by decide +kernel
theorem dX11_liar_21 : decode cX11_liar 21 = .ok (.getfield 92, 3) := by decide +kernel
theorem dX11_liar_24 : decode cX11_liar 24 = .ok (.getfield 291, 3) := by decide +kernel
theorem dX11_liar_27 : decode cX11_liar 27 = .ok (.if_icmp .ge 24, 3) := by decide +kernel
theorem dX11_liar_30 : decode cX11_liar 30 = .ok (.aload_n 0, 1) := by decide +kernel
theorem dX11_liar_31 : decode cX11_liar 31 = .ok (.getfield 92, 3) := by decide +kernel
theorem dX11_liar_34 : decode cX11_liar 34 = .ok (.iload_n 1, 1) := by decide +kernel
theorem dX11_liar_35 : decode cX11_liar 35 = .ok (.invokevirtual 300, 3) := by decide +kernel
theorem dX11_liar_38 : decode cX11_liar 38 = .ok (.bipush (-3), 2) := by decide +kernel
theorem dX11_liar_40 : decode cX11_liar 40 = .ok (.if_icmp .eq 5, 3) := by decide +kernel
theorem dX11_liar_43 : decode cX11_liar 43 = .ok (.iload_n 1, 1) := by decide +kernel
theorem dX11_liar_44 : decode cX11_liar 44 = .ok (.ireturn, 1) := by decide +kernel
theorem dX11_liar_45 : decode cX11_liar 45 = .ok (.iinc 1 1, 3) := by decide +kernel
theorem dX11_liar_48 : decode cX11_liar 48 = .ok (.goto (-29), 3) := by decide +kernel
theorem dX11_liar_51 : decode cX11_liar 51 = .ok (.bipush (-3), 2) := by decide +kernel
theorem dX11_liar_53 : decode cX11_liar 53 = .ok (.ireturn, 1) := by decide +kernel
theorem dX11_seed_0 : decode cX11_seed 0 = .ok (.aload_n 0, 1) := by decide +kernel
theorem dX11_seed_1 : decode cX11_seed 1 = .ok (.getfield 92, 3) := by decide +kernel
theorem dX11_seed_4 : decode cX11_seed 4 = .ok (.getfield 303, 3) := by decide +kernel
theorem dX11_seed_7 : decode cX11_seed 7 = .ok (.istore_n 2, 1) := by decide +kernel
theorem dX11_seed_8 : decode cX11_seed 8 = .ok (.aload_n 0, 1) := by decide +kernel
theorem dX11_seed_9 : decode cX11_seed 9 = .ok (.getfield 92, 3) := by decide +kernel
theorem dX11_seed_12 : decode cX11_seed 12 = .ok (.iload_n 1, 1) := by decide +kernel
theorem dX11_seed_13 : decode cX11_seed 13 = .ok (.putfield 303, 3) := by decide +kernel
theorem dX11_seed_16 : decode cX11_seed 16 = .ok (.iload_n 2, 1) := by decide +kernel
theorem dX11_seed_17 : decode cX11_seed 17 = .ok (.ireturn, 1) := by decide +kernel
theorem dX11_lot_0 : decode cX11_lot 0 = .ok (.aload_n 0, 1) := by decide +kernel
theorem dX11_lot_1 : decode cX11_lot 1 = .ok (.getfield 92, 3) := by decide +kernel
theorem dX11_lot_4 : decode cX11_lot 4 = .ok (.aload_n 0, 1) := by decide +kernel
theorem dX11_lot_5 : decode cX11_lot 5 = .ok (.getfield 92, 3) := by decide +kernel
theorem dX11_lot_8 : decode cX11_lot 8 = .ok (.getfield 129, 3) := by decide +kernel
theorem dX11_lot_11 : decode cX11_lot 11 = .ok (.invokevirtual 204, 3) := by decide +kernel
theorem dX11_lot_14 : decode cX11_lot 14 = .ok (.ifCond .eq 6, 3) := by decide +kernel
theorem dX11_lot_17 : decode cX11_lot 17 = .ok (.bipush (-4), 2) := by decide +kernel
theorem dX11_lot_19 : decode cX11_lot 19 = .ok (.ireturn, 1) := by decide +kernel
theorem dX11_lot_20 : decode cX11_lot 20 = .ok (.aload_n 0, 1) := by decide +kernel
theorem dX11_lot_21 : decode cX11_lot 21 = .ok (.getfield 92, 3) := by decide +kernel
theorem dX11_lot_24 : decode cX11_lot 24 = .ok (.aload_n 0, 1) := by decide +kernel
theorem dX11_lot_25 : decode cX11_lot 25 = .ok (.getfield 92, 3) := by decide +kernel
theorem dX11_lot_28 : decode cX11_lot 28 = .ok (.getfield 303, 3) := by decide +kernel
theorem dX11_lot_31 : decode cX11_lot 31 = .ok (.invokestatic 306, 3) := by decide +kernel
theorem dX11_lot_34 : decode cX11_lot 34 = .ok (.putfield 303, 3) := by decide +kernel
theorem dX11_lot_37 : decode cX11_lot 37 = .ok (.aload_n 0, 1) := by decide +kernel
theorem dX11_lot_38 : decode cX11_lot 38 = .ok (.getfield 92, 3) := by decide +kernel
theorem dX11_lot_41 : decode cX11_lot 41 = .ok (.aload_n 0, 1) := by decide +kernel
theorem dX11_lot_42 : decode cX11_lot 42 = .ok (.getfield 92, 3) := by decide +kernel
theorem dX11_lot_45 : decode cX11_lot 45 = .ok (.getfield 129, 3) := by decide +kernel
theorem dX11_lot_48 : decode cX11_lot 48 = .ok (.aload_n 0, 1) := by decide +kernel
theorem dX11_lot_49 : decode cX11_lot 49 = .ok (.getfield 92, 3) := by decide +kernel
theorem dX11_lot_52 : decode cX11_lot 52 = .ok (.aload_n 0, 1) := by decide +kernel
theorem dX11_lot_53 : decode cX11_lot 53 = .ok (.getfield 92, 3) := by decide +kernel
theorem dX11_lot_56 : decode cX11_lot 56 = .ok (.getfield 303, 3) := by decide +kernel
theorem dX11_lot_59 : decode cX11_lot 59 = .ok (.invokevirtual 309, 3) := by decide +kernel
theorem dX11_lot_62 : decode cX11_lot 62 = .ok (.invokevirtual 240, 3) := by decide +kernel
theorem dX11_lot_65 : decode cX11_lot 65 = .ok (.ireturn, 1) := by decide +kernel
theorem dX11_nextLot_0 : decode cX11_nextLot 0 = .ok (.iload_n 0, 1) := by decide +kernel
theorem dX11_nextLot_1 : decode cX11_nextLot 1 = .ok (.ldc_w 312, 3) := by decide +kernel
theorem dX11_nextLot_4 : decode cX11_nextLot 4 = .ok (.imul, 1) := by decide +kernel
theorem dX11_nextLot_5 : decode cX11_nextLot 5 = .ok (.sipush 12345, 3) := by decide +kernel
theorem dX11_nextLot_8 : decode cX11_nextLot 8 = .ok (.iadd, 1) := by decide +kernel
theorem dX11_nextLot_9 : decode cX11_nextLot 9 = .ok (.ireturn, 1) := by decide +kernel
theorem dX11_times_0 : decode cX11_times 0 = .ok (.iload_n 1, 1) := by decide +kernel
theorem dX11_times_1 : decode cX11_times 1 = .ok (.iconst 1, 1) := by decide +kernel
theorem dX11_times_2 : decode cX11_times 2 = .ok (.bipush 40, 2) := by decide +kernel
theorem dX11_times_4 : decode cX11_times 4 = .ok (.invokestatic 114, 3) := by decide +kernel
theorem dX11_times_7 : decode cX11_times 7 = .ok (.ifCond .eq 14, 3) := by decide +kernel
theorem dX11_times_10 : decode cX11_times 10 = .ok (.iload_n 2, 1) := by decide +kernel
theorem dX11_times_11 : decode cX11_times 11 = .ok (.iconst 0, 1) := by decide +kernel
theorem dX11_times_12 : decode cX11_times 12 = .ok (.sipush 999, 3) := by decide +kernel
theorem dX11_times_15 : decode cX11_times 15 = .ok (.invokestatic 114, 3) := by decide +kernel
theorem dX11_times_18 : decode cX11_times 18 = .ok (.ifCond .ne 5, 3) := by decide +kernel
theorem dX11_times_21 : decode cX11_times 21 = .ok (.iconst (-1), 1) := by decide +kernel
theorem dX11_times_22 : decode cX11_times 22 = .ok (.ireturn, 1) := by decide +kernel
theorem dX11_times_23 : decode cX11_times 23 = .ok (.aload_n 0, 1) := by decide +kernel
theorem dX11_times_24 : decode cX11_times 24 = .ok (.getfield 92, 3) := by decide +kernel
theorem dX11_times_27 : decode cX11_times 27 = .ok (.getfield 303, 3) := by decide +kernel
theorem dX11_times_30 : decode cX11_times 30 = .ok (.istore_n 3, 1) := by decide +kernel
theorem dX11_times_31 : decode cX11_times 31 = .ok (.iconst 0, 1) := by decide +kernel
theorem dX11_times_32 : decode cX11_times 32 = .ok (.istore 4, 2) := by decide +kernel
theorem dX11_times_34 : decode cX11_times 34 = .ok (.iconst 0, 1) := by decide +kernel
theorem dX11_times_35 : decode cX11_times 35 = .ok (.istore 5, 2) := by decide +kernel
theorem dX11_times_37 : decode cX11_times 37 = .ok (.iload 5, 2) := by decide +kernel
theorem dX11_times_39 : decode cX11_times 39 = .ok (.iload_n 1, 1) := by decide +kernel
theorem dX11_times_40 : decode cX11_times 40 = .ok (.if_icmp .ge 94, 3) := by decide +kernel
theorem dX11_times_43 : decode cX11_times 43 = .ok (.aload_n 0, 1) := by decide +kernel
theorem dX11_times_44 : decode cX11_times 44 = .ok (.getfield 29, 3) := by decide +kernel
theorem dX11_times_47 : decode cX11_times 47 = .ok (.aload_n 0, 1) := by decide +kernel
theorem dX11_times_48 : decode cX11_times 48 = .ok (.getfield 92, 3) := by decide +kernel
theorem dX11_times_51 : decode cX11_times 51 = .ok (.getfield 129, 3) := by decide +kernel
theorem dX11_times_54 : decode cX11_times 54 = .ok (.invokevirtual 233, 3) := by decide +kernel
theorem dX11_times_57 : decode cX11_times 57 = .ok (.iconst 0, 1) := by decide +kernel
theorem dX11_times_58 : decode cX11_times 58 = .ok (.istore 6, 2) := by decide +kernel
theorem dX11_times_60 : decode cX11_times 60 = .ok (.iconst 0, 1) := by decide +kernel
theorem dX11_times_61 : decode cX11_times 61 = .ok (.istore 7, 2) := by decide +kernel
theorem dX11_times_63 : decode cX11_times 63 = .ok (.iload 7, 2) := by decide +kernel
theorem dX11_times_65 : decode cX11_times 65 = .ok (.bipush 16, 2) := by decide +kernel
theorem dX11_times_67 : decode cX11_times 67 = .ok (.if_icmp .ge 52, 3) := by decide +kernel
theorem dX11_times_70 : decode cX11_times 70 = .ok (.aload_n 0, 1) := by decide +kernel
theorem dX11_times_71 : decode cX11_times 71 = .ok (.getfield 92, 3) := by decide +kernel
theorem dX11_times_74 : decode cX11_times 74 = .ok (.aload_n 0, 1) := by decide +kernel
theorem dX11_times_75 : decode cX11_times 75 = .ok (.getfield 29, 3) := by decide +kernel
theorem dX11_times_78 : decode cX11_times 78 = .ok (.invokevirtual 204, 3) := by decide +kernel
theorem dX11_times_81 : decode cX11_times 81 = .ok (.ifCond .ne 38, 3) := by decide +kernel
theorem dX11_times_84 : decode cX11_times 84 = .ok (.iload_n 3, 1) := by decide +kernel
theorem dX11_times_85 : decode cX11_times 85 = .ok (.invokestatic 306, 3) := by decide +kernel
theorem dX11_times_88 : decode cX11_times 88 = .ok (.istore_n 3, 1) := by decide +kernel
theorem dX11_times_89 : decode cX11_times 89 = .ok (.iload 6, 2) := by decide +kernel
theorem dX11_times_91 : decode cX11_times 91 = .ok (.aload_n 0, 1) := by decide +kernel
theorem dX11_times_92 : decode cX11_times 92 = .ok (.getfield 92, 3) := by decide +kernel
theorem dX11_times_95 : decode cX11_times 95 = .ok (.aload_n 0, 1) := by decide +kernel
theorem dX11_times_96 : decode cX11_times 96 = .ok (.getfield 29, 3) := by decide +kernel
theorem dX11_times_99 : decode cX11_times 99 = .ok (.aload_n 0, 1) := by decide +kernel
theorem dX11_times_100 : decode cX11_times 100 = .ok (.getfield 92, 3) := by decide +kernel
theorem dX11_times_103 : decode cX11_times 103 = .ok (.iload_n 3, 1) := by decide +kernel
theorem dX11_times_104 : decode cX11_times 104 = .ok (.invokevirtual 309, 3) := by decide +kernel
theorem dX11_times_107 : decode cX11_times 107 = .ok (.invokevirtual 240, 3) := by decide +kernel
theorem dX11_times_110 : decode cX11_times 110 = .ok (.iadd, 1) := by decide +kernel
theorem dX11_times_111 : decode cX11_times 111 = .ok (.istore 6, 2) := by decide +kernel
theorem dX11_times_113 : decode cX11_times 113 = .ok (.iinc 7 1, 3) := by decide +kernel
theorem dX11_times_116 : decode cX11_times 116 = .ok (.goto (-53), 3) := by decide +kernel
theorem dX11_times_119 : decode cX11_times 119 = .ok (.iload 6, 2) := by decide +kernel
theorem dX11_times_121 : decode cX11_times 121 = .ok (.iload_n 2, 1) := by decide +kernel
theorem dX11_times_122 : decode cX11_times 122 = .ok (.if_icmp .lt 6, 3) := by decide +kernel
theorem dX11_times_125 : decode cX11_times 125 = .ok (.iinc 4 1, 3) := by decide +kernel
theorem dX11_times_128 : decode cX11_times 128 = .ok (.iinc 5 1, 3) := by decide +kernel
theorem dX11_times_131 : decode cX11_times 131 = .ok (.goto (-94), 3) := by decide +kernel
theorem dX11_times_134 : decode cX11_times 134 = .ok (.iload 4, 2) := by decide +kernel
theorem dX11_times_136 : decode cX11_times 136 = .ok (.ireturn, 1) := by decide +kernel
theorem dX11_prove_0 : decode cX11_prove 0 = .ok (.iload_n 1, 1) := by decide +kernel
theorem dX11_prove_1 : decode cX11_prove 1 = .ok (.invokestatic 262, 3) := by decide +kernel
theorem dX11_prove_4 : decode cX11_prove 4 = .ok (.ifCond .ne 5, 3) := by decide +kernel
theorem dX11_prove_7 : decode cX11_prove 7 = .ok (.iconst (-1), 1) := by decide +kernel
theorem dX11_prove_8 : decode cX11_prove 8 = .ok (.ireturn, 1) := by decide +kernel
theorem dX11_prove_9 : decode cX11_prove 9 = .ok (.aload_n 0, 1) := by decide +kernel
theorem dX11_prove_10 : decode cX11_prove 10 = .ok (.getfield 104, 3) := by decide +kernel
theorem dX11_prove_13 : decode cX11_prove 13 = .ok (.iload_n 1, 1) := by decide +kernel
theorem dX11_prove_14 : decode cX11_prove 14 = .ok (.iconst 0, 1) := by decide +kernel
theorem dX11_prove_15 : decode cX11_prove 15 = .ok (.invokevirtual 265, 3) := by decide +kernel
theorem dX11_prove_18 : decode cX11_prove 18 = .ok (.aload_n 0, 1) := by decide +kernel
theorem dX11_prove_19 : decode cX11_prove 19 = .ok (.getfield 29, 3) := by decide +kernel
theorem dX11_prove_22 : decode cX11_prove 22 = .ok (.aload_n 0, 1) := by decide +kernel
theorem dX11_prove_23 : decode cX11_prove 23 = .ok (.getfield 92, 3) := by decide +kernel
theorem dX11_prove_26 : decode cX11_prove 26 = .ok (.getfield 129, 3) := by decide +kernel
theorem dX11_prove_29 : decode cX11_prove 29 = .ok (.invokevirtual 233, 3) := by decide +kernel
theorem dX11_prove_32 : decode cX11_prove 32 = .ok (.iconst 0, 1) := by decide +kernel
theorem dX11_prove_33 : decode cX11_prove 33 = .ok (.istore_n 2, 1) := by decide +kernel
theorem dX11_prove_34 : decode cX11_prove 34 = .ok (.iload_n 2, 1) := by decide +kernel
theorem dX11_prove_35 : decode cX11_prove 35 = .ok (.aload_n 0, 1) := by decide +kernel
theorem dX11_prove_36 : decode cX11_prove 36 = .ok (.getfield 104, 3) := by decide +kernel
theorem dX11_prove_39 : decode cX11_prove 39 = .ok (.getfield 272, 3) := by decide +kernel
theorem dX11_prove_42 : decode cX11_prove 42 = .ok (.if_icmp .ge 69, 3) := by decide +kernel
theorem dX11_prove_45 : decode cX11_prove 45 = .ok (.aload_n 0, 1) := by decide +kernel
theorem dX11_prove_46 : decode cX11_prove 46 = .ok (.getfield 35, 3) := by decide +kernel
theorem dX11_prove_49 : decode cX11_prove 49 = .ok (.iload_n 2, 1) := by decide +kernel
theorem dX11_prove_50 : decode cX11_prove 50 = .ok (.aaload, 1) := by decide +kernel
theorem dX11_prove_51 : decode cX11_prove 51 = .ok (.iconst 0, 1) := by decide +kernel
theorem dX11_prove_52 : decode cX11_prove 52 = .ok (.aload_n 0, 1) := by decide +kernel
theorem dX11_prove_53 : decode cX11_prove 53 = .ok (.getfield 104, 3) := by decide +kernel
theorem dX11_prove_56 : decode cX11_prove 56 = .ok (.getfield 273, 3) := by decide +kernel
theorem dX11_prove_59 : decode cX11_prove 59 = .ok (.iload_n 2, 1) := by decide +kernel
theorem dX11_prove_60 : decode cX11_prove 60 = .ok (.iaload, 1) := by decide +kernel
theorem dX11_prove_61 : decode cX11_prove 61 = .ok (.iastore, 1) := by decide +kernel
theorem dX11_prove_62 : decode cX11_prove 62 = .ok (.aload_n 0, 1) := by decide +kernel
theorem dX11_prove_63 : decode cX11_prove 63 = .ok (.getfield 35, 3) := by decide +kernel
theorem dX11_prove_66 : decode cX11_prove 66 = .ok (.iload_n 2, 1) := by decide +kernel
theorem dX11_prove_67 : decode cX11_prove 67 = .ok (.aaload, 1) := by decide +kernel
theorem dX11_prove_68 : decode cX11_prove 68 = .ok (.iconst 1, 1) := by decide +kernel
theorem dX11_prove_69 : decode cX11_prove 69 = .ok (.aload_n 0, 1) := by decide +kernel
theorem dX11_prove_70 : decode cX11_prove 70 = .ok (.getfield 92, 3) := by decide +kernel
theorem dX11_prove_73 : decode cX11_prove 73 = .ok (.aload_n 0, 1) := by decide +kernel
theorem dX11_prove_74 : decode cX11_prove 74 = .ok (.getfield 29, 3) := by decide +kernel
theorem dX11_prove_77 : decode cX11_prove 77 = .ok (.aload_n 0, 1) := by decide +kernel
theorem dX11_prove_78 : decode cX11_prove 78 = .ok (.getfield 104, 3) := by decide +kernel
theorem dX11_prove_81 : decode cX11_prove 81 = .ok (.getfield 273, 3) := by decide +kernel
theorem dX11_prove_84 : decode cX11_prove 84 = .ok (.iload_n 2, 1) := by decide +kernel
theorem dX11_prove_85 : decode cX11_prove 85 = .ok (.iaload, 1) := by decide +kernel
theorem dX11_prove_86 : decode cX11_prove 86 = .ok (.invokevirtual 240, 3) := by decide +kernel
theorem dX11_prove_89 : decode cX11_prove 89 = .ok (.iastore, 1) := by decide +kernel
theorem dX11_prove_90 : decode cX11_prove 90 = .ok (.aload_n 0, 1) := by decide +kernel
theorem dX11_prove_91 : decode cX11_prove 91 = .ok (.getfield 35, 3) := by decide +kernel
theorem dX11_prove_94 : decode cX11_prove 94 = .ok (.iload_n 2, 1) := by decide +kernel
theorem dX11_prove_95 : decode cX11_prove 95 = .ok (.aaload, 1) := by decide +kernel
theorem dX11_prove_96 : decode cX11_prove 96 = .ok (.iconst 2, 1) := by decide +kernel
theorem dX11_prove_97 : decode cX11_prove 97 = .ok (.aload_n 0, 1) := by decide +kernel
theorem dX11_prove_98 : decode cX11_prove 98 = .ok (.getfield 29, 3) := by decide +kernel
theorem dX11_prove_101 : decode cX11_prove 101 = .ok (.getfield 151, 3) := by decide +kernel
theorem dX11_prove_104 : decode cX11_prove 104 = .ok (.iastore, 1) := by decide +kernel
theorem dX11_prove_105 : decode cX11_prove 105 = .ok (.iinc 2 1, 3) := by decide +kernel
theorem dX11_prove_108 : decode cX11_prove 108 = .ok (.goto (-74), 3) := by decide +kernel
theorem dX11_prove_111 : decode cX11_prove 111 = .ok (.aload_n 0, 1) := by decide +kernel
theorem dX11_prove_112 : decode cX11_prove 112 = .ok (.aload_n 0, 1) := by decide +kernel
theorem dX11_prove_113 : decode cX11_prove 113 = .ok (.getfield 104, 3) := by decide +kernel
theorem dX11_prove_116 : decode cX11_prove 116 = .ok (.getfield 272, 3) := by decide +kernel
theorem dX11_prove_119 : decode cX11_prove 119 = .ok (.putfield 62, 3) := by decide +kernel
theorem dX11_prove_122 : decode cX11_prove 122 = .ok (.aload_n 0, 1) := by decide +kernel
theorem dX11_prove_123 : decode cX11_prove 123 = .ok (.getfield 62, 3) := by decide +kernel
theorem dX11_prove_126 : decode cX11_prove 126 = .ok (.ireturn, 1) := by decide +kernel
theorem dX11_row_0 : decode cX11_row 0 = .ok (.aload_n 0, 1) := by decide +kernel
theorem dX11_row_1 : decode cX11_row 1 = .ok (.iload_n 1, 1) := by decide +kernel
theorem dX11_row_2 : decode cX11_row 2 = .ok (.iload_n 2, 1) := by decide +kernel
theorem dX11_row_3 : decode cX11_row 3 = .ok (.invokevirtual 313, 3) := by decide +kernel
theorem dX11_row_6 : decode cX11_row 6 = .ok (.ifCond .eq 14, 3) := by decide +kernel
theorem dX11_row_9 : decode cX11_row 9 = .ok (.aload_n 0, 1) := by decide +kernel
theorem dX11_row_10 : decode cX11_row 10 = .ok (.getfield 35, 3) := by decide +kernel
theorem dX11_row_13 : decode cX11_row 13 = .ok (.iload_n 1, 1) := by decide +kernel
theorem dX11_row_14 : decode cX11_row 14 = .ok (.aaload, 1) := by decide +kernel
theorem dX11_row_15 : decode cX11_row 15 = .ok (.iload_n 2, 1) := by decide +kernel
theorem dX11_row_16 : decode cX11_row 16 = .ok (.iaload, 1) := by decide +kernel
theorem dX11_row_17 : decode cX11_row 17 = .ok (.goto 5, 3) := by decide +kernel
theorem dX11_row_20 : decode cX11_row 20 = .ok (.bipush (-9), 2) := by decide +kernel
theorem dX11_row_22 : decode cX11_row 22 = .ok (.ireturn, 1) := by decide +kernel
theorem dX11_alterRow_0 : decode cX11_alterRow 0 = .ok (.aload_n 0, 1) := by decide +kernel
theorem dX11_alterRow_1 : decode cX11_alterRow 1 = .ok (.iload_n 1, 1) := by decide +kernel
theorem dX11_alterRow_2 : decode cX11_alterRow 2 = .ok (.iload_n 2, 1) := by decide +kernel
theorem dX11_alterRow_3 : decode cX11_alterRow 3 = .ok (.invokevirtual 313, 3) := by decide +kernel
theorem dX11_alterRow_6 : decode cX11_alterRow 6 = .ok (.ifCond .ne 6, 3) := by decide +kernel
theorem dX11_alterRow_9 : decode cX11_alterRow 9 = .ok (.bipush (-9), 2) := by decide +kernel
theorem dX11_alterRow_11 : decode cX11_alterRow 11 = .ok (.ireturn, 1) := by decide +kernel
theorem dX11_alterRow_12 : decode cX11_alterRow 12 = .ok (.aload_n 0, 1) := by decide +kernel
theorem dX11_alterRow_13 : decode cX11_alterRow 13 = .ok (.getfield 35, 3) := by decide +kernel
theorem dX11_alterRow_16 : decode cX11_alterRow 16 = .ok (.iload_n 1, 1) := by decide +kernel
theorem dX11_alterRow_17 : decode cX11_alterRow 17 = .ok (.aaload, 1) := by decide +kernel
theorem dX11_alterRow_18 : decode cX11_alterRow 18 = .ok (.iload_n 2, 1) := by decide +kernel
theorem dX11_alterRow_19 : decode cX11_alterRow 19 = .ok (.iaload, 1) := by decide +kernel
theorem dX11_alterRow_20 : decode cX11_alterRow 20 = .ok (.istore 4, 2) := by decide +kernel
theorem dX11_alterRow_22 : decode cX11_alterRow 22 = .ok (.aload_n 0, 1) := by decide +kernel
theorem dX11_alterRow_23 : decode cX11_alterRow 23 = .ok (.getfield 35, 3) := by decide +kernel
theorem dX11_alterRow_26 : decode cX11_alterRow 26 = .ok (.iload_n 1, 1) := by decide +kernel
theorem dX11_alterRow_27 : decode cX11_alterRow 27 = .ok (.aaload, 1) := by decide +kernel
theorem dX11_alterRow_28 : decode cX11_alterRow 28 = .ok (.iload_n 2, 1) := by decide +kernel
theorem dX11_alterRow_29 : decode cX11_alterRow 29 = .ok (.iload_n 3, 1) := by decide +kernel
theorem dX11_alterRow_30 : decode cX11_alterRow 30 = .ok (.iastore, 1) := by decide +kernel
theorem dX11_alterRow_31 : decode cX11_alterRow 31 = .ok (.iload 4, 2) := by decide +kernel
theorem dX11_alterRow_33 : decode cX11_alterRow 33 = .ok (.ireturn, 1) := by decide +kernel
theorem dX11_isInRows_0 : decode cX11_isInRows 0 = .ok (.iload_n 1, 1) := by decide +kernel
theorem dX11_isInRows_1 : decode cX11_isInRows 1 = .ok (.iconst 0, 1) := by decide +kernel
theorem dX11_isInRows_2 : decode cX11_isInRows 2 = .ok (.aload_n 0, 1) := by decide +kernel
theorem dX11_isInRows_3 : decode cX11_isInRows 3 = .ok (.getfield 62, 3) := by decide +kernel
theorem dX11_isInRows_6 : decode cX11_isInRows 6 = .ok (.iconst 1, 1) := by decide +kernel
theorem dX11_isInRows_7 : decode cX11_isInRows 7 = .ok (.isub, 1) := by decide +kernel
theorem dX11_isInRows_8 : decode cX11_isInRows 8 = .ok (.invokestatic 114, 3) := by decide +kernel
theorem dX11_isInRows_11 : decode cX11_isInRows 11 = .ok (.ifCond .eq 16, 3) := by decide +kernel
theorem dX11_isInRows_14 : decode cX11_isInRows 14 = .ok (.iload_n 2, 1) := by decide +kernel
theorem dX11_isInRows_15 : decode cX11_isInRows 15 = .ok (.iconst 0, 1) := by decide +kernel
theorem dX11_isInRows_16 : decode cX11_isInRows 16 = .ok (.iconst 2, 1) := by decide +kernel
theorem dX11_isInRows_17 : decode cX11_isInRows 17 = .ok (.invokestatic 114, 3) := by decide +kernel
theorem dX11_isInRows_20 : decode cX11_isInRows 20 = .ok (.ifCond .eq 7, 3) := by decide +kernel
theorem dX11_isInRows_23 : decode cX11_isInRows 23 = .ok (.iconst 1, 1) := by decide +kernel
theorem dX11_isInRows_24 : decode cX11_isInRows 24 = .ok (.goto 4, 3) := by decide +kernel
theorem dX11_isInRows_27 : decode cX11_isInRows 27 = .ok (.iconst 0, 1) := by decide +kernel
theorem dX11_isInRows_28 : decode cX11_isInRows 28 = .ok (.ireturn, 1) := by decide +kernel
theorem dX11_judge_0 : decode cX11_judge 0 = .ok (.aload_n 0, 1) := by decide +kernel
theorem dX11_judge_1 : decode cX11_judge 1 = .ok (.getfield 29, 3) := by decide +kernel
theorem dX11_judge_4 : decode cX11_judge 4 = .ok (.aload_n 0, 1) := by decide +kernel
theorem dX11_judge_5 : decode cX11_judge 5 = .ok (.getfield 92, 3) := by decide +kernel
theorem dX11_judge_8 : decode cX11_judge 8 = .ok (.getfield 129, 3) := by decide +kernel
theorem dX11_judge_11 : decode cX11_judge 11 = .ok (.invokevirtual 233, 3) := by decide +kernel
theorem dX11_judge_14 : decode cX11_judge 14 = .ok (.iconst 0, 1) := by decide +kernel
theorem dX11_judge_15 : decode cX11_judge 15 = .ok (.istore_n 1, 1) := by decide +kernel
theorem dX11_judge_16 : decode cX11_judge 16 = .ok (.iload_n 1, 1) := by decide +kernel
theorem dX11_judge_17 : decode cX11_judge 17 = .ok (.aload_n 0, 1) := by decide +kernel
theorem dX11_judge_18 : decode cX11_judge 18 = .ok (.getfield 62, 3) := by decide +kernel
theorem dX11_judge_21 : decode cX11_judge 21 = .ok (.if_icmp .ge 26, 3) := by decide +kernel
theorem dX11_judge_24 : decode cX11_judge 24 = .ok (.aload_n 0, 1) := by decide +kernel
theorem dX11_judge_25 : decode cX11_judge 25 = .ok (.aload_n 0, 1) := by decide +kernel
theorem dX11_judge_26 : decode cX11_judge 26 = .ok (.getfield 35, 3) := by decide +kernel
theorem dX11_judge_29 : decode cX11_judge 29 = .ok (.iload_n 1, 1) := by decide +kernel
theorem dX11_judge_30 : decode cX11_judge 30 = .ok (.aaload, 1) := by decide +kernel
theorem dX11_judge_31 : decode cX11_judge 31 = .ok (.invokevirtual 316, 3) := by decide +kernel
theorem dX11_judge_34 : decode cX11_judge 34 = .ok (.ifCond .ne 7, 3) := by decide +kernel
theorem dX11_judge_37 : decode cX11_judge 37 = .ok (.iload_n 1, 1) := by decide +kernel
theorem dX11_judge_38 : decode cX11_judge 38 = .ok (.iconst 1, 1) := by decide +kernel
theorem dX11_judge_39 : decode cX11_judge 39 = .ok (.iadd, 1) := by decide +kernel
theorem dX11_judge_40 : decode cX11_judge 40 = .ok (.ireturn, 1) := by decide +kernel
theorem dX11_judge_41 : decode cX11_judge 41 = .ok (.iinc 1 1, 3) := by decide +kernel
theorem dX11_judge_44 : decode cX11_judge 44 = .ok (.goto (-28), 3) := by decide +kernel
theorem dX11_judge_47 : decode cX11_judge 47 = .ok (.iconst 0, 1) := by decide +kernel
theorem dX11_judge_48 : decode cX11_judge 48 = .ok (.ireturn, 1) := by decide +kernel
theorem dX11_isRightOnTrial_0 : decode cX11_isRightOnTrial 0 = .ok (.aload_n 0, 1) := by decide +kernel
theorem dX11_isRightOnTrial_1 : decode cX11_isRightOnTrial 1 = .ok (.getfield 92, 3) := by decide +kernel
theorem dX11_isRightOnTrial_4 : decode cX11_isRightOnTrial 4 = .ok (.aload_n 0, 1) := by decide +kernel
theorem dX11_isRightOnTrial_5 : decode cX11_isRightOnTrial 5 = .ok (.getfield 29, 3) := by decide +kernel
theorem dX11_isRightOnTrial_8 : decode cX11_isRightOnTrial 8 = .ok (.invokevirtual 204, 3) := by decide +kernel
theorem dX11_isRightOnTrial_11 : decode cX11_isRightOnTrial 11 = .ok (.ifCond .ne 20, 3) := by decide +kernel
theorem dX11_isRightOnTrial_14 : decode cX11_isRightOnTrial 14 = .ok (.aload_n 1, 1) := by decide +kernel
theorem dX11_isRightOnTrial_15 : decode cX11_isRightOnTrial 15 = .ok (.iconst 0, 1) := by decide +kernel
theorem dX11_isRightOnTrial_16 : decode cX11_isRightOnTrial 16 = .ok (.iaload, 1) := by decide +kernel
theorem dX11_isRightOnTrial_17 : decode cX11_isRightOnTrial 17 = .ok (.iconst 0, 1) := by decide +kernel
theorem dX11_isRightOnTrial_18 : decode cX11_isRightOnTrial 18 = .ok (.aload_n 0, 1) := by decide +kernel
theorem dX11_isRightOnTrial_19 : decode cX11_isRightOnTrial 19 = .ok (.getfield 92, 3) := by decide +kernel
theorem dX11_isRightOnTrial_22 : decode cX11_isRightOnTrial 22 = .ok (.getfield 118, 3) := by decide +kernel
theorem dX11_isRightOnTrial_25 : decode cX11_isRightOnTrial 25 = .ok (.invokestatic 114, 3) := by decide +kernel
theorem dX11_isRightOnTrial_28 : decode cX11_isRightOnTrial 28 = .ok (.ifCond .ne 5, 3) := by decide +kernel
theorem dX11_isRightOnTrial_31 : decode cX11_isRightOnTrial 31 = .ok (.iconst 0, 1) := by decide +kernel
theorem dX11_isRightOnTrial_32 : decode cX11_isRightOnTrial 32 = .ok (.ireturn, 1) := by decide +kernel
theorem dX11_isRightOnTrial_33 : decode cX11_isRightOnTrial 33 = .ok (.aload_n 0, 1) := by decide +kernel
theorem dX11_isRightOnTrial_34 : decode cX11_isRightOnTrial 34 = .ok (.getfield 92, 3) := by decide +kernel
theorem dX11_isRightOnTrial_37 : decode cX11_isRightOnTrial 37 = .ok (.aload_n 0, 1) := by decide +kernel
theorem dX11_isRightOnTrial_38 : decode cX11_isRightOnTrial 38 = .ok (.getfield 29, 3) := by decide +kernel
theorem dX11_isRightOnTrial_41 : decode cX11_isRightOnTrial 41 = .ok (.aload_n 1, 1) := by decide +kernel
theorem dX11_isRightOnTrial_42 : decode cX11_isRightOnTrial 42 = .ok (.iconst 0, 1) := by decide +kernel
theorem dX11_isRightOnTrial_43 : decode cX11_isRightOnTrial 43 = .ok (.iaload, 1) := by decide +kernel
theorem dX11_isRightOnTrial_44 : decode cX11_isRightOnTrial 44 = .ok (.invokevirtual 240, 3) := by decide +kernel
theorem dX11_isRightOnTrial_47 : decode cX11_isRightOnTrial 47 = .ok (.istore_n 2, 1) := by decide +kernel
theorem dX11_isRightOnTrial_48 : decode cX11_isRightOnTrial 48 = .ok (.aload_n 1, 1) := by decide +kernel
theorem dX11_isRightOnTrial_49 : decode cX11_isRightOnTrial 49 = .ok (.iconst 1, 1) := by decide +kernel
theorem dX11_isRightOnTrial_50 : decode cX11_isRightOnTrial 50 = .ok (.iaload, 1) := by decide +kernel
theorem dX11_isRightOnTrial_51 : decode cX11_isRightOnTrial 51 = .ok (.iload_n 2, 1) := by decide +kernel
theorem dX11_isRightOnTrial_52 : decode cX11_isRightOnTrial 52 = .ok (.if_icmp .ne 20, 3) := by decide +kernel
theorem dX11_isRightOnTrial_55 : decode cX11_isRightOnTrial 55 = .ok (.aload_n 1, 1) := by decide +kernel
theorem dX11_isRightOnTrial_56 : decode cX11_isRightOnTrial 56 = .ok (.iconst 2, 1) := by decide +kernel
theorem dX11_isRightOnTrial_57 : decode cX11_isRightOnTrial 57 = .ok (.iaload, 1) := by decide +kernel
theorem dX11_isRightOnTrial_58 : decode cX11_isRightOnTrial 58 = .ok (.aload_n 0, 1) := by decide +kernel
theorem dX11_isRightOnTrial_59 : decode cX11_isRightOnTrial 59 = .ok (.getfield 29, 3) := by decide +kernel
theorem dX11_isRightOnTrial_62 : decode cX11_isRightOnTrial 62 = .ok (.getfield 151, 3) := by decide +kernel
theorem dX11_isRightOnTrial_65 : decode cX11_isRightOnTrial 65 = .ok (.if_icmp .ne 7, 3) := by decide +kernel
theorem dX11_isRightOnTrial_68 : decode cX11_isRightOnTrial 68 = .ok (.iconst 1, 1) := by decide +kernel
theorem dX11_isRightOnTrial_69 : decode cX11_isRightOnTrial 69 = .ok (.goto 4, 3) := by decide +kernel
theorem dX11_isRightOnTrial_72 : decode cX11_isRightOnTrial 72 = .ok (.iconst 0, 1) := by decide +kernel
theorem dX11_isRightOnTrial_73 : decode cX11_isRightOnTrial 73 = .ok (.ireturn, 1) := by decide +kernel
theorem dX11_sheet_0 : decode cX11_sheet 0 = .ok (.iload_n 1, 1) := by decide +kernel
theorem dX11_sheet_1 : decode cX11_sheet 1 = .ok (.invokestatic 320, 3) := by decide +kernel
theorem dX11_sheet_4 : decode cX11_sheet 4 = .ok (.ifCond .eq 12, 3) := by decide +kernel
theorem dX11_sheet_7 : decode cX11_sheet 7 = .ok (.iload_n 2, 1) := by decide +kernel
theorem dX11_sheet_8 : decode cX11_sheet 8 = .ok (.iconst (-1), 1) := by decide +kernel
theorem dX11_sheet_9 : decode cX11_sheet 9 = .ok (.iconst 4, 1) := by decide +kernel
theorem dX11_sheet_10 : decode cX11_sheet 10 = .ok (.invokestatic 114, 3) := by decide +kernel
theorem dX11_sheet_13 : decode cX11_sheet 13 = .ok (.ifCond .ne 5, 3) := by decide +kernel
theorem dX11_sheet_16 : decode cX11_sheet 16 = .ok (.iconst (-1), 1) := by decide +kernel
theorem dX11_sheet_17 : decode cX11_sheet 17 = .ok (.ireturn, 1) := by decide +kernel
theorem dX11_sheet_18 : decode cX11_sheet 18 = .ok (.iload_n 2, 1) := by decide +kernel
theorem dX11_sheet_19 : decode cX11_sheet 19 = .ok (.iconst (-1), 1) := by decide +kernel
theorem dX11_sheet_20 : decode cX11_sheet 20 = .ok (.if_icmp .eq 11, 3) := by decide +kernel
theorem dX11_sheet_23 : decode cX11_sheet 23 = .ok (.iload_n 3, 1) := by decide +kernel
theorem dX11_sheet_24 : decode cX11_sheet 24 = .ok (.bipush 40, 2) := by decide +kernel
theorem dX11_sheet_26 : decode cX11_sheet 26 = .ok (.if_icmp .le 5, 3) := by decide +kernel
theorem dX11_sheet_29 : decode cX11_sheet 29 = .ok (.iconst (-1), 1) := by decide +kernel
theorem dX11_sheet_30 : decode cX11_sheet 30 = .ok (.ireturn, 1) := by decide +kernel
theorem dX11_sheet_31 : decode cX11_sheet 31 = .ok (.iload_n 2, 1) := by decide +kernel
theorem dX11_sheet_32 : decode cX11_sheet 32 = .ok (.iconst (-1), 1) := by decide +kernel
theorem dX11_sheet_33 : decode cX11_sheet 33 = .ok (.if_icmp .eq 10, 3) := by decide +kernel
theorem dX11_sheet_36 : decode cX11_sheet 36 = .ok (.iload_n 3, 1) := by decide +kernel
theorem dX11_sheet_37 : decode cX11_sheet 37 = .ok (.ifCond .ge 6, 3) := by decide +kernel
theorem dX11_sheet_40 : decode cX11_sheet 40 = .ok (.bipush (-14), 2) := by decide +kernel
theorem dX11_sheet_42 : decode cX11_sheet 42 = .ok (.ireturn, 1) := by decide +kernel
theorem dX11_sheet_43 : decode cX11_sheet 43 = .ok (.aload_n 0, 1) := by decide +kernel
theorem dX11_sheet_44 : decode cX11_sheet 44 = .ok (.getfield 43, 3) := by decide +kernel
theorem dX11_sheet_47 : decode cX11_sheet 47 = .ok (.iload_n 1, 1) := by decide +kernel
theorem dX11_sheet_48 : decode cX11_sheet 48 = .ok (.iload_n 2, 1) := by decide +kernel
theorem dX11_sheet_49 : decode cX11_sheet 49 = .ok (.iastore, 1) := by decide +kernel
theorem dX11_sheet_50 : decode cX11_sheet 50 = .ok (.aload_n 0, 1) := by decide +kernel
theorem dX11_sheet_51 : decode cX11_sheet 51 = .ok (.getfield 46, 3) := by decide +kernel
theorem dX11_sheet_54 : decode cX11_sheet 54 = .ok (.iload_n 1, 1) := by decide +kernel
theorem dX11_sheet_55 : decode cX11_sheet 55 = .ok (.iload_n 2, 1) := by decide +kernel
theorem dX11_sheet_56 : decode cX11_sheet 56 = .ok (.iconst (-1), 1) := by decide +kernel
theorem dX11_sheet_57 : decode cX11_sheet 57 = .ok (.if_icmp .ne 7, 3) := by decide +kernel
theorem dX11_sheet_60 : decode cX11_sheet 60 = .ok (.iconst 0, 1) := by decide +kernel
theorem dX11_sheet_61 : decode cX11_sheet 61 = .ok (.goto 4, 3) := by decide +kernel
theorem dX11_sheet_64 : decode cX11_sheet 64 = .ok (.iload_n 3, 1) := by decide +kernel
theorem dX11_sheet_65 : decode cX11_sheet 65 = .ok (.iastore, 1) := by decide +kernel
theorem dX11_sheet_66 : decode cX11_sheet 66 = .ok (.aload_n 0, 1) := by decide +kernel
theorem dX11_sheet_67 : decode cX11_sheet 67 = .ok (.getfield 40, 3) := by decide +kernel
theorem dX11_sheet_70 : decode cX11_sheet 70 = .ok (.iload_n 1, 1) := by decide +kernel
theorem dX11_sheet_71 : decode cX11_sheet 71 = .ok (.aaload, 1) := by decide +kernel
theorem dX11_sheet_72 : decode cX11_sheet 72 = .ok (.lconst 0, 1) := by decide +kernel
theorem dX11_sheet_73 : decode cX11_sheet 73 = .ok (.invokestatic 323, 3) := by decide +kernel
theorem dX11_sheet_76 : decode cX11_sheet 76 = .ok (.iconst 1, 1) := by decide +kernel
theorem dX11_sheet_77 : decode cX11_sheet 77 = .ok (.ireturn, 1) := by decide +kernel
theorem dX11_write_0 : decode cX11_write 0 = .ok (.iload_n 1, 1) := by decide +kernel
theorem dX11_write_1 : decode cX11_write 1 = .ok (.invokestatic 320, 3) := by decide +kernel
theorem dX11_write_4 : decode cX11_write 4 = .ok (.ifCond .ne 5, 3) := by decide +kernel
theorem dX11_write_7 : decode cX11_write 7 = .ok (.iconst (-1), 1) := by decide +kernel
theorem dX11_write_8 : decode cX11_write 8 = .ok (.ireturn, 1) := by decide +kernel
theorem dX11_write_9 : decode cX11_write 9 = .ok (.aload_n 0, 1) := by decide +kernel
theorem dX11_write_10 : decode cX11_write 10 = .ok (.getfield 43, 3) := by decide +kernel
theorem dX11_write_13 : decode cX11_write 13 = .ok (.iload_n 1, 1) := by decide +kernel
theorem dX11_write_14 : decode cX11_write 14 = .ok (.iaload, 1) := by decide +kernel
theorem dX11_write_15 : decode cX11_write 15 = .ok (.iconst (-1), 1) := by decide +kernel
theorem dX11_write_16 : decode cX11_write 16 = .ok (.if_icmp .ne 6, 3) := by decide +kernel
theorem dX11_write_19 : decode cX11_write 19 = .ok (.bipush (-11), 2) := by decide +kernel
theorem dX11_write_21 : decode cX11_write 21 = .ok (.ireturn, 1) := by decide +kernel
theorem dX11_write_22 : decode cX11_write 22 = .ok (.iload_n 2, 1) := by decide +kernel
theorem dX11_write_23 : decode cX11_write 23 = .ok (.iconst 0, 1) := by decide +kernel
theorem dX11_write_24 : decode cX11_write 24 = .ok (.aload_n 0, 1) := by decide +kernel
theorem dX11_write_25 : decode cX11_write 25 = .ok (.getfield 46, 3) := by decide +kernel
theorem dX11_write_28 : decode cX11_write 28 = .ok (.iload_n 1, 1) := by decide +kernel
theorem dX11_write_29 : decode cX11_write 29 = .ok (.iaload, 1) := by decide +kernel
theorem dX11_write_30 : decode cX11_write 30 = .ok (.iconst 1, 1) := by decide +kernel
theorem dX11_write_31 : decode cX11_write 31 = .ok (.isub, 1) := by decide +kernel
theorem dX11_write_32 : decode cX11_write 32 = .ok (.invokestatic 114, 3) := by decide +kernel
theorem dX11_write_35 : decode cX11_write 35 = .ok (.ifCond .ne 6, 3) := by decide +kernel
theorem dX11_write_38 : decode cX11_write 38 = .ok (.bipush (-12), 2) := by decide +kernel
theorem dX11_write_40 : decode cX11_write 40 = .ok (.ireturn, 1) := by decide +kernel
theorem dX11_write_41 : decode cX11_write 41 = .ok (.aload_n 0, 1) := by decide +kernel
theorem dX11_write_42 : decode cX11_write 42 = .ok (.getfield 40, 3) := by decide +kernel
theorem dX11_write_45 : decode cX11_write 45 = .ok (.iload_n 1, 1) := by decide +kernel
theorem dX11_write_46 : decode cX11_write 46 = .ok (.aaload, 1) := by decide +kernel
theorem dX11_write_47 : decode cX11_write 47 = .ok (.iload_n 2, 1) := by decide +kernel
theorem dX11_write_48 : decode cX11_write 48 = .ok (.iload_n 3, 1) := by decide +kernel
theorem dX11_write_49 : decode cX11_write 49 = .ok (.aload_n 0, 1) := by decide +kernel
theorem dX11_write_50 : decode cX11_write 50 = .ok (.getfield 43, 3) := by decide +kernel
theorem dX11_write_53 : decode cX11_write 53 = .ok (.iload_n 1, 1) := by decide +kernel
theorem dX11_write_54 : decode cX11_write 54 = .ok (.iaload, 1) := by decide +kernel
theorem dX11_write_55 : decode cX11_write 55 = .ok (.invokestatic 326, 3) := by decide +kernel
theorem dX11_write_58 : decode cX11_write 58 = .ok (.lastore, 1) := by decide +kernel
theorem dX11_write_59 : decode cX11_write 59 = .ok (.iconst 1, 1) := by decide +kernel
theorem dX11_write_60 : decode cX11_write 60 = .ok (.ireturn, 1) := by decide +kernel
theorem dX11_narrowed_0 : decode cX11_narrowed 0 = .ok (.iload_n 1, 1) := by decide +kernel
theorem dX11_narrowed_1 : decode cX11_narrowed 1 = .ok (.tableswitch 53 0 4 #[35, 39, 53, 53, 43], 35) := by decide +kernel
theorem dX11_narrowed_36 : decode cX11_narrowed 36 = .ok (.iload_n 0, 1) := by decide +kernel
theorem dX11_narrowed_37 : decode cX11_narrowed 37 = .ok (.i2b, 1) := by decide +kernel
theorem dX11_narrowed_38 : decode cX11_narrowed 38 = .ok (.i2l, 1) := by decide +kernel
theorem dX11_narrowed_39 : decode cX11_narrowed 39 = .ok (.lreturn, 1) := by decide +kernel
theorem dX11_narrowed_40 : decode cX11_narrowed 40 = .ok (.iload_n 0, 1) := by decide +kernel
theorem dX11_narrowed_41 : decode cX11_narrowed 41 = .ok (.i2s, 1) := by decide +kernel
theorem dX11_narrowed_42 : decode cX11_narrowed 42 = .ok (.i2l, 1) := by decide +kernel
theorem dX11_narrowed_43 : decode cX11_narrowed 43 = .ok (.lreturn, 1) := by decide +kernel
theorem dX11_narrowed_44 : decode cX11_narrowed 44 = .ok (.iload_n 0, 1) := by decide +kernel
theorem dX11_narrowed_45 : decode cX11_narrowed 45 = .ok (.ifCond .eq 7, 3) := by decide +kernel
theorem dX11_narrowed_48 : decode cX11_narrowed 48 = .ok (.lconst 1, 1) := by decide +kernel
theorem dX11_narrowed_49 : decode cX11_narrowed 49 = .ok (.goto 4, 3) := by decide +kernel
theorem dX11_narrowed_52 : decode cX11_narrowed 52 = .ok (.lconst 0, 1) := by decide +kernel
theorem dX11_narrowed_53 : decode cX11_narrowed 53 = .ok (.lreturn, 1) := by decide +kernel
theorem dX11_narrowed_54 : decode cX11_narrowed 54 = .ok (.iload_n 0, 1) := by decide +kernel
theorem dX11_narrowed_55 : decode cX11_narrowed 55 = .ok (.i2l, 1) := by decide +kernel
theorem dX11_narrowed_56 : decode cX11_narrowed 56 = .ok (.lreturn, 1) := by decide +kernel
theorem dX11_item_0 : decode cX11_item 0 = .ok (.iload_n 1, 1) := by decide +kernel
theorem dX11_item_1 : decode cX11_item 1 = .ok (.invokestatic 320, 3) := by decide +kernel
theorem dX11_item_4 : decode cX11_item 4 = .ok (.ifCond .eq 12, 3) := by decide +kernel
theorem dX11_item_7 : decode cX11_item 7 = .ok (.iload_n 2, 1) := by decide +kernel
theorem dX11_item_8 : decode cX11_item 8 = .ok (.iconst 0, 1) := by decide +kernel
theorem dX11_item_9 : decode cX11_item 9 = .ok (.iconst 4, 1) := by decide +kernel
theorem dX11_item_10 : decode cX11_item 10 = .ok (.invokestatic 114, 3) := by decide +kernel
theorem dX11_item_13 : decode cX11_item 13 = .ok (.ifCond .ne 5, 3) := by decide +kernel
theorem dX11_item_16 : decode cX11_item 16 = .ok (.iconst (-1), 1) := by decide +kernel
theorem dX11_item_17 : decode cX11_item 17 = .ok (.ireturn, 1) := by decide +kernel
theorem dX11_item_18 : decode cX11_item 18 = .ok (.aload_n 0, 1) := by decide +kernel
theorem dX11_item_19 : decode cX11_item 19 = .ok (.iload_n 1, 1) := by decide +kernel
theorem dX11_item_20 : decode cX11_item 20 = .ok (.iload_n 2, 1) := by decide +kernel
theorem dX11_item_21 : decode cX11_item 21 = .ok (.invokevirtual 330, 3) := by decide +kernel
theorem dX11_item_24 : decode cX11_item 24 = .ok (.istore 4, 2) := by decide +kernel
theorem dX11_item_26 : decode cX11_item 26 = .ok (.iload 4, 2) := by decide +kernel
theorem dX11_item_28 : decode cX11_item 28 = .ok (.ifCond .eq 6, 3) := by decide +kernel
theorem dX11_item_31 : decode cX11_item 31 = .ok (.iload 4, 2) := by decide +kernel
theorem dX11_item_33 : decode cX11_item 33 = .ok (.ireturn, 1) := by decide +kernel
theorem dX11_item_34 : decode cX11_item 34 = .ok (.iload_n 3, 1) := by decide +kernel
theorem dX11_item_35 : decode cX11_item 35 = .ok (.iconst 0, 1) := by decide +kernel
theorem dX11_item_36 : decode cX11_item 36 = .ok (.aload_n 0, 1) := by decide +kernel
theorem dX11_item_37 : decode cX11_item 37 = .ok (.getfield 46, 3) := by decide +kernel
theorem dX11_item_40 : decode cX11_item 40 = .ok (.iload_n 1, 1) := by decide +kernel
theorem dX11_item_41 : decode cX11_item 41 = .ok (.iaload, 1) := by decide +kernel
theorem dX11_item_42 : decode cX11_item 42 = .ok (.iconst 1, 1) := by decide +kernel
theorem dX11_item_43 : decode cX11_item 43 = .ok (.isub, 1) := by decide +kernel
theorem dX11_item_44 : decode cX11_item 44 = .ok (.invokestatic 114, 3) := by decide +kernel
theorem dX11_item_47 : decode cX11_item 47 = .ok (.ifCond .eq 15, 3) := by decide +kernel
theorem dX11_item_50 : decode cX11_item 50 = .ok (.aload_n 0, 1) := by decide +kernel
theorem dX11_item_51 : decode cX11_item 51 = .ok (.getfield 40, 3) := by decide +kernel
theorem dX11_item_54 : decode cX11_item 54 = .ok (.iload_n 1, 1) := by decide +kernel
theorem dX11_item_55 : decode cX11_item 55 = .ok (.aaload, 1) := by decide +kernel
theorem dX11_item_56 : decode cX11_item 56 = .ok (.iload_n 3, 1) := by decide +kernel
theorem dX11_item_57 : decode cX11_item 57 = .ok (.laload, 1) := by decide +kernel
theorem dX11_item_58 : decode cX11_item 58 = .ok (.l2i, 1) := by decide +kernel
theorem dX11_item_59 : decode cX11_item 59 = .ok (.goto 5, 3) := by decide +kernel
theorem dX11_item_62 : decode cX11_item 62 = .ok (.bipush (-12), 2) := by decide +kernel
theorem dX11_item_64 : decode cX11_item 64 = .ok (.ireturn, 1) := by decide +kernel
theorem dX11_refusalAs_0 : decode cX11_refusalAs 0 = .ok (.aload_n 0, 1) := by decide +kernel
theorem dX11_refusalAs_1 : decode cX11_refusalAs 1 = .ok (.getfield 43, 3) := by decide +kernel
theorem dX11_refusalAs_4 : decode cX11_refusalAs 4 = .ok (.iload_n 1, 1) := by decide +kernel
theorem dX11_refusalAs_5 : decode cX11_refusalAs 5 = .ok (.iaload, 1) := by decide +kernel
theorem dX11_refusalAs_6 : decode cX11_refusalAs 6 = .ok (.iconst (-1), 1) := by decide +kernel
theorem dX11_refusalAs_7 : decode cX11_refusalAs 7 = .ok (.if_icmp .ne 6, 3) := by decide +kernel
theorem dX11_refusalAs_10 : decode cX11_refusalAs 10 = .ok (.bipush (-11), 2) := by decide +kernel
theorem dX11_refusalAs_12 : decode cX11_refusalAs 12 = .ok (.ireturn, 1) := by decide +kernel
theorem dX11_refusalAs_13 : decode cX11_refusalAs 13 = .ok (.aload_n 0, 1) := by decide +kernel
theorem dX11_refusalAs_14 : decode cX11_refusalAs 14 = .ok (.getfield 43, 3) := by decide +kernel
theorem dX11_refusalAs_17 : decode cX11_refusalAs 17 = .ok (.iload_n 1, 1) := by decide +kernel
theorem dX11_refusalAs_18 : decode cX11_refusalAs 18 = .ok (.iaload, 1) := by decide +kernel
theorem dX11_refusalAs_19 : decode cX11_refusalAs 19 = .ok (.iload_n 2, 1) := by decide +kernel
theorem dX11_refusalAs_20 : decode cX11_refusalAs 20 = .ok (.if_icmp .ne 7, 3) := by decide +kernel
theorem dX11_refusalAs_23 : decode cX11_refusalAs 23 = .ok (.iconst 0, 1) := by decide +kernel
theorem dX11_refusalAs_24 : decode cX11_refusalAs 24 = .ok (.goto 5, 3) := by decide +kernel
theorem dX11_refusalAs_27 : decode cX11_refusalAs 27 = .ok (.bipush (-13), 2) := by decide +kernel
theorem dX11_refusalAs_29 : decode cX11_refusalAs 29 = .ok (.ireturn, 1) := by decide +kernel
theorem dX11_goAll_0 : decode cX11_goAll 0 = .ok (.iload_n 1, 1) := by decide +kernel
theorem dX11_goAll_1 : decode cX11_goAll 1 = .ok (.invokestatic 320, 3) := by decide +kernel
theorem dX11_goAll_4 : decode cX11_goAll 4 = .ok (.ifCond .eq 13, 3) := by decide +kernel
theorem dX11_goAll_7 : decode cX11_goAll 7 = .ok (.iload_n 3, 1) := by decide +kernel
theorem dX11_goAll_8 : decode cX11_goAll 8 = .ok (.iconst 0, 1) := by decide +kernel
theorem dX11_goAll_9 : decode cX11_goAll 9 = .ok (.bipush 20, 2) := by decide +kernel
theorem dX11_goAll_11 : decode cX11_goAll 11 = .ok (.invokestatic 114, 3) := by decide +kernel
theorem dX11_goAll_14 : decode cX11_goAll 14 = .ok (.ifCond .ne 5, 3) := by decide +kernel
theorem dX11_goAll_17 : decode cX11_goAll 17 = .ok (.iconst (-1), 1) := by decide +kernel
theorem dX11_goAll_18 : decode cX11_goAll 18 = .ok (.ireturn, 1) := by decide +kernel
theorem dX11_goAll_19 : decode cX11_goAll 19 = .ok (.aload_n 0, 1) := by decide +kernel
theorem dX11_goAll_20 : decode cX11_goAll 20 = .ok (.iload_n 1, 1) := by decide +kernel
theorem dX11_goAll_21 : decode cX11_goAll 21 = .ok (.iconst 0, 1) := by decide +kernel
theorem dX11_goAll_22 : decode cX11_goAll 22 = .ok (.invokevirtual 330, 3) := by decide +kernel
theorem dX11_goAll_25 : decode cX11_goAll 25 = .ok (.istore 4, 2) := by decide +kernel
theorem dX11_goAll_27 : decode cX11_goAll 27 = .ok (.iload 4, 2) := by decide +kernel
theorem dX11_goAll_29 : decode cX11_goAll 29 = .ok (.ifCond .eq 6, 3) := by decide +kernel
theorem dX11_goAll_32 : decode cX11_goAll 32 = .ok (.iload 4, 2) := by decide +kernel
theorem dX11_goAll_34 : decode cX11_goAll 34 = .ok (.ireturn, 1) := by decide +kernel
theorem dX11_goAll_35 : decode cX11_goAll 35 = .ok (.iconst 0, 1) := by decide +kernel
theorem dX11_goAll_36 : decode cX11_goAll 36 = .ok (.istore 5, 2) := by decide +kernel
theorem dX11_goAll_38 : decode cX11_goAll 38 = .ok (.iconst 0, 1) := by decide +kernel
theorem dX11_goAll_39 : decode cX11_goAll 39 = .ok (.istore 6, 2) := by decide +kernel
theorem dX11_goAll_41 : decode cX11_goAll 41 = .ok (.iload 6, 2) := by decide +kernel
theorem dX11_goAll_43 : decode cX11_goAll 43 = .ok (.iload_n 3, 1) := by decide +kernel
theorem dX11_goAll_44 : decode cX11_goAll 44 = .ok (.if_icmp .ge 99, 3) := by decide +kernel
theorem dX11_goAll_47 : decode cX11_goAll 47 = .ok (.iload_n 2, 1) := by decide +kernel
theorem dX11_goAll_48 : decode cX11_goAll 48 = .ok (.iload 6, 2) := by decide +kernel
theorem dX11_goAll_50 : decode cX11_goAll 50 = .ok (.iadd, 1) := by decide +kernel
theorem dX11_goAll_51 : decode cX11_goAll 51 = .ok (.iconst 0, 1) := by decide +kernel
theorem dX11_goAll_52 : decode cX11_goAll 52 = .ok (.aload_n 0, 1) := by decide +kernel
theorem dX11_goAll_53 : decode cX11_goAll 53 = .ok (.getfield 46, 3) := by decide +kernel
theorem dX11_goAll_56 : decode cX11_goAll 56 = .ok (.iload_n 1, 1) := by decide +kernel
theorem dX11_goAll_57 : decode cX11_goAll 57 = .ok (.iaload, 1) := by decide +kernel
theorem dX11_goAll_58 : decode cX11_goAll 58 = .ok (.iconst 1, 1) := by decide +kernel
theorem dX11_goAll_59 : decode cX11_goAll 59 = .ok (.isub, 1) := by decide +kernel
theorem dX11_goAll_60 : decode cX11_goAll 60 = .ok (.invokestatic 114, 3) := by decide +kernel
theorem dX11_goAll_63 : decode cX11_goAll 63 = .ok (.ifCond .ne 6, 3) := by decide +kernel
theorem dX11_goAll_66 : decode cX11_goAll 66 = .ok (.bipush (-12), 2) := by decide +kernel
theorem dX11_goAll_68 : decode cX11_goAll 68 = .ok (.ireturn, 1) := by decide +kernel
theorem dX11_goAll_69 : decode cX11_goAll 69 = .ok (.aload_n 0, 1) := by decide +kernel
theorem dX11_goAll_70 : decode cX11_goAll 70 = .ok (.getfield 40, 3) := by decide +kernel
theorem dX11_goAll_73 : decode cX11_goAll 73 = .ok (.iload_n 1, 1) := by decide +kernel
theorem dX11_goAll_74 : decode cX11_goAll 74 = .ok (.aaload, 1) := by decide +kernel
theorem dX11_goAll_75 : decode cX11_goAll 75 = .ok (.iload_n 2, 1) := by decide +kernel
theorem dX11_goAll_76 : decode cX11_goAll 76 = .ok (.iload 6, 2) := by decide +kernel
theorem dX11_goAll_78 : decode cX11_goAll 78 = .ok (.iadd, 1) := by decide +kernel
theorem dX11_goAll_79 : decode cX11_goAll 79 = .ok (.laload, 1) := by decide +kernel
theorem dX11_goAll_80 : decode cX11_goAll 80 = .ok (.l2i, 1) := by decide +kernel
theorem dX11_goAll_81 : decode cX11_goAll 81 = .ok (.istore 7, 2) := by decide +kernel
theorem dX11_goAll_83 : decode cX11_goAll 83 = .ok (.iload 7, 2) := by decide +kernel
theorem dX11_goAll_85 : decode cX11_goAll 85 = .ok (.iconst 0, 1) := by decide +kernel
theorem dX11_goAll_86 : decode cX11_goAll 86 = .ok (.aload_n 0, 1) := by decide +kernel
theorem dX11_goAll_87 : decode cX11_goAll 87 = .ok (.getfield 92, 3) := by decide +kernel
theorem dX11_goAll_90 : decode cX11_goAll 90 = .ok (.getfield 118, 3) := by decide +kernel
theorem dX11_goAll_93 : decode cX11_goAll 93 = .ok (.invokestatic 114, 3) := by decide +kernel
theorem dX11_goAll_96 : decode cX11_goAll 96 = .ok (.ifCond .eq 41, 3) := by decide +kernel
theorem dX11_goAll_99 : decode cX11_goAll 99 = .ok (.aload_n 0, 1) := by decide +kernel
theorem dX11_goAll_100 : decode cX11_goAll 100 = .ok (.getfield 92, 3) := by decide +kernel
theorem dX11_goAll_103 : decode cX11_goAll 103 = .ok (.aload_n 0, 1) := by decide +kernel
theorem dX11_goAll_104 : decode cX11_goAll 104 = .ok (.getfield 92, 3) := by decide +kernel
theorem dX11_goAll_107 : decode cX11_goAll 107 = .ok (.getfield 129, 3) := by decide +kernel
theorem dX11_goAll_110 : decode cX11_goAll 110 = .ok (.invokevirtual 204, 3) := by decide +kernel
theorem dX11_goAll_113 : decode cX11_goAll 113 = .ok (.ifCond .ne 24, 3) := by decide +kernel
theorem dX11_goAll_116 : decode cX11_goAll 116 = .ok (.iload 5, 2) := by decide +kernel
theorem dX11_goAll_118 : decode cX11_goAll 118 = .ok (.aload_n 0, 1) := by decide +kernel
theorem dX11_goAll_119 : decode cX11_goAll 119 = .ok (.getfield 92, 3) := by decide +kernel
theorem dX11_goAll_122 : decode cX11_goAll 122 = .ok (.aload_n 0, 1) := by decide +kernel
theorem dX11_goAll_123 : decode cX11_goAll 123 = .ok (.getfield 92, 3) := by decide +kernel
theorem dX11_goAll_126 : decode cX11_goAll 126 = .ok (.getfield 129, 3) := by decide +kernel
theorem dX11_goAll_129 : decode cX11_goAll 129 = .ok (.iload 7, 2) := by decide +kernel
theorem dX11_goAll_131 : decode cX11_goAll 131 = .ok (.invokevirtual 240, 3) := by decide +kernel
theorem dX11_goAll_134 : decode cX11_goAll 134 = .ok (.iadd, 1) := by decide +kernel
theorem dX11_goAll_135 : decode cX11_goAll 135 = .ok (.istore 5, 2) := by decide +kernel
theorem dX11_goAll_137 : decode cX11_goAll 137 = .ok (.iinc 6 1, 3) := by decide +kernel
theorem dX11_goAll_140 : decode cX11_goAll 140 = .ok (.goto (-99), 3) := by decide +kernel
theorem dX11_goAll_143 : decode cX11_goAll 143 = .ok (.iload 5, 2) := by decide +kernel
theorem dX11_goAll_145 : decode cX11_goAll 145 = .ok (.ireturn, 1) := by decide +kernel
theorem dX11_wouldBe_0 : decode cX11_wouldBe 0 = .ok (.iload_n 1, 1) := by decide +kernel
theorem dX11_wouldBe_1 : decode cX11_wouldBe 1 = .ok (.invokestatic 320, 3) := by decide +kernel
theorem dX11_wouldBe_4 : decode cX11_wouldBe 4 = .ok (.ifCond .eq 13, 3) := by decide +kernel
theorem dX11_wouldBe_7 : decode cX11_wouldBe 7 = .ok (.iload_n 3, 1) := by decide +kernel
theorem dX11_wouldBe_8 : decode cX11_wouldBe 8 = .ok (.iconst 0, 1) := by decide +kernel
theorem dX11_wouldBe_9 : decode cX11_wouldBe 9 = .ok (.bipush 20, 2) := by decide +kernel
theorem dX11_wouldBe_11 : decode cX11_wouldBe 11 = .ok (.invokestatic 114, 3) := by decide +kernel
theorem dX11_wouldBe_14 : decode cX11_wouldBe 14 = .ok (.ifCond .ne 5, 3) := by decide +kernel
theorem dX11_wouldBe_17 : decode cX11_wouldBe 17 = .ok (.iconst (-1), 1) := by decide +kernel
theorem dX11_wouldBe_18 : decode cX11_wouldBe 18 = .ok (.ireturn, 1) := by decide +kernel
theorem dX11_wouldBe_19 : decode cX11_wouldBe 19 = .ok (.aload_n 0, 1) := by decide +kernel
theorem dX11_wouldBe_20 : decode cX11_wouldBe 20 = .ok (.iload_n 1, 1) := by decide +kernel
theorem dX11_wouldBe_21 : decode cX11_wouldBe 21 = .ok (.iconst 0, 1) := by decide +kernel
theorem dX11_wouldBe_22 : decode cX11_wouldBe 22 = .ok (.invokevirtual 330, 3) := by decide +kernel
theorem dX11_wouldBe_25 : decode cX11_wouldBe 25 = .ok (.istore 4, 2) := by decide +kernel
theorem dX11_wouldBe_27 : decode cX11_wouldBe 27 = .ok (.iload 4, 2) := by decide +kernel
theorem dX11_wouldBe_29 : decode cX11_wouldBe 29 = .ok (.ifCond .eq 6, 3) := by decide +kernel
theorem dX11_wouldBe_32 : decode cX11_wouldBe 32 = .ok (.iload 4, 2) := by decide +kernel
theorem dX11_wouldBe_34 : decode cX11_wouldBe 34 = .ok (.ireturn, 1) := by decide +kernel
theorem dX11_wouldBe_35 : decode cX11_wouldBe 35 = .ok (.aload_n 0, 1) := by decide +kernel
theorem dX11_wouldBe_36 : decode cX11_wouldBe 36 = .ok (.getfield 29, 3) := by decide +kernel
theorem dX11_wouldBe_39 : decode cX11_wouldBe 39 = .ok (.aload_n 0, 1) := by decide +kernel
theorem dX11_wouldBe_40 : decode cX11_wouldBe 40 = .ok (.getfield 92, 3) := by decide +kernel
theorem dX11_wouldBe_43 : decode cX11_wouldBe 43 = .ok (.getfield 129, 3) := by decide +kernel
theorem dX11_wouldBe_46 : decode cX11_wouldBe 46 = .ok (.invokevirtual 233, 3) := by decide +kernel
theorem dX11_wouldBe_49 : decode cX11_wouldBe 49 = .ok (.iconst 0, 1) := by decide +kernel
theorem dX11_wouldBe_50 : decode cX11_wouldBe 50 = .ok (.istore 5, 2) := by decide +kernel
theorem dX11_wouldBe_52 : decode cX11_wouldBe 52 = .ok (.iconst 0, 1) := by decide +kernel
theorem dX11_wouldBe_53 : decode cX11_wouldBe 53 = .ok (.istore 6, 2) := by decide +kernel
theorem dX11_wouldBe_55 : decode cX11_wouldBe 55 = .ok (.iload 6, 2) := by decide +kernel
theorem dX11_wouldBe_57 : decode cX11_wouldBe 57 = .ok (.iload_n 3, 1) := by decide +kernel
theorem dX11_wouldBe_58 : decode cX11_wouldBe 58 = .ok (.if_icmp .ge 96, 3) := by decide +kernel
theorem dX11_wouldBe_61 : decode cX11_wouldBe 61 = .ok (.iload_n 2, 1) := by decide +kernel
theorem dX11_wouldBe_62 : decode cX11_wouldBe 62 = .ok (.iload 6, 2) := by decide +kernel
theorem dX11_wouldBe_64 : decode cX11_wouldBe 64 = .ok (.iadd, 1) := by decide +kernel
theorem dX11_wouldBe_65 : decode cX11_wouldBe 65 = .ok (.iconst 0, 1) := by decide +kernel
theorem dX11_wouldBe_66 : decode cX11_wouldBe 66 = .ok (.aload_n 0, 1) := by decide +kernel
theorem dX11_wouldBe_67 : decode cX11_wouldBe 67 = .ok (.getfield 46, 3) := by decide +kernel
theorem dX11_wouldBe_70 : decode cX11_wouldBe 70 = .ok (.iload_n 1, 1) := by decide +kernel
theorem dX11_wouldBe_71 : decode cX11_wouldBe 71 = .ok (.iaload, 1) := by decide +kernel
theorem dX11_wouldBe_72 : decode cX11_wouldBe 72 = .ok (.iconst 1, 1) := by decide +kernel
theorem dX11_wouldBe_73 : decode cX11_wouldBe 73 = .ok (.isub, 1) := by decide +kernel
theorem dX11_wouldBe_74 : decode cX11_wouldBe 74 = .ok (.invokestatic 114, 3) := by decide +kernel
theorem dX11_wouldBe_77 : decode cX11_wouldBe 77 = .ok (.ifCond .ne 6, 3) := by decide +kernel
theorem dX11_wouldBe_80 : decode cX11_wouldBe 80 = .ok (.bipush (-12), 2) := by decide +kernel
theorem dX11_wouldBe_82 : decode cX11_wouldBe 82 = .ok (.ireturn, 1) := by decide +kernel
theorem dX11_wouldBe_83 : decode cX11_wouldBe 83 = .ok (.aload_n 0, 1) := by decide +kernel
theorem dX11_wouldBe_84 : decode cX11_wouldBe 84 = .ok (.getfield 40, 3) := by decide +kernel
theorem dX11_wouldBe_87 : decode cX11_wouldBe 87 = .ok (.iload_n 1, 1) := by decide +kernel
theorem dX11_wouldBe_88 : decode cX11_wouldBe 88 = .ok (.aaload, 1) := by decide +kernel
theorem dX11_wouldBe_89 : decode cX11_wouldBe 89 = .ok (.iload_n 2, 1) := by decide +kernel
theorem dX11_wouldBe_90 : decode cX11_wouldBe 90 = .ok (.iload 6, 2) := by decide +kernel
theorem dX11_wouldBe_92 : decode cX11_wouldBe 92 = .ok (.iadd, 1) := by decide +kernel
theorem dX11_wouldBe_93 : decode cX11_wouldBe 93 = .ok (.laload, 1) := by decide +kernel
theorem dX11_wouldBe_94 : decode cX11_wouldBe 94 = .ok (.l2i, 1) := by decide +kernel
theorem dX11_wouldBe_95 : decode cX11_wouldBe 95 = .ok (.istore 7, 2) := by decide +kernel
theorem dX11_wouldBe_97 : decode cX11_wouldBe 97 = .ok (.iload 7, 2) := by decide +kernel
theorem dX11_wouldBe_99 : decode cX11_wouldBe 99 = .ok (.iconst 0, 1) := by decide +kernel
theorem dX11_wouldBe_100 : decode cX11_wouldBe 100 = .ok (.aload_n 0, 1) := by decide +kernel
theorem dX11_wouldBe_101 : decode cX11_wouldBe 101 = .ok (.getfield 92, 3) := by decide +kernel
theorem dX11_wouldBe_104 : decode cX11_wouldBe 104 = .ok (.getfield 118, 3) := by decide +kernel
theorem dX11_wouldBe_107 : decode cX11_wouldBe 107 = .ok (.invokestatic 114, 3) := by decide +kernel
theorem dX11_wouldBe_110 : decode cX11_wouldBe 110 = .ok (.ifCond .eq 17, 3) := by decide +kernel
theorem dX11_wouldBe_113 : decode cX11_wouldBe 113 = .ok (.aload_n 0, 1) := by decide +kernel
theorem dX11_wouldBe_114 : decode cX11_wouldBe 114 = .ok (.getfield 92, 3) := by decide +kernel
theorem dX11_wouldBe_117 : decode cX11_wouldBe 117 = .ok (.aload_n 0, 1) := by decide +kernel
theorem dX11_wouldBe_118 : decode cX11_wouldBe 118 = .ok (.getfield 29, 3) := by decide +kernel
theorem dX11_wouldBe_121 : decode cX11_wouldBe 121 = .ok (.invokevirtual 204, 3) := by decide +kernel
theorem dX11_wouldBe_124 : decode cX11_wouldBe 124 = .ok (.ifCond .eq 6, 3) := by decide +kernel
theorem dX11_wouldBe_127 : decode cX11_wouldBe 127 = .ok (.bipush (-4), 2) := by decide +kernel
theorem dX11_wouldBe_129 : decode cX11_wouldBe 129 = .ok (.ireturn, 1) := by decide +kernel
theorem dX11_wouldBe_130 : decode cX11_wouldBe 130 = .ok (.iload 5, 2) := by decide +kernel
theorem dX11_wouldBe_132 : decode cX11_wouldBe 132 = .ok (.aload_n 0, 1) := by decide +kernel
theorem dX11_wouldBe_133 : decode cX11_wouldBe 133 = .ok (.getfield 92, 3) := by decide +kernel
theorem dX11_wouldBe_136 : decode cX11_wouldBe 136 = .ok (.aload_n 0, 1) := by decide +kernel
theorem dX11_wouldBe_137 : decode cX11_wouldBe 137 = .ok (.getfield 29, 3) := by decide +kernel
theorem dX11_wouldBe_140 : decode cX11_wouldBe 140 = .ok (.iload 7, 2) := by decide +kernel
theorem dX11_wouldBe_142 : decode cX11_wouldBe 142 = .ok (.invokevirtual 240, 3) := by decide +kernel
theorem dX11_wouldBe_145 : decode cX11_wouldBe 145 = .ok (.iadd, 1) := by decide +kernel
theorem dX11_wouldBe_146 : decode cX11_wouldBe 146 = .ok (.istore 5, 2) := by decide +kernel
theorem dX11_wouldBe_148 : decode cX11_wouldBe 148 = .ok (.iinc 6 1, 3) := by decide +kernel
theorem dX11_wouldBe_151 : decode cX11_wouldBe 151 = .ok (.goto (-96), 3) := by decide +kernel
theorem dX11_wouldBe_154 : decode cX11_wouldBe 154 = .ok (.iload 5, 2) := by decide +kernel
theorem dX11_wouldBe_156 : decode cX11_wouldBe 156 = .ok (.ireturn, 1) := by decide +kernel
theorem dX11_shelf_0 : decode cX11_shelf 0 = .ok (.iload_n 1, 1) := by decide +kernel
theorem dX11_shelf_1 : decode cX11_shelf 1 = .ok (.invokestatic 333, 3) := by decide +kernel
theorem dX11_shelf_4 : decode cX11_shelf 4 = .ok (.ifCond .ne 5, 3) := by decide +kernel
theorem dX11_shelf_7 : decode cX11_shelf 7 = .ok (.iconst (-1), 1) := by decide +kernel
theorem dX11_shelf_8 : decode cX11_shelf 8 = .ok (.ireturn, 1) := by decide +kernel
theorem dX11_shelf_9 : decode cX11_shelf 9 = .ok (.iload_n 2, 1) := by decide +kernel
theorem dX11_shelf_10 : decode cX11_shelf 10 = .ok (.tableswitch 74 0 2 #[26, 47, 65], 26) := by decide +kernel
theorem dX11_shelf_36 : decode cX11_shelf 36 = .ok (.aload_n 0, 1) := by decide +kernel
theorem dX11_shelf_37 : decode cX11_shelf 37 = .ok (.iload_n 3, 1) := by decide +kernel
theorem dX11_shelf_38 : decode cX11_shelf 38 = .ok (.invokevirtual 125, 3) := by decide +kernel
theorem dX11_shelf_41 : decode cX11_shelf 41 = .ok (.ifCond .eq 14, 3) := by decide +kernel
theorem dX11_shelf_44 : decode cX11_shelf 44 = .ok (.aload_n 0, 1) := by decide +kernel
theorem dX11_shelf_45 : decode cX11_shelf 45 = .ok (.iload_n 1, 1) := by decide +kernel
theorem dX11_shelf_46 : decode cX11_shelf 46 = .ok (.iconst 0, 1) := by decide +kernel
theorem dX11_shelf_47 : decode cX11_shelf 47 = .ok (.iload_n 3, 1) := by decide +kernel
theorem dX11_shelf_48 : decode cX11_shelf 48 = .ok (.iconst 0, 1) := by decide +kernel
theorem dX11_shelf_49 : decode cX11_shelf 49 = .ok (.invokevirtual 336, 3) := by decide +kernel
theorem dX11_shelf_52 : decode cX11_shelf 52 = .ok (.goto 4, 3) := by decide +kernel
theorem dX11_shelf_55 : decode cX11_shelf 55 = .ok (.iconst (-1), 1) := by decide +kernel
theorem dX11_shelf_56 : decode cX11_shelf 56 = .ok (.ireturn, 1) := by decide +kernel
theorem dX11_shelf_57 : decode cX11_shelf 57 = .ok (.iload_n 3, 1) := by decide +kernel
theorem dX11_shelf_58 : decode cX11_shelf 58 = .ok (.invokestatic 320, 3) := by decide +kernel
theorem dX11_shelf_61 : decode cX11_shelf 61 = .ok (.ifCond .eq 12, 3) := by decide +kernel
theorem dX11_shelf_64 : decode cX11_shelf 64 = .ok (.aload_n 0, 1) := by decide +kernel
theorem dX11_shelf_65 : decode cX11_shelf 65 = .ok (.iload_n 1, 1) := by decide +kernel
theorem dX11_shelf_66 : decode cX11_shelf 66 = .ok (.iload_n 3, 1) := by decide +kernel
theorem dX11_shelf_67 : decode cX11_shelf 67 = .ok (.invokevirtual 339, 3) := by decide +kernel
theorem dX11_shelf_70 : decode cX11_shelf 70 = .ok (.goto 4, 3) := by decide +kernel
theorem dX11_shelf_73 : decode cX11_shelf 73 = .ok (.iconst (-1), 1) := by decide +kernel
theorem dX11_shelf_74 : decode cX11_shelf 74 = .ok (.ireturn, 1) := by decide +kernel
theorem dX11_shelf_75 : decode cX11_shelf 75 = .ok (.aload_n 0, 1) := by decide +kernel
theorem dX11_shelf_76 : decode cX11_shelf 76 = .ok (.iload_n 1, 1) := by decide +kernel
theorem dX11_shelf_77 : decode cX11_shelf 77 = .ok (.iconst 2, 1) := by decide +kernel
theorem dX11_shelf_78 : decode cX11_shelf 78 = .ok (.iconst 0, 1) := by decide +kernel
theorem dX11_shelf_79 : decode cX11_shelf 79 = .ok (.iconst 0, 1) := by decide +kernel
theorem dX11_shelf_80 : decode cX11_shelf 80 = .ok (.invokevirtual 336, 3) := by decide +kernel
theorem dX11_shelf_83 : decode cX11_shelf 83 = .ok (.ireturn, 1) := by decide +kernel
theorem dX11_shelf_84 : decode cX11_shelf 84 = .ok (.iconst (-1), 1) := by decide +kernel
theorem dX11_shelf_85 : decode cX11_shelf 85 = .ok (.ireturn, 1) := by decide +kernel
theorem dX11_putRowOn_0 : decode cX11_putRowOn 0 = .ok (.aload_n 0, 1) := by decide +kernel
theorem dX11_putRowOn_1 : decode cX11_putRowOn 1 = .ok (.getfield 43, 3) := by decide +kernel
theorem dX11_putRowOn_4 : decode cX11_putRowOn 4 = .ok (.iload_n 2, 1) := by decide +kernel
theorem dX11_putRowOn_5 : decode cX11_putRowOn 5 = .ok (.iaload, 1) := by decide +kernel
theorem dX11_putRowOn_6 : decode cX11_putRowOn 6 = .ok (.iconst (-1), 1) := by decide +kernel
theorem dX11_putRowOn_7 : decode cX11_putRowOn 7 = .ok (.if_icmp .ne 12, 3) := by decide +kernel
theorem dX11_putRowOn_10 : decode cX11_putRowOn 10 = .ok (.aload_n 0, 1) := by decide +kernel
theorem dX11_putRowOn_11 : decode cX11_putRowOn 11 = .ok (.iload_n 1, 1) := by decide +kernel
theorem dX11_putRowOn_12 : decode cX11_putRowOn 12 = .ok (.iconst 2, 1) := by decide +kernel
theorem dX11_putRowOn_13 : decode cX11_putRowOn 13 = .ok (.iconst 0, 1) := by decide +kernel
theorem dX11_putRowOn_14 : decode cX11_putRowOn 14 = .ok (.iconst 0, 1) := by decide +kernel
theorem dX11_putRowOn_15 : decode cX11_putRowOn 15 = .ok (.invokevirtual 336, 3) := by decide +kernel
theorem dX11_putRowOn_18 : decode cX11_putRowOn 18 = .ok (.ireturn, 1) := by decide +kernel
theorem dX11_putRowOn_19 : decode cX11_putRowOn 19 = .ok (.aload_n 0, 1) := by decide +kernel
theorem dX11_putRowOn_20 : decode cX11_putRowOn 20 = .ok (.iload_n 1, 1) := by decide +kernel
theorem dX11_putRowOn_21 : decode cX11_putRowOn 21 = .ok (.iconst 1, 1) := by decide +kernel
theorem dX11_putRowOn_22 : decode cX11_putRowOn 22 = .ok (.aload_n 0, 1) := by decide +kernel
theorem dX11_putRowOn_23 : decode cX11_putRowOn 23 = .ok (.getfield 43, 3) := by decide +kernel
theorem dX11_putRowOn_26 : decode cX11_putRowOn 26 = .ok (.iload_n 2, 1) := by decide +kernel
theorem dX11_putRowOn_27 : decode cX11_putRowOn 27 = .ok (.iaload, 1) := by decide +kernel
theorem dX11_putRowOn_28 : decode cX11_putRowOn 28 = .ok (.aload_n 0, 1) := by decide +kernel
theorem dX11_putRowOn_29 : decode cX11_putRowOn 29 = .ok (.getfield 46, 3) := by decide +kernel
theorem dX11_putRowOn_32 : decode cX11_putRowOn 32 = .ok (.iload_n 2, 1) := by decide +kernel
theorem dX11_putRowOn_33 : decode cX11_putRowOn 33 = .ok (.iaload, 1) := by decide +kernel
theorem dX11_putRowOn_34 : decode cX11_putRowOn 34 = .ok (.invokevirtual 336, 3) := by decide +kernel
theorem dX11_putRowOn_37 : decode cX11_putRowOn 37 = .ok (.ireturn, 1) := by decide +kernel
theorem dX11_putOn_0 : decode cX11_putOn 0 = .ok (.aload_n 0, 1) := by decide +kernel
theorem dX11_putOn_1 : decode cX11_putOn 1 = .ok (.getfield 49, 3) := by decide +kernel
theorem dX11_putOn_4 : decode cX11_putOn 4 = .ok (.iload_n 1, 1) := by decide +kernel
theorem dX11_putOn_5 : decode cX11_putOn 5 = .ok (.iload_n 2, 1) := by decide +kernel
theorem dX11_putOn_6 : decode cX11_putOn 6 = .ok (.iastore, 1) := by decide +kernel
theorem dX11_putOn_7 : decode cX11_putOn 7 = .ok (.aload_n 0, 1) := by decide +kernel
theorem dX11_putOn_8 : decode cX11_putOn 8 = .ok (.getfield 52, 3) := by decide +kernel
theorem dX11_putOn_11 : decode cX11_putOn 11 = .ok (.iload_n 1, 1) := by decide +kernel
theorem dX11_putOn_12 : decode cX11_putOn 12 = .ok (.iload_n 3, 1) := by decide +kernel
theorem dX11_putOn_13 : decode cX11_putOn 13 = .ok (.iastore, 1) := by decide +kernel
theorem dX11_putOn_14 : decode cX11_putOn 14 = .ok (.aload_n 0, 1) := by decide +kernel
theorem dX11_putOn_15 : decode cX11_putOn 15 = .ok (.getfield 55, 3) := by decide +kernel
theorem dX11_putOn_18 : decode cX11_putOn 18 = .ok (.iload_n 1, 1) := by decide +kernel
theorem dX11_putOn_19 : decode cX11_putOn 19 = .ok (.iload 4, 2) := by decide +kernel
theorem dX11_putOn_21 : decode cX11_putOn 21 = .ok (.iastore, 1) := by decide +kernel
theorem dX11_putOn_22 : decode cX11_putOn 22 = .ok (.iconst 1, 1) := by decide +kernel
theorem dX11_putOn_23 : decode cX11_putOn 23 = .ok (.ireturn, 1) := by decide +kernel
theorem dX11_taken_0 : decode cX11_taken 0 = .ok (.iload_n 2, 1) := by decide +kernel
theorem dX11_taken_1 : decode cX11_taken 1 = .ok (.bipush 10, 2) := by decide +kernel
theorem dX11_taken_3 : decode cX11_taken 3 = .ok (.bipush 14, 2) := by decide +kernel
theorem dX11_taken_5 : decode cX11_taken 5 = .ok (.invokestatic 114, 3) := by decide +kernel
theorem dX11_taken_8 : decode cX11_taken 8 = .ok (.istore_n 3, 1) := by decide +kernel
theorem dX11_taken_9 : decode cX11_taken 9 = .ok (.iload_n 1, 1) := by decide +kernel
theorem dX11_taken_10 : decode cX11_taken 10 = .ok (.invokestatic 333, 3) := by decide +kernel
theorem dX11_taken_13 : decode cX11_taken 13 = .ok (.ifCond .eq 16, 3) := by decide +kernel
theorem dX11_taken_16 : decode cX11_taken 16 = .ok (.iload_n 3, 1) := by decide +kernel
theorem dX11_taken_17 : decode cX11_taken 17 = .ok (.ifCond .ne 14, 3) := by decide +kernel
theorem dX11_taken_20 : decode cX11_taken 20 = .ok (.iload_n 2, 1) := by decide +kernel
theorem dX11_taken_21 : decode cX11_taken 21 = .ok (.iconst 0, 1) := by decide +kernel
theorem dX11_taken_22 : decode cX11_taken 22 = .ok (.iconst 5, 1) := by decide +kernel
theorem dX11_taken_23 : decode cX11_taken 23 = .ok (.invokestatic 114, 3) := by decide +kernel
theorem dX11_taken_26 : decode cX11_taken 26 = .ok (.ifCond .ne 5, 3) := by decide +kernel
theorem dX11_taken_29 : decode cX11_taken 29 = .ok (.iconst (-1), 1) := by decide +kernel
theorem dX11_taken_30 : decode cX11_taken 30 = .ok (.ireturn, 1) := by decide +kernel
theorem dX11_taken_31 : decode cX11_taken 31 = .ok (.aload_n 0, 1) := by decide +kernel
theorem dX11_taken_32 : decode cX11_taken 32 = .ok (.iload_n 1, 1) := by decide +kernel
theorem dX11_taken_33 : decode cX11_taken 33 = .ok (.invokevirtual 342, 3) := by decide +kernel
theorem dX11_taken_36 : decode cX11_taken 36 = .ok (.ifCond .eq 40, 3) := by decide +kernel
theorem dX11_taken_39 : decode cX11_taken 39 = .ok (.aload_n 0, 1) := by decide +kernel
theorem dX11_taken_40 : decode cX11_taken 40 = .ok (.getfield 52, 3) := by decide +kernel
theorem dX11_taken_43 : decode cX11_taken 43 = .ok (.iload_n 1, 1) := by decide +kernel
theorem dX11_taken_44 : decode cX11_taken 44 = .ok (.iaload, 1) := by decide +kernel
theorem dX11_taken_45 : decode cX11_taken 45 = .ok (.istore 4, 2) := by decide +kernel
theorem dX11_taken_47 : decode cX11_taken 47 = .ok (.iload_n 3, 1) := by decide +kernel
theorem dX11_taken_48 : decode cX11_taken 48 = .ok (.ifCond .ne 25, 3) := by decide +kernel
theorem dX11_taken_51 : decode cX11_taken 51 = .ok (.aload_n 0, 1) := by decide +kernel
theorem dX11_taken_52 : decode cX11_taken 52 = .ok (.getfield 92, 3) := by decide +kernel
theorem dX11_taken_55 : decode cX11_taken 55 = .ok (.getfield 132, 3) := by decide +kernel
theorem dX11_taken_58 : decode cX11_taken 58 = .ok (.iload 4, 2) := by decide +kernel
theorem dX11_taken_60 : decode cX11_taken 60 = .ok (.iaload, 1) := by decide +kernel
theorem dX11_taken_61 : decode cX11_taken 61 = .ok (.iload_n 2, 1) := by decide +kernel
theorem dX11_taken_62 : decode cX11_taken 62 = .ok (.invokestatic 345, 3) := by decide +kernel
theorem dX11_taken_65 : decode cX11_taken 65 = .ok (.ifCond .eq 8, 3) := by decide +kernel
theorem dX11_taken_68 : decode cX11_taken 68 = .ok (.iload 4, 2) := by decide +kernel
theorem dX11_taken_70 : decode cX11_taken 70 = .ok (.goto 5, 3) := by decide +kernel
theorem dX11_taken_73 : decode cX11_taken 73 = .ok (.bipush (-13), 2) := by decide +kernel
theorem dX11_taken_75 : decode cX11_taken 75 = .ok (.ireturn, 1) := by decide +kernel
theorem dX11_taken_76 : decode cX11_taken 76 = .ok (.aload_n 0, 1) := by decide +kernel
theorem dX11_taken_77 : decode cX11_taken 77 = .ok (.getfield 49, 3) := by decide +kernel
theorem dX11_taken_80 : decode cX11_taken 80 = .ok (.iload_n 1, 1) := by decide +kernel
theorem dX11_taken_81 : decode cX11_taken 81 = .ok (.iaload, 1) := by decide +kernel
theorem dX11_taken_82 : decode cX11_taken 82 = .ok (.iconst 1, 1) := by decide +kernel
theorem dX11_taken_83 : decode cX11_taken 83 = .ok (.if_icmp .ne 28, 3) := by decide +kernel
theorem dX11_taken_86 : decode cX11_taken 86 = .ok (.aload_n 0, 1) := by decide +kernel
theorem dX11_taken_87 : decode cX11_taken 87 = .ok (.getfield 52, 3) := by decide +kernel
theorem dX11_taken_90 : decode cX11_taken 90 = .ok (.iload_n 1, 1) := by decide +kernel
theorem dX11_taken_91 : decode cX11_taken 91 = .ok (.iaload, 1) := by decide +kernel
theorem dX11_taken_92 : decode cX11_taken 92 = .ok (.iload_n 2, 1) := by decide +kernel
theorem dX11_taken_93 : decode cX11_taken 93 = .ok (.bipush 10, 2) := by decide +kernel
theorem dX11_taken_95 : decode cX11_taken 95 = .ok (.isub, 1) := by decide +kernel
theorem dX11_taken_96 : decode cX11_taken 96 = .ok (.if_icmp .ne 12, 3) := by decide +kernel
theorem dX11_taken_99 : decode cX11_taken 99 = .ok (.aload_n 0, 1) := by decide +kernel
theorem dX11_taken_100 : decode cX11_taken 100 = .ok (.getfield 55, 3) := by decide +kernel
theorem dX11_taken_103 : decode cX11_taken 103 = .ok (.iload_n 1, 1) := by decide +kernel
theorem dX11_taken_104 : decode cX11_taken 104 = .ok (.iaload, 1) := by decide +kernel
theorem dX11_taken_105 : decode cX11_taken 105 = .ok (.goto 5, 3) := by decide +kernel
theorem dX11_taken_108 : decode cX11_taken 108 = .ok (.bipush (-13), 2) := by decide +kernel
theorem dX11_taken_110 : decode cX11_taken 110 = .ok (.ireturn, 1) := by decide +kernel
theorem dX11_taken_111 : decode cX11_taken 111 = .ok (.bipush (-11), 2) := by decide +kernel
theorem dX11_taken_113 : decode cX11_taken 113 = .ok (.ireturn, 1) := by decide +kernel
theorem dX11_holdsKite_0 : decode cX11_holdsKite 0 = .ok (.aload_n 0, 1) := by decide +kernel
theorem dX11_holdsKite_1 : decode cX11_holdsKite 1 = .ok (.getfield 49, 3) := by decide +kernel
theorem dX11_holdsKite_4 : decode cX11_holdsKite 4 = .ok (.iload_n 1, 1) := by decide +kernel
theorem dX11_holdsKite_5 : decode cX11_holdsKite 5 = .ok (.iaload, 1) := by decide +kernel
theorem dX11_holdsKite_6 : decode cX11_holdsKite 6 = .ok (.ifCond .ne 20, 3) := by decide +kernel
theorem dX11_holdsKite_9 : decode cX11_holdsKite 9 = .ok (.aload_n 0, 1) := by decide +kernel
theorem dX11_holdsKite_10 : decode cX11_holdsKite 10 = .ok (.aload_n 0, 1) := by decide +kernel
theorem dX11_holdsKite_11 : decode cX11_holdsKite 11 = .ok (.getfield 52, 3) := by decide +kernel
theorem dX11_holdsKite_14 : decode cX11_holdsKite 14 = .ok (.iload_n 1, 1) := by decide +kernel
theorem dX11_holdsKite_15 : decode cX11_holdsKite 15 = .ok (.iaload, 1) := by decide +kernel
theorem dX11_holdsKite_16 : decode cX11_holdsKite 16 = .ok (.invokevirtual 125, 3) := by decide +kernel
theorem dX11_holdsKite_19 : decode cX11_holdsKite 19 = .ok (.ifCond .eq 7, 3) := by decide +kernel
theorem dX11_holdsKite_22 : decode cX11_holdsKite 22 = .ok (.iconst 1, 1) := by decide +kernel
theorem dX11_holdsKite_23 : decode cX11_holdsKite 23 = .ok (.goto 4, 3) := by decide +kernel
theorem dX11_holdsKite_26 : decode cX11_holdsKite 26 = .ok (.iconst 0, 1) := by decide +kernel
theorem dX11_holdsKite_27 : decode cX11_holdsKite 27 = .ok (.ireturn, 1) := by decide +kernel
theorem dX11_act_0 : decode cX11_act 0 = .ok (.aload_n 0, 1) := by decide +kernel
theorem dX11_act_1 : decode cX11_act 1 = .ok (.iconst 0, 1) := by decide +kernel
theorem dX11_act_2 : decode cX11_act 2 = .ok (.putfield 66, 3) := by decide +kernel
theorem dX11_act_5 : decode cX11_act 5 = .ok (.iload_n 1, 1) := by decide +kernel
theorem dX11_act_6 : decode cX11_act 6 = .ok (.invokestatic 333, 3) := by decide +kernel
theorem dX11_act_9 : decode cX11_act 9 = .ok (.ifCond .eq 20, 3) := by decide +kernel
theorem dX11_act_12 : decode cX11_act 12 = .ok (.iload_n 2, 1) := by decide +kernel
theorem dX11_act_13 : decode cX11_act 13 = .ok (.iconst 0, 1) := by decide +kernel
theorem dX11_act_14 : decode cX11_act 14 = .ok (.iconst 3, 1) := by decide +kernel
theorem dX11_act_15 : decode cX11_act 15 = .ok (.invokestatic 114, 3) := by decide +kernel
theorem dX11_act_18 : decode cX11_act 18 = .ok (.ifCond .eq 11, 3) := by decide +kernel
theorem dX11_act_21 : decode cX11_act 21 = .ok (.aload_n 0, 1) := by decide +kernel
theorem dX11_act_22 : decode cX11_act 22 = .ok (.iload_n 1, 1) := by decide +kernel
theorem dX11_act_23 : decode cX11_act 23 = .ok (.invokevirtual 342, 3) := by decide +kernel
theorem dX11_act_26 : decode cX11_act 26 = .ok (.ifCond .ne 5, 3) := by decide +kernel
theorem dX11_act_29 : decode cX11_act 29 = .ok (.iconst 0, 1) := by decide +kernel
theorem dX11_act_30 : decode cX11_act 30 = .ok (.ireturn, 1) := by decide +kernel
theorem dX11_act_31 : decode cX11_act 31 = .ok (.aload_n 0, 1) := by decide +kernel
theorem dX11_act_32 : decode cX11_act 32 = .ok (.getfield 52, 3) := by decide +kernel
theorem dX11_act_35 : decode cX11_act 35 = .ok (.iload_n 1, 1) := by decide +kernel
theorem dX11_act_36 : decode cX11_act 36 = .ok (.iaload, 1) := by decide +kernel
theorem dX11_act_37 : decode cX11_act 37 = .ok (.istore 4, 2) := by decide +kernel
theorem dX11_act_39 : decode cX11_act 39 = .ok (.aload_n 0, 1) := by decide +kernel
theorem dX11_act_40 : decode cX11_act 40 = .ok (.getfield 15, 3) := by decide +kernel
theorem dX11_act_43 : decode cX11_act 43 = .ok (.aload_n 0, 1) := by decide +kernel
theorem dX11_act_44 : decode cX11_act 44 = .ok (.getfield 92, 3) := by decide +kernel
theorem dX11_act_47 : decode cX11_act 47 = .ok (.getfield 132, 3) := by decide +kernel
theorem dX11_act_50 : decode cX11_act 50 = .ok (.iload 4, 2) := by decide +kernel
theorem dX11_act_52 : decode cX11_act 52 = .ok (.iaload, 1) := by decide +kernel
theorem dX11_act_53 : decode cX11_act 53 = .ok (.aaload, 1) := by decide +kernel
theorem dX11_act_54 : decode cX11_act 54 = .ok (.astore 5, 2) := by decide +kernel
theorem dX11_act_56 : decode cX11_act 56 = .ok (.aload 5, 2) := by decide +kernel
theorem dX11_act_58 : decode cX11_act 58 = .ok (.iload 4, 2) := by decide +kernel
theorem dX11_act_60 : decode cX11_act 60 = .ok (.aload_n 0, 1) := by decide +kernel
theorem dX11_act_61 : decode cX11_act 61 = .ok (.getfield 92, 3) := by decide +kernel
theorem dX11_act_64 : decode cX11_act 64 = .ok (.getfield 141, 3) := by decide +kernel
theorem dX11_act_67 : decode cX11_act 67 = .ok (.iload 4, 2) := by decide +kernel
theorem dX11_act_69 : decode cX11_act 69 = .ok (.iaload, 1) := by decide +kernel
theorem dX11_act_70 : decode cX11_act 70 = .ok (.invokevirtual 348, 3) := by decide +kernel
theorem dX11_act_73 : decode cX11_act 73 = .ok (.iload_n 2, 1) := by decide +kernel
theorem dX11_act_74 : decode cX11_act 74 = .ok (.tableswitch 59 0 2 #[26, 37, 48], 26) := by decide +kernel
theorem dX11_act_100 : decode cX11_act 100 = .ok (.aload 5, 2) := by decide +kernel
theorem dX11_act_102 : decode cX11_act 102 = .ok (.iload_n 3, 1) := by decide +kernel
theorem dX11_act_103 : decode cX11_act 103 = .ok (.invokevirtual 351, 3) := by decide +kernel
theorem dX11_act_106 : decode cX11_act 106 = .ok (.istore 6, 2) := by decide +kernel
theorem dX11_act_108 : decode cX11_act 108 = .ok (.goto 33, 3) := by decide +kernel
theorem dX11_act_111 : decode cX11_act 111 = .ok (.aload 5, 2) := by decide +kernel
theorem dX11_act_113 : decode cX11_act 113 = .ok (.iload_n 3, 1) := by decide +kernel
theorem dX11_act_114 : decode cX11_act 114 = .ok (.invokevirtual 354, 3) := by decide +kernel
theorem dX11_act_117 : decode cX11_act 117 = .ok (.istore 6, 2) := by decide +kernel
theorem dX11_act_119 : decode cX11_act 119 = .ok (.goto 22, 3) := by decide +kernel
theorem dX11_act_122 : decode cX11_act 122 = .ok (.aload 5, 2) := by decide +kernel
theorem dX11_act_124 : decode cX11_act 124 = .ok (.iload_n 3, 1) := by decide +kernel
theorem dX11_act_125 : decode cX11_act 125 = .ok (.invokevirtual 357, 3) := by decide +kernel
theorem dX11_act_128 : decode cX11_act 128 = .ok (.istore 6, 2) := by decide +kernel
theorem dX11_act_130 : decode cX11_act 130 = .ok (.goto 11, 3) := by decide +kernel
theorem dX11_act_133 : decode cX11_act 133 = .ok (.aload 5, 2) := by decide +kernel
theorem dX11_act_135 : decode cX11_act 135 = .ok (.iload_n 3, 1) := by decide +kernel
theorem dX11_act_136 : decode cX11_act 136 = .ok (.invokevirtual 360, 3) := by decide +kernel
theorem dX11_act_139 : decode cX11_act 139 = .ok (.istore 6, 2) := by decide +kernel
theorem dX11_act_141 : decode cX11_act 141 = .ok (.aload_n 0, 1) := by decide +kernel
theorem dX11_act_142 : decode cX11_act 142 = .ok (.aload 5, 2) := by decide +kernel
theorem dX11_act_144 : decode cX11_act 144 = .ok (.getfield 363, 3) := by decide +kernel
theorem dX11_act_147 : decode cX11_act 147 = .ok (.putfield 66, 3) := by decide +kernel
theorem dX11_act_150 : decode cX11_act 150 = .ok (.aload 5, 2) := by decide +kernel
theorem dX11_act_152 : decode cX11_act 152 = .ok (.getfield 366, 3) := by decide +kernel
theorem dX11_act_155 : decode cX11_act 155 = .ok (.ifCond .eq 8, 3) := by decide +kernel
theorem dX11_act_158 : decode cX11_act 158 = .ok (.bipush (-15), 2) := by decide +kernel
theorem dX11_act_160 : decode cX11_act 160 = .ok (.goto 5, 3) := by decide +kernel
theorem dX11_act_163 : decode cX11_act 163 = .ok (.iload 6, 2) := by decide +kernel
theorem dX11_act_165 : decode cX11_act 165 = .ok (.ireturn, 1) := by decide +kernel
theorem dX11_trace_0 : decode cX11_trace 0 = .ok (.iload_n 1, 1) := by decide +kernel
theorem dX11_trace_1 : decode cX11_trace 1 = .ok (.iconst 0, 1) := by decide +kernel
theorem dX11_trace_2 : decode cX11_trace 2 = .ok (.aload_n 0, 1) := by decide +kernel
theorem dX11_trace_3 : decode cX11_trace 3 = .ok (.getfield 66, 3) := by decide +kernel
theorem dX11_trace_6 : decode cX11_trace 6 = .ok (.iconst 1, 1) := by decide +kernel
theorem dX11_trace_7 : decode cX11_trace 7 = .ok (.isub, 1) := by decide +kernel
theorem dX11_trace_8 : decode cX11_trace 8 = .ok (.invokestatic 114, 3) := by decide +kernel
theorem dX11_trace_11 : decode cX11_trace 11 = .ok (.ifCond .eq 12, 3) := by decide +kernel
theorem dX11_trace_14 : decode cX11_trace 14 = .ok (.aload_n 0, 1) := by decide +kernel
theorem dX11_trace_15 : decode cX11_trace 15 = .ok (.getfield 9, 3) := by decide +kernel
theorem dX11_trace_18 : decode cX11_trace 18 = .ok (.iload_n 1, 1) := by decide +kernel
theorem dX11_trace_19 : decode cX11_trace 19 = .ok (.iaload, 1) := by decide +kernel
theorem dX11_trace_20 : decode cX11_trace 20 = .ok (.goto 5, 3) := by decide +kernel
theorem dX11_trace_23 : decode cX11_trace 23 = .ok (.bipush (-3), 2) := by decide +kernel
theorem dX11_trace_25 : decode cX11_trace 25 = .ok (.ireturn, 1) := by decide +kernel
theorem dX11_many_0 : decode cX11_many 0 = .ok (.iload_n 1, 1) := by decide +kernel
theorem dX11_many_1 : decode cX11_many 1 = .ok (.tableswitch 102 0 6 #[43, 51, 62, 76, 84, 89, 97], 43) := by decide +kernel
theorem dX11_many_44 : decode cX11_many 44 = .ok (.aload_n 0, 1) := by decide +kernel
theorem dX11_many_45 : decode cX11_many 45 = .ok (.getfield 92, 3) := by decide +kernel
theorem dX11_many_48 : decode cX11_many 48 = .ok (.getfield 118, 3) := by decide +kernel
theorem dX11_many_51 : decode cX11_many 51 = .ok (.ireturn, 1) := by decide +kernel
theorem dX11_many_52 : decode cX11_many 52 = .ok (.aload_n 0, 1) := by decide +kernel
theorem dX11_many_53 : decode cX11_many 53 = .ok (.getfield 92, 3) := by decide +kernel
theorem dX11_many_56 : decode cX11_many 56 = .ok (.getfield 218, 3) := by decide +kernel
theorem dX11_many_59 : decode cX11_many 59 = .ok (.getfield 369, 3) := by decide +kernel
theorem dX11_many_62 : decode cX11_many 62 = .ok (.ireturn, 1) := by decide +kernel
theorem dX11_many_63 : decode cX11_many 63 = .ok (.aload_n 0, 1) := by decide +kernel
theorem dX11_many_64 : decode cX11_many 64 = .ok (.getfield 92, 3) := by decide +kernel
theorem dX11_many_67 : decode cX11_many 67 = .ok (.getfield 129, 3) := by decide +kernel
theorem dX11_many_70 : decode cX11_many 70 = .ok (.getfield 151, 3) := by decide +kernel
theorem dX11_many_73 : decode cX11_many 73 = .ok (.invokestatic 374, 3) := by decide +kernel
theorem dX11_many_76 : decode cX11_many 76 = .ok (.ireturn, 1) := by decide +kernel
theorem dX11_many_77 : decode cX11_many 77 = .ok (.aload_n 0, 1) := by decide +kernel
theorem dX11_many_78 : decode cX11_many 78 = .ok (.getfield 92, 3) := by decide +kernel
theorem dX11_many_81 : decode cX11_many 81 = .ok (.getfield 291, 3) := by decide +kernel
theorem dX11_many_84 : decode cX11_many 84 = .ok (.ireturn, 1) := by decide +kernel
theorem dX11_many_85 : decode cX11_many 85 = .ok (.aload_n 0, 1) := by decide +kernel
theorem dX11_many_86 : decode cX11_many 86 = .ok (.getfield 62, 3) := by decide +kernel
theorem dX11_many_89 : decode cX11_many 89 = .ok (.ireturn, 1) := by decide +kernel
theorem dX11_many_90 : decode cX11_many 90 = .ok (.aload_n 0, 1) := by decide +kernel
theorem dX11_many_91 : decode cX11_many 91 = .ok (.getfield 22, 3) := by decide +kernel
theorem dX11_many_94 : decode cX11_many 94 = .ok (.getfield 211, 3) := by decide +kernel
theorem dX11_many_97 : decode cX11_many 97 = .ok (.ireturn, 1) := by decide +kernel
theorem dX11_many_98 : decode cX11_many 98 = .ok (.aload_n 0, 1) := by decide +kernel
theorem dX11_many_99 : decode cX11_many 99 = .ok (.getfield 66, 3) := by decide +kernel
theorem dX11_many_102 : decode cX11_many 102 = .ok (.ireturn, 1) := by decide +kernel
theorem dX11_many_103 : decode cX11_many 103 = .ok (.iconst (-1), 1) := by decide +kernel
theorem dX11_many_104 : decode cX11_many 104 = .ok (.ireturn, 1) := by decide +kernel
theorem dX11_keep_0 : decode cX11_keep 0 = .ok (.aload_n 0, 1) := by decide +kernel
theorem dX11_keep_1 : decode cX11_keep 1 = .ok (.getfield 96, 3) := by decide +kernel
theorem dX11_keep_4 : decode cX11_keep 4 = .ok (.aload_n 0, 1) := by decide +kernel
theorem dX11_keep_5 : decode cX11_keep 5 = .ok (.getfield 92, 3) := by decide +kernel
theorem dX11_keep_8 : decode cX11_keep 8 = .ok (.invokevirtual 379, 3) := by decide +kernel
theorem dX11_keep_11 : decode cX11_keep 11 = .ok (.aload_n 0, 1) := by decide +kernel
theorem dX11_keep_12 : decode cX11_keep 12 = .ok (.iconst 1, 1) := by decide +kernel
theorem dX11_keep_13 : decode cX11_keep 13 = .ok (.putfield 58, 3) := by decide +kernel
theorem dX11_keep_16 : decode cX11_keep 16 = .ok (.iconst 1, 1) := by decide +kernel
theorem dX11_keep_17 : decode cX11_keep 17 = .ok (.ireturn, 1) := by decide +kernel
theorem dX11_again_0 : decode cX11_again 0 = .ok (.aload_n 0, 1) := by decide +kernel
theorem dX11_again_1 : decode cX11_again 1 = .ok (.getfield 58, 3) := by decide +kernel
theorem dX11_again_4 : decode cX11_again 4 = .ok (.ifCond .ne 6, 3) := by decide +kernel
theorem dX11_again_7 : decode cX11_again 7 = .ok (.bipush (-3), 2) := by decide +kernel
theorem dX11_again_9 : decode cX11_again 9 = .ok (.ireturn, 1) := by decide +kernel
theorem dX11_again_10 : decode cX11_again 10 = .ok (.aload_n 0, 1) := by decide +kernel
theorem dX11_again_11 : decode cX11_again 11 = .ok (.getfield 92, 3) := by decide +kernel
theorem dX11_again_14 : decode cX11_again 14 = .ok (.aload_n 0, 1) := by decide +kernel
theorem dX11_again_15 : decode cX11_again 15 = .ok (.getfield 96, 3) := by decide +kernel
theorem dX11_again_18 : decode cX11_again 18 = .ok (.invokevirtual 379, 3) := by decide +kernel
theorem dX11_again_21 : decode cX11_again 21 = .ok (.aload_n 0, 1) := by decide +kernel
theorem dX11_again_22 : decode cX11_again 22 = .ok (.getfield 92, 3) := by decide +kernel
theorem dX11_again_25 : decode cX11_again 25 = .ok (.getfield 118, 3) := by decide +kernel
theorem dX11_again_28 : decode cX11_again 28 = .ok (.ireturn, 1) := by decide +kernel
theorem dX11_isKite_0 : decode cX11_isKite 0 = .ok (.iload_n 1, 1) := by decide +kernel
theorem dX11_isKite_1 : decode cX11_isKite 1 = .ok (.iconst 0, 1) := by decide +kernel
theorem dX11_isKite_2 : decode cX11_isKite 2 = .ok (.aload_n 0, 1) := by decide +kernel
theorem dX11_isKite_3 : decode cX11_isKite 3 = .ok (.getfield 92, 3) := by decide +kernel
theorem dX11_isKite_6 : decode cX11_isKite 6 = .ok (.getfield 118, 3) := by decide +kernel
theorem dX11_isKite_9 : decode cX11_isKite 9 = .ok (.iconst 1, 1) := by decide +kernel
theorem dX11_isKite_10 : decode cX11_isKite 10 = .ok (.isub, 1) := by decide +kernel
theorem dX11_isKite_11 : decode cX11_isKite 11 = .ok (.invokestatic 114, 3) := by decide +kernel
theorem dX11_isKite_14 : decode cX11_isKite 14 = .ok (.ireturn, 1) := by decide +kernel
theorem dX11_isPlanLength_0 : decode cX11_isPlanLength 0 = .ok (.iload_n 0, 1) := by decide +kernel
theorem dX11_isPlanLength_1 : decode cX11_isPlanLength 1 = .ok (.iconst 0, 1) := by decide +kernel
theorem dX11_isPlanLength_2 : decode cX11_isPlanLength 2 = .ok (.iconst 4, 1) := by decide +kernel
theorem dX11_isPlanLength_3 : decode cX11_isPlanLength 3 = .ok (.invokestatic 114, 3) := by decide +kernel
theorem dX11_isPlanLength_6 : decode cX11_isPlanLength 6 = .ok (.ireturn, 1) := by decide +kernel
theorem dX11_isSheet_0 : decode cX11_isSheet 0 = .ok (.iload_n 0, 1) := by decide +kernel
theorem dX11_isSheet_1 : decode cX11_isSheet 1 = .ok (.iconst 0, 1) := by decide +kernel
theorem dX11_isSheet_2 : decode cX11_isSheet 2 = .ok (.iconst 3, 1) := by decide +kernel
theorem dX11_isSheet_3 : decode cX11_isSheet 3 = .ok (.invokestatic 114, 3) := by decide +kernel
theorem dX11_isSheet_6 : decode cX11_isSheet 6 = .ok (.ireturn, 1) := by decide +kernel
theorem dX11_isShelf_0 : decode cX11_isShelf 0 = .ok (.iload_n 0, 1) := by decide +kernel
theorem dX11_isShelf_1 : decode cX11_isShelf 1 = .ok (.iconst 0, 1) := by decide +kernel
theorem dX11_isShelf_2 : decode cX11_isShelf 2 = .ok (.iconst 3, 1) := by decide +kernel
theorem dX11_isShelf_3 : decode cX11_isShelf 3 = .ok (.invokestatic 114, 3) := by decide +kernel
theorem dX11_isShelf_6 : decode cX11_isShelf 6 = .ok (.ireturn, 1) := by decide +kernel
theorem dX11_within_0 : decode cX11_within 0 = .ok (.iload_n 0, 1) := by decide +kernel
theorem dX11_within_1 : decode cX11_within 1 = .ok (.iload_n 1, 1) := by decide +kernel
theorem dX11_within_2 : decode cX11_within 2 = .ok (.if_icmp .lt 12, 3) := by decide +kernel
theorem dX11_within_5 : decode cX11_within 5 = .ok (.iload_n 0, 1) := by decide +kernel
theorem dX11_within_6 : decode cX11_within 6 = .ok (.iload_n 2, 1) := by decide +kernel
theorem dX11_within_7 : decode cX11_within 7 = .ok (.if_icmp .gt 7, 3) := by decide +kernel
theorem dX11_within_10 : decode cX11_within 10 = .ok (.iconst 1, 1) := by decide +kernel
theorem dX11_within_11 : decode cX11_within 11 = .ok (.goto 4, 3) := by decide +kernel
theorem dX11_within_14 : decode cX11_within 14 = .ok (.iconst 0, 1) := by decide +kernel
theorem dX11_within_15 : decode cX11_within 15 = .ok (.ireturn, 1) := by decide +kernel
theorem dX11_isIn_0 : decode cX11_isIn 0 = .ok (.iload_n 0, 1) := by decide +kernel
theorem dX11_isIn_1 : decode cX11_isIn 1 = .ok (.iload_n 1, 1) := by decide +kernel
theorem dX11_isIn_2 : decode cX11_isIn 2 = .ok (.ishr, 1) := by decide +kernel
theorem dX11_isIn_3 : decode cX11_isIn 3 = .ok (.iconst 1, 1) := by decide +kernel
theorem dX11_isIn_4 : decode cX11_isIn 4 = .ok (.iand, 1) := by decide +kernel
theorem dX11_isIn_5 : decode cX11_isIn 5 = .ok (.iconst 1, 1) := by decide +kernel
theorem dX11_isIn_6 : decode cX11_isIn 6 = .ok (.if_icmp .ne 7, 3) := by decide +kernel
theorem dX11_isIn_9 : decode cX11_isIn 9 = .ok (.iconst 1, 1) := by decide +kernel
theorem dX11_isIn_10 : decode cX11_isIn 10 = .ok (.goto 4, 3) := by decide +kernel
theorem dX11_isIn_13 : decode cX11_isIn 13 = .ok (.iconst 0, 1) := by decide +kernel
theorem dX11_isIn_14 : decode cX11_isIn 14 = .ok (.ireturn, 1) := by decide +kernel
theorem dX11_withBit_0 : decode cX11_withBit 0 = .ok (.iload_n 2, 1) := by decide +kernel
theorem dX11_withBit_1 : decode cX11_withBit 1 = .ok (.iconst 1, 1) := by decide +kernel
theorem dX11_withBit_2 : decode cX11_withBit 2 = .ok (.if_icmp .ne 11, 3) := by decide +kernel
theorem dX11_withBit_5 : decode cX11_withBit 5 = .ok (.iload_n 0, 1) := by decide +kernel
theorem dX11_withBit_6 : decode cX11_withBit 6 = .ok (.iconst 1, 1) := by decide +kernel
theorem dX11_withBit_7 : decode cX11_withBit 7 = .ok (.iload_n 1, 1) := by decide +kernel
theorem dX11_withBit_8 : decode cX11_withBit 8 = .ok (.ishl, 1) := by decide +kernel
theorem dX11_withBit_9 : decode cX11_withBit 9 = .ok (.ior, 1) := by decide +kernel
theorem dX11_withBit_10 : decode cX11_withBit 10 = .ok (.goto 10, 3) := by decide +kernel
theorem dX11_withBit_13 : decode cX11_withBit 13 = .ok (.iload_n 0, 1) := by decide +kernel
theorem dX11_withBit_14 : decode cX11_withBit 14 = .ok (.iconst 1, 1) := by decide +kernel
theorem dX11_withBit_15 : decode cX11_withBit 15 = .ok (.iload_n 1, 1) := by decide +kernel
theorem dX11_withBit_16 : decode cX11_withBit 16 = .ok (.ishl, 1) := by decide +kernel
theorem dX11_withBit_17 : decode cX11_withBit 17 = .ok (.iconst (-1), 1) := by decide +kernel
theorem dX11_withBit_18 : decode cX11_withBit 18 = .ok (.ixor, 1) := by decide +kernel
theorem dX11_withBit_19 : decode cX11_withBit 19 = .ok (.iand, 1) := by decide +kernel
theorem dX11_withBit_20 : decode cX11_withBit 20 = .ok (.ireturn, 1) := by decide +kernel
theorem dX11_isOrUnder_0 : decode cX11_isOrUnder 0 = .ok (.iload_n 1, 1) := by decide +kernel
theorem dX11_isOrUnder_1 : decode cX11_isOrUnder 1 = .ok (.iload_n 0, 1) := by decide +kernel
theorem dX11_isOrUnder_2 : decode cX11_isOrUnder 2 = .ok (.if_icmp .eq 27, 3) := by decide +kernel
theorem dX11_isOrUnder_5 : decode cX11_isOrUnder 5 = .ok (.iload_n 1, 1) := by decide +kernel
theorem dX11_isOrUnder_6 : decode cX11_isOrUnder 6 = .ok (.ifCond .eq 23, 3) := by decide +kernel
theorem dX11_isOrUnder_9 : decode cX11_isOrUnder 9 = .ok (.iload_n 0, 1) := by decide +kernel
theorem dX11_isOrUnder_10 : decode cX11_isOrUnder 10 = .ok (.iconst 3, 1) := by decide +kernel
theorem dX11_isOrUnder_11 : decode cX11_isOrUnder 11 = .ok (.if_icmp .ne 8, 3) := by decide +kernel
theorem dX11_isOrUnder_14 : decode cX11_isOrUnder 14 = .ok (.iload_n 1, 1) := by decide +kernel
theorem dX11_isOrUnder_15 : decode cX11_isOrUnder 15 = .ok (.iconst 2, 1) := by decide +kernel
theorem dX11_isOrUnder_16 : decode cX11_isOrUnder 16 = .ok (.if_icmp .eq 13, 3) := by decide +kernel
theorem dX11_isOrUnder_19 : decode cX11_isOrUnder 19 = .ok (.iload_n 0, 1) := by decide +kernel
theorem dX11_isOrUnder_20 : decode cX11_isOrUnder 20 = .ok (.iconst 5, 1) := by decide +kernel
theorem dX11_isOrUnder_21 : decode cX11_isOrUnder 21 = .ok (.if_icmp .ne 12, 3) := by decide +kernel
theorem dX11_isOrUnder_24 : decode cX11_isOrUnder 24 = .ok (.iload_n 1, 1) := by decide +kernel
theorem dX11_isOrUnder_25 : decode cX11_isOrUnder 25 = .ok (.iconst 4, 1) := by decide +kernel
theorem dX11_isOrUnder_26 : decode cX11_isOrUnder 26 = .ok (.if_icmp .ne 7, 3) := by decide +kernel
theorem dX11_isOrUnder_29 : decode cX11_isOrUnder 29 = .ok (.iconst 1, 1) := by decide +kernel
theorem dX11_isOrUnder_30 : decode cX11_isOrUnder 30 = .ok (.goto 4, 3) := by decide +kernel
theorem dX11_isOrUnder_33 : decode cX11_isOrUnder 33 = .ok (.iconst 0, 1) := by decide +kernel
theorem dX11_isOrUnder_34 : decode cX11_isOrUnder 34 = .ok (.ireturn, 1) := by decide +kernel
theorem dX11_far_0 : decode cX11_far 0 = .ok (.iload_n 0, 1) := by decide +kernel
theorem dX11_far_1 : decode cX11_far 1 = .ok (.bipush 7, 2) := by decide +kernel
theorem dX11_far_3 : decode cX11_far 3 = .ok (.iand, 1) := by decide +kernel
theorem dX11_far_4 : decode cX11_far 4 = .ok (.iload_n 1, 1) := by decide +kernel
theorem dX11_far_5 : decode cX11_far 5 = .ok (.bipush 7, 2) := by decide +kernel
theorem dX11_far_7 : decode cX11_far 7 = .ok (.iand, 1) := by decide +kernel
theorem dX11_far_8 : decode cX11_far 8 = .ok (.isub, 1) := by decide +kernel
theorem dX11_far_9 : decode cX11_far 9 = .ok (.invokestatic 381, 3) := by decide +kernel
theorem dX11_far_12 : decode cX11_far 12 = .ok (.iload_n 0, 1) := by decide +kernel
theorem dX11_far_13 : decode cX11_far 13 = .ok (.iconst 3, 1) := by decide +kernel
theorem dX11_far_14 : decode cX11_far 14 = .ok (.ishr, 1) := by decide +kernel
theorem dX11_far_15 : decode cX11_far 15 = .ok (.iload_n 1, 1) := by decide +kernel
theorem dX11_far_16 : decode cX11_far 16 = .ok (.iconst 3, 1) := by decide +kernel
theorem dX11_far_17 : decode cX11_far 17 = .ok (.ishr, 1) := by decide +kernel
theorem dX11_far_18 : decode cX11_far 18 = .ok (.isub, 1) := by decide +kernel
theorem dX11_far_19 : decode cX11_far 19 = .ok (.invokestatic 381, 3) := by decide +kernel
theorem dX11_far_22 : decode cX11_far 22 = .ok (.iadd, 1) := by decide +kernel
theorem dX11_far_23 : decode cX11_far 23 = .ok (.ireturn, 1) := by decide +kernel
theorem dX11_room_0 : decode cX11_room 0 = .ok (.iload_n 1, 1) := by decide +kernel
theorem dX11_room_1 : decode cX11_room 1 = .ok (.tableswitch 47 0 2 #[27, 35, 42], 27) := by decide +kernel
theorem dX11_room_28 : decode cX11_room 28 = .ok (.bipush 7, 2) := by decide +kernel
theorem dX11_room_30 : decode cX11_room 30 = .ok (.iload_n 0, 1) := by decide +kernel
theorem dX11_room_31 : decode cX11_room 31 = .ok (.bipush 7, 2) := by decide +kernel
theorem dX11_room_33 : decode cX11_room 33 = .ok (.iand, 1) := by decide +kernel
theorem dX11_room_34 : decode cX11_room 34 = .ok (.isub, 1) := by decide +kernel
theorem dX11_room_35 : decode cX11_room 35 = .ok (.ireturn, 1) := by decide +kernel
theorem dX11_room_36 : decode cX11_room 36 = .ok (.bipush 7, 2) := by decide +kernel
theorem dX11_room_38 : decode cX11_room 38 = .ok (.iload_n 0, 1) := by decide +kernel
theorem dX11_room_39 : decode cX11_room 39 = .ok (.iconst 3, 1) := by decide +kernel
theorem dX11_room_40 : decode cX11_room 40 = .ok (.ishr, 1) := by decide +kernel
theorem dX11_room_41 : decode cX11_room 41 = .ok (.isub, 1) := by decide +kernel
theorem dX11_room_42 : decode cX11_room 42 = .ok (.ireturn, 1) := by decide +kernel
theorem dX11_room_43 : decode cX11_room 43 = .ok (.iload_n 0, 1) := by decide +kernel
theorem dX11_room_44 : decode cX11_room 44 = .ok (.bipush 7, 2) := by decide +kernel
theorem dX11_room_46 : decode cX11_room 46 = .ok (.iand, 1) := by decide +kernel
theorem dX11_room_47 : decode cX11_room 47 = .ok (.ireturn, 1) := by decide +kernel
theorem dX11_room_48 : decode cX11_room 48 = .ok (.iload_n 0, 1) := by decide +kernel
theorem dX11_room_49 : decode cX11_room 49 = .ok (.iconst 3, 1) := by decide +kernel
theorem dX11_room_50 : decode cX11_room 50 = .ok (.ishr, 1) := by decide +kernel
theorem dX11_room_51 : decode cX11_room 51 = .ok (.ireturn, 1) := by decide +kernel
theorem dX11_step_0 : decode cX11_step 0 = .ok (.iload_n 0, 1) := by decide +kernel
theorem dX11_step_1 : decode cX11_step 1 = .ok (.tableswitch 34 0 2 #[27, 29, 32], 27) := by decide +kernel
theorem dX11_step_28 : decode cX11_step 28 = .ok (.iconst 1, 1) := by decide +kernel
theorem dX11_step_29 : decode cX11_step 29 = .ok (.ireturn, 1) := by decide +kernel
theorem dX11_step_30 : decode cX11_step 30 = .ok (.bipush 8, 2) := by decide +kernel
theorem dX11_step_32 : decode cX11_step 32 = .ok (.ireturn, 1) := by decide +kernel
theorem dX11_step_33 : decode cX11_step 33 = .ok (.iconst (-1), 1) := by decide +kernel
theorem dX11_step_34 : decode cX11_step 34 = .ok (.ireturn, 1) := by decide +kernel
theorem dX11_step_35 : decode cX11_step 35 = .ok (.bipush (-8), 2) := by decide +kernel
theorem dX11_step_37 : decode cX11_step 37 = .ok (.ireturn, 1) := by decide +kernel
