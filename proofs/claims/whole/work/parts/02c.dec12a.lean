theorem dX12_init_0 : decode cX12_init 0 = .ok (.aload_n 0, 1) := by decide +kernel
theorem dX12_init_1 : decode cX12_init 1 = .ok (.invokespecial 1, 3) := by decide +kernel
theorem dX12_init_4 : decode cX12_init 4 = .ok (.aload_n 0, 1) := by decide +kernel
theorem dX12_init_5 : decode cX12_init 5 = .ok (.sipush 319, 3) := by decide +kernel
theorem dX12_init_8 : decode cX12_init 8 = .ok (.newarray .int, 2) := by decide +kernel
theorem dX12_init_10 : decode cX12_init 10 = .ok (.putfield 7, 3) := by decide +kernel
theorem dX12_init_13 : decode cX12_init 13 = .ok (.aload_n 0, 1) := by decide +kernel
theorem dX12_init_14 : decode cX12_init 14 = .ok (.sipush 319, 3) := by decide +kernel
theorem dX12_init_17 : decode cX12_init 17 = .ok (.newarray .int, 2) := by decide +kernel
theorem dX12_init_19 : decode cX12_init 19 = .ok (.putfield 13, 3) := by decide +kernel
theorem dX12_init_22 : decode cX12_init 22 = .ok (.aload_n 0, 1) := by decide +kernel
theorem dX12_init_23 : decode cX12_init 23 = .ok (.sipush 319, 3) := by decide +kernel
theorem dX12_init_26 : decode cX12_init 26 = .ok (.newarray .int, 2) := by decide +kernel
theorem dX12_init_28 : decode cX12_init 28 = .ok (.putfield 16, 3) := by decide +kernel
theorem dX12_init_31 : decode cX12_init 31 = .ok (.aload_n 0, 1) := by decide +kernel
theorem dX12_init_32 : decode cX12_init 32 = .ok (.sipush 200, 3) := by decide +kernel
theorem dX12_init_35 : decode cX12_init 35 = .ok (.newarray .int, 2) := by decide +kernel
theorem dX12_init_37 : decode cX12_init 37 = .ok (.putfield 19, 3) := by decide +kernel
theorem dX12_init_40 : decode cX12_init 40 = .ok (.aload_n 0, 1) := by decide +kernel
theorem dX12_init_41 : decode cX12_init 41 = .ok (.sipush 130, 3) := by decide +kernel
theorem dX12_init_44 : decode cX12_init 44 = .ok (.newarray .int, 2) := by decide +kernel
theorem dX12_init_46 : decode cX12_init 46 = .ok (.putfield 22, 3) := by decide +kernel
theorem dX12_init_49 : decode cX12_init 49 = .ok (.aload_n 0, 1) := by decide +kernel
theorem dX12_init_50 : decode cX12_init 50 = .ok (.iconst 4, 1) := by decide +kernel
theorem dX12_init_51 : decode cX12_init 51 = .ok (.newarray .int, 2) := by decide +kernel
theorem dX12_init_53 : decode cX12_init 53 = .ok (.putfield 25, 3) := by decide +kernel
theorem dX12_init_56 : decode cX12_init 56 = .ok (.aload_n 0, 1) := by decide +kernel
theorem dX12_init_57 : decode cX12_init 57 = .ok (.iconst 4, 1) := by decide +kernel
theorem dX12_init_58 : decode cX12_init 58 = .ok (.newarray .int, 2) := by decide +kernel
theorem dX12_init_60 : decode cX12_init 60 = .ok (.putfield 28, 3) := by decide +kernel
theorem dX12_init_63 : decode cX12_init 63 = .ok (.aload_n 0, 1) := by decide +kernel
theorem dX12_init_64 : decode cX12_init 64 = .ok (.bipush 12, 2) := by decide +kernel
theorem dX12_init_66 : decode cX12_init 66 = .ok (.newarray .int, 2) := by decide +kernel
theorem dX12_init_68 : decode cX12_init 68 = .ok (.putfield 31, 3) := by decide +kernel
theorem dX12_init_71 : decode cX12_init 71 = .ok (.aload_n 0, 1) := by decide +kernel
theorem dX12_init_72 : decode cX12_init 72 = .ok (.sipush 200, 3) := by decide +kernel
theorem dX12_init_75 : decode cX12_init 75 = .ok (.newarray .int, 2) := by decide +kernel
theorem dX12_init_77 : decode cX12_init 77 = .ok (.putfield 34, 3) := by decide +kernel
theorem dX12_init_80 : decode cX12_init 80 = .ok (.aload_n 0, 1) := by decide +kernel
theorem dX12_init_81 : decode cX12_init 81 = .ok (.iconst 4, 1) := by decide +kernel
theorem dX12_init_82 : decode cX12_init 82 = .ok (.newarray .int, 2) := by decide +kernel
theorem dX12_init_84 : decode cX12_init 84 = .ok (.dup, 1) := by decide +kernel
theorem dX12_init_85 : decode cX12_init 85 = .ok (.iconst 0, 1) := by decide +kernel
theorem dX12_init_86 : decode cX12_init 86 = .ok (.iconst (-1), 1) := by decide +kernel
theorem dX12_init_87 : decode cX12_init 87 = .ok (.iastore, 1) := by decide +kernel
theorem dX12_init_88 : decode cX12_init 88 = .ok (.dup, 1) := by decide +kernel
theorem dX12_init_89 : decode cX12_init 89 = .ok (.iconst 1, 1) := by decide +kernel
theorem dX12_init_90 : decode cX12_init 90 = .ok (.iconst (-1), 1) := by decide +kernel
theorem dX12_init_91 : decode cX12_init 91 = .ok (.iastore, 1) := by decide +kernel
theorem dX12_init_92 : decode cX12_init 92 = .ok (.dup, 1) := by decide +kernel
theorem dX12_init_93 : decode cX12_init 93 = .ok (.iconst 2, 1) := by decide +kernel
theorem dX12_init_94 : decode cX12_init 94 = .ok (.iconst (-1), 1) := by decide +kernel
theorem dX12_init_95 : decode cX12_init 95 = .ok (.iastore, 1) := by decide +kernel
theorem dX12_init_96 : decode cX12_init 96 = .ok (.dup, 1) := by decide +kernel
theorem dX12_init_97 : decode cX12_init 97 = .ok (.iconst 3, 1) := by decide +kernel
theorem dX12_init_98 : decode cX12_init 98 = .ok (.iconst (-1), 1) := by decide +kernel
theorem dX12_init_99 : decode cX12_init 99 = .ok (.iastore, 1) := by decide +kernel
theorem dX12_init_100 : decode cX12_init 100 = .ok (.putfield 37, 3) := by decide +kernel
theorem dX12_init_103 : decode cX12_init 103 = .ok (.aload_n 0, 1) := by decide +kernel
theorem dX12_init_104 : decode cX12_init 104 = .ok (.iconst 4, 1) := by decide +kernel
theorem dX12_init_105 : decode cX12_init 105 = .ok (.newarray .int, 2) := by decide +kernel
theorem dX12_init_107 : decode cX12_init 107 = .ok (.putfield 40, 3) := by decide +kernel
theorem dX12_init_110 : decode cX12_init 110 = .ok (.aload_n 0, 1) := by decide +kernel
theorem dX12_init_111 : decode cX12_init 111 = .ok (.sipush 160, 3) := by decide +kernel
theorem dX12_init_114 : decode cX12_init 114 = .ok (.newarray .int, 2) := by decide +kernel
theorem dX12_init_116 : decode cX12_init 116 = .ok (.putfield 43, 3) := by decide +kernel
theorem dX12_init_119 : decode cX12_init 119 = .ok (.aload_n 0, 1) := by decide +kernel
theorem dX12_init_120 : decode cX12_init 120 = .ok (.iconst 4, 1) := by decide +kernel
theorem dX12_init_121 : decode cX12_init 121 = .ok (.newarray .int, 2) := by decide +kernel
theorem dX12_init_123 : decode cX12_init 123 = .ok (.putfield 46, 3) := by decide +kernel
theorem dX12_init_126 : decode cX12_init 126 = .ok (.aload_n 0, 1) := by decide +kernel
theorem dX12_init_127 : decode cX12_init 127 = .ok (.iconst 4, 1) := by decide +kernel
theorem dX12_init_128 : decode cX12_init 128 = .ok (.newarray .int, 2) := by decide +kernel
theorem dX12_init_130 : decode cX12_init 130 = .ok (.putfield 49, 3) := by decide +kernel
theorem dX12_init_133 : decode cX12_init 133 = .ok (.aload_n 0, 1) := by decide +kernel
theorem dX12_init_134 : decode cX12_init 134 = .ok (.iconst 4, 1) := by decide +kernel
theorem dX12_init_135 : decode cX12_init 135 = .ok (.newarray .int, 2) := by decide +kernel
theorem dX12_init_137 : decode cX12_init 137 = .ok (.putfield 52, 3) := by decide +kernel
theorem dX12_init_140 : decode cX12_init 140 = .ok (.aload_n 0, 1) := by decide +kernel
theorem dX12_init_141 : decode cX12_init 141 = .ok (.bipush 30, 2) := by decide +kernel
theorem dX12_init_143 : decode cX12_init 143 = .ok (.newarray .int, 2) := by decide +kernel
theorem dX12_init_145 : decode cX12_init 145 = .ok (.putfield 55, 3) := by decide +kernel
theorem dX12_init_148 : decode cX12_init 148 = .ok (.aload_n 0, 1) := by decide +kernel
theorem dX12_init_149 : decode cX12_init 149 = .ok (.getfield 7, 3) := by decide +kernel
theorem dX12_init_152 : decode cX12_init 152 = .ok (.bipush 6, 2) := by decide +kernel
theorem dX12_init_154 : decode cX12_init 154 = .ok (.iconst 1, 1) := by decide +kernel
theorem dX12_init_155 : decode cX12_init 155 = .ok (.iastore, 1) := by decide +kernel
theorem dX12_init_156 : decode cX12_init 156 = .ok (.aload_n 0, 1) := by decide +kernel
theorem dX12_init_157 : decode cX12_init 157 = .ok (.getfield 7, 3) := by decide +kernel
theorem dX12_init_160 : decode cX12_init 160 = .ok (.iconst 2, 1) := by decide +kernel
theorem dX12_init_161 : decode cX12_init 161 = .ok (.bipush 12, 2) := by decide +kernel
theorem dX12_init_163 : decode cX12_init 163 = .ok (.iastore, 1) := by decide +kernel
theorem dX12_init_164 : decode cX12_init 164 = .ok (.iconst 0, 1) := by decide +kernel
theorem dX12_init_165 : decode cX12_init 165 = .ok (.istore_n 1, 1) := by decide +kernel
theorem dX12_init_166 : decode cX12_init 166 = .ok (.iload_n 1, 1) := by decide +kernel
theorem dX12_init_167 : decode cX12_init 167 = .ok (.bipush 16, 2) := by decide +kernel
theorem dX12_init_169 : decode cX12_init 169 = .ok (.if_icmp .ge 19, 3) := by decide +kernel
theorem dX12_init_172 : decode cX12_init 172 = .ok (.aload_n 0, 1) := by decide +kernel
theorem dX12_init_173 : decode cX12_init 173 = .ok (.getfield 7, 3) := by decide +kernel
theorem dX12_init_176 : decode cX12_init 176 = .ok (.bipush 7, 2) := by decide +kernel
theorem dX12_init_178 : decode cX12_init 178 = .ok (.iload_n 1, 1) := by decide +kernel
theorem dX12_init_179 : decode cX12_init 179 = .ok (.iadd, 1) := by decide +kernel
theorem dX12_init_180 : decode cX12_init 180 = .ok (.iconst 4, 1) := by decide +kernel
theorem dX12_init_181 : decode cX12_init 181 = .ok (.iastore, 1) := by decide +kernel
theorem dX12_init_182 : decode cX12_init 182 = .ok (.iinc 1 1, 3) := by decide +kernel
theorem dX12_init_185 : decode cX12_init 185 = .ok (.goto (-19), 3) := by decide +kernel
theorem dX12_init_188 : decode cX12_init 188 = .ok (.iconst 0, 1) := by decide +kernel
theorem dX12_init_189 : decode cX12_init 189 = .ok (.istore_n 1, 1) := by decide +kernel
theorem dX12_init_190 : decode cX12_init 190 = .ok (.iload_n 1, 1) := by decide +kernel
theorem dX12_init_191 : decode cX12_init 191 = .ok (.bipush 6, 2) := by decide +kernel
theorem dX12_init_193 : decode cX12_init 193 = .ok (.if_icmp .ge 23, 3) := by decide +kernel
theorem dX12_init_196 : decode cX12_init 196 = .ok (.aload_n 0, 1) := by decide +kernel
theorem dX12_init_197 : decode cX12_init 197 = .ok (.getfield 7, 3) := by decide +kernel
theorem dX12_init_200 : decode cX12_init 200 = .ok (.bipush 23, 2) := by decide +kernel
theorem dX12_init_202 : decode cX12_init 202 = .ok (.iconst 2, 1) := by decide +kernel
theorem dX12_init_203 : decode cX12_init 203 = .ok (.iload_n 1, 1) := by decide +kernel
theorem dX12_init_204 : decode cX12_init 204 = .ok (.imul, 1) := by decide +kernel
theorem dX12_init_205 : decode cX12_init 205 = .ok (.iadd, 1) := by decide +kernel
theorem dX12_init_206 : decode cX12_init 206 = .ok (.iconst 1, 1) := by decide +kernel
theorem dX12_init_207 : decode cX12_init 207 = .ok (.iadd, 1) := by decide +kernel
theorem dX12_init_208 : decode cX12_init 208 = .ok (.iconst 3, 1) := by decide +kernel
theorem dX12_init_209 : decode cX12_init 209 = .ok (.iastore, 1) := by decide +kernel
theorem dX12_init_210 : decode cX12_init 210 = .ok (.iinc 1 1, 3) := by decide +kernel
theorem dX12_init_213 : decode cX12_init 213 = .ok (.goto (-23), 3) := by decide +kernel
theorem dX12_init_216 : decode cX12_init 216 = .ok (.return_, 1) := by decide +kernel
theorem dX12_in_0 : decode cX12_in 0 = .ok (.lload_n 0, 1) := by decide +kernel
theorem dX12_in_1 : decode cX12_in 1 = .ok (.lload_n 2, 1) := by decide +kernel
theorem dX12_in_2 : decode cX12_in 2 = .ok (.lcmp, 1) := by decide +kernel
theorem dX12_in_3 : decode cX12_in 3 = .ok (.ifCond .lt 14, 3) := by decide +kernel
theorem dX12_in_6 : decode cX12_in 6 = .ok (.lload_n 0, 1) := by decide +kernel
theorem dX12_in_7 : decode cX12_in 7 = .ok (.lload 4, 2) := by decide +kernel
theorem dX12_in_9 : decode cX12_in 9 = .ok (.lcmp, 1) := by decide +kernel
theorem dX12_in_10 : decode cX12_in 10 = .ok (.ifCond .gt 7, 3) := by decide +kernel
theorem dX12_in_13 : decode cX12_in 13 = .ok (.iconst 1, 1) := by decide +kernel
theorem dX12_in_14 : decode cX12_in 14 = .ok (.goto 4, 3) := by decide +kernel
theorem dX12_in_17 : decode cX12_in 17 = .ok (.iconst 0, 1) := by decide +kernel
theorem dX12_in_18 : decode cX12_in 18 = .ok (.ireturn, 1) := by decide +kernel
theorem dX12_isKite_0 : decode cX12_isKite 0 = .ok (.iload_n 1, 1) := by decide +kernel
theorem dX12_isKite_1 : decode cX12_isKite 1 = .ok (.i2l, 1) := by decide +kernel
theorem dX12_isKite_2 : decode cX12_isKite 2 = .ok (.lconst 0, 1) := by decide +kernel
theorem dX12_isKite_3 : decode cX12_isKite 3 = .ok (.aload_n 0, 1) := by decide +kernel
theorem dX12_isKite_4 : decode cX12_isKite 4 = .ok (.getfield 7, 3) := by decide +kernel
theorem dX12_isKite_7 : decode cX12_isKite 7 = .ok (.iconst 0, 1) := by decide +kernel
theorem dX12_isKite_8 : decode cX12_isKite 8 = .ok (.iaload, 1) := by decide +kernel
theorem dX12_isKite_9 : decode cX12_isKite 9 = .ok (.iconst 1, 1) := by decide +kernel
theorem dX12_isKite_10 : decode cX12_isKite 10 = .ok (.isub, 1) := by decide +kernel
theorem dX12_isKite_11 : decode cX12_isKite 11 = .ok (.i2l, 1) := by decide +kernel
theorem dX12_isKite_12 : decode cX12_isKite 12 = .ok (.invokestatic 58, 3) := by decide +kernel
theorem dX12_isKite_15 : decode cX12_isKite 15 = .ok (.ireturn, 1) := by decide +kernel
theorem dX12_areKites_0 : decode cX12_areKites 0 = .ok (.iload_n 1, 1) := by decide +kernel
theorem dX12_areKites_1 : decode cX12_areKites 1 = .ok (.i2l, 1) := by decide +kernel
theorem dX12_areKites_2 : decode cX12_areKites 2 = .ok (.lconst 0, 1) := by decide +kernel
theorem dX12_areKites_3 : decode cX12_areKites 3 = .ok (.iconst 1, 1) := by decide +kernel
theorem dX12_areKites_4 : decode cX12_areKites 4 = .ok (.aload_n 0, 1) := by decide +kernel
theorem dX12_areKites_5 : decode cX12_areKites 5 = .ok (.getfield 7, 3) := by decide +kernel
theorem dX12_areKites_8 : decode cX12_areKites 8 = .ok (.iconst 0, 1) := by decide +kernel
theorem dX12_areKites_9 : decode cX12_areKites 9 = .ok (.iaload, 1) := by decide +kernel
theorem dX12_areKites_10 : decode cX12_areKites 10 = .ok (.ishl, 1) := by decide +kernel
theorem dX12_areKites_11 : decode cX12_areKites 11 = .ok (.iconst 1, 1) := by decide +kernel
theorem dX12_areKites_12 : decode cX12_areKites 12 = .ok (.isub, 1) := by decide +kernel
theorem dX12_areKites_13 : decode cX12_areKites 13 = .ok (.i2l, 1) := by decide +kernel
theorem dX12_areKites_14 : decode cX12_areKites 14 = .ok (.invokestatic 58, 3) := by decide +kernel
theorem dX12_areKites_17 : decode cX12_areKites 17 = .ok (.ireturn, 1) := by decide +kernel
theorem dX12_puts_0 : decode cX12_puts 0 = .ok (.iconst 0, 1) := by decide +kernel
theorem dX12_puts_1 : decode cX12_puts 1 = .ok (.istore_n 1, 1) := by decide +kernel
theorem dX12_puts_2 : decode cX12_puts 2 = .ok (.iload_n 1, 1) := by decide +kernel
theorem dX12_puts_3 : decode cX12_puts 3 = .ok (.sipush 319, 3) := by decide +kernel
theorem dX12_puts_6 : decode cX12_puts 6 = .ok (.if_icmp .ge 21, 3) := by decide +kernel
theorem dX12_puts_9 : decode cX12_puts 9 = .ok (.aload_n 0, 1) := by decide +kernel
theorem dX12_puts_10 : decode cX12_puts 10 = .ok (.getfield 16, 3) := by decide +kernel
theorem dX12_puts_13 : decode cX12_puts 13 = .ok (.iload_n 1, 1) := by decide +kernel
theorem dX12_puts_14 : decode cX12_puts 14 = .ok (.aload_n 0, 1) := by decide +kernel
theorem dX12_puts_15 : decode cX12_puts 15 = .ok (.getfield 7, 3) := by decide +kernel
theorem dX12_puts_18 : decode cX12_puts 18 = .ok (.iload_n 1, 1) := by decide +kernel
theorem dX12_puts_19 : decode cX12_puts 19 = .ok (.iaload, 1) := by decide +kernel
theorem dX12_puts_20 : decode cX12_puts 20 = .ok (.iastore, 1) := by decide +kernel
theorem dX12_puts_21 : decode cX12_puts 21 = .ok (.iinc 1 1, 3) := by decide +kernel
theorem dX12_puts_24 : decode cX12_puts 24 = .ok (.goto (-22), 3) := by decide +kernel
theorem dX12_puts_27 : decode cX12_puts 27 = .ok (.return_, 1) := by decide +kernel
theorem dX12_putsBack_0 : decode cX12_putsBack 0 = .ok (.iconst 0, 1) := by decide +kernel
theorem dX12_putsBack_1 : decode cX12_putsBack 1 = .ok (.istore_n 1, 1) := by decide +kernel
theorem dX12_putsBack_2 : decode cX12_putsBack 2 = .ok (.iload_n 1, 1) := by decide +kernel
theorem dX12_putsBack_3 : decode cX12_putsBack 3 = .ok (.sipush 319, 3) := by decide +kernel
theorem dX12_putsBack_6 : decode cX12_putsBack 6 = .ok (.if_icmp .ge 21, 3) := by decide +kernel
theorem dX12_putsBack_9 : decode cX12_putsBack 9 = .ok (.aload_n 0, 1) := by decide +kernel
theorem dX12_putsBack_10 : decode cX12_putsBack 10 = .ok (.getfield 7, 3) := by decide +kernel
theorem dX12_putsBack_13 : decode cX12_putsBack 13 = .ok (.iload_n 1, 1) := by decide +kernel
theorem dX12_putsBack_14 : decode cX12_putsBack 14 = .ok (.aload_n 0, 1) := by decide +kernel
theorem dX12_putsBack_15 : decode cX12_putsBack 15 = .ok (.getfield 16, 3) := by decide +kernel
theorem dX12_putsBack_18 : decode cX12_putsBack 18 = .ok (.iload_n 1, 1) := by decide +kernel
theorem dX12_putsBack_19 : decode cX12_putsBack 19 = .ok (.iaload, 1) := by decide +kernel
theorem dX12_putsBack_20 : decode cX12_putsBack 20 = .ok (.iastore, 1) := by decide +kernel
theorem dX12_putsBack_21 : decode cX12_putsBack 21 = .ok (.iinc 1 1, 3) := by decide +kernel
theorem dX12_putsBack_24 : decode cX12_putsBack 24 = .ok (.goto (-22), 3) := by decide +kernel
theorem dX12_putsBack_27 : decode cX12_putsBack 27 = .ok (.return_, 1) := by decide +kernel
theorem dX12_becomes_0 : decode cX12_becomes 0 = .ok (.aload_n 0, 1) := by decide +kernel
theorem dX12_becomes_1 : decode cX12_becomes 1 = .ok (.getfield 7, 3) := by decide +kernel
theorem dX12_becomes_4 : decode cX12_becomes 4 = .ok (.iload_n 1, 1) := by decide +kernel
theorem dX12_becomes_5 : decode cX12_becomes 5 = .ok (.iaload, 1) := by decide +kernel
theorem dX12_becomes_6 : decode cX12_becomes 6 = .ok (.istore_n 3, 1) := by decide +kernel
theorem dX12_becomes_7 : decode cX12_becomes 7 = .ok (.aload_n 0, 1) := by decide +kernel
theorem dX12_becomes_8 : decode cX12_becomes 8 = .ok (.getfield 7, 3) := by decide +kernel
theorem dX12_becomes_11 : decode cX12_becomes 11 = .ok (.iload_n 1, 1) := by decide +kernel
theorem dX12_becomes_12 : decode cX12_becomes 12 = .ok (.iload_n 2, 1) := by decide +kernel
theorem dX12_becomes_13 : decode cX12_becomes 13 = .ok (.iastore, 1) := by decide +kernel
theorem dX12_becomes_14 : decode cX12_becomes 14 = .ok (.iload_n 3, 1) := by decide +kernel
theorem dX12_becomes_15 : decode cX12_becomes 15 = .ok (.ireturn, 1) := by decide +kernel
theorem dX12_at_0 : decode cX12_at 0 = .ok (.bipush 35, 2) := by decide +kernel
theorem dX12_at_2 : decode cX12_at 2 = .ok (.bipush 6, 2) := by decide +kernel
theorem dX12_at_4 : decode cX12_at 4 = .ok (.iload_n 0, 1) := by decide +kernel
theorem dX12_at_5 : decode cX12_at 5 = .ok (.imul, 1) := by decide +kernel
theorem dX12_at_6 : decode cX12_at 6 = .ok (.iadd, 1) := by decide +kernel
theorem dX12_at_7 : decode cX12_at 7 = .ok (.iload_n 1, 1) := by decide +kernel
theorem dX12_at_8 : decode cX12_at 8 = .ok (.iadd, 1) := by decide +kernel
theorem dX12_at_9 : decode cX12_at 9 = .ok (.ireturn, 1) := by decide +kernel
theorem dX12_its_0 : decode cX12_its 0 = .ok (.aload_n 0, 1) := by decide +kernel
theorem dX12_its_1 : decode cX12_its 1 = .ok (.getfield 7, 3) := by decide +kernel
theorem dX12_its_4 : decode cX12_its 4 = .ok (.iload_n 1, 1) := by decide +kernel
theorem dX12_its_5 : decode cX12_its 5 = .ok (.iload_n 2, 1) := by decide +kernel
theorem dX12_its_6 : decode cX12_its 6 = .ok (.invokestatic 62, 3) := by decide +kernel
theorem dX12_its_9 : decode cX12_its 9 = .ok (.iaload, 1) := by decide +kernel
theorem dX12_its_10 : decode cX12_its 10 = .ok (.ireturn, 1) := by decide +kernel
theorem dX12_isKind_0 : decode cX12_isKind 0 = .ok (.iload_n 0, 1) := by decide +kernel
theorem dX12_isKind_1 : decode cX12_isKind 1 = .ok (.i2l, 1) := by decide +kernel
theorem dX12_isKind_2 : decode cX12_isKind 2 = .ok (.lconst 1, 1) := by decide +kernel
theorem dX12_isKind_3 : decode cX12_isKind 3 = .ok (.ldc2_w 66, 3) := by decide +kernel
theorem dX12_isKind_6 : decode cX12_isKind 6 = .ok (.invokestatic 58, 3) := by decide +kernel
theorem dX12_isKind_9 : decode cX12_isKind 9 = .ok (.ireturn, 1) := by decide +kernel
theorem dX12_isCell_0 : decode cX12_isCell 0 = .ok (.iload_n 0, 1) := by decide +kernel
theorem dX12_isCell_1 : decode cX12_isCell 1 = .ok (.i2l, 1) := by decide +kernel
theorem dX12_isCell_2 : decode cX12_isCell 2 = .ok (.lconst 0, 1) := by decide +kernel
theorem dX12_isCell_3 : decode cX12_isCell 3 = .ok (.ldc2_w 68, 3) := by decide +kernel
theorem dX12_isCell_6 : decode cX12_isCell 6 = .ok (.invokestatic 58, 3) := by decide +kernel
theorem dX12_isCell_9 : decode cX12_isCell 9 = .ok (.ireturn, 1) := by decide +kernel
theorem dX12_isFarm_0 : decode cX12_isFarm 0 = .ok (.iload_n 0, 1) := by decide +kernel
theorem dX12_isFarm_1 : decode cX12_isFarm 1 = .ok (.i2l, 1) := by decide +kernel
theorem dX12_isFarm_2 : decode cX12_isFarm 2 = .ok (.lconst 0, 1) := by decide +kernel
theorem dX12_isFarm_3 : decode cX12_isFarm 3 = .ok (.ldc2_w 66, 3) := by decide +kernel
theorem dX12_isFarm_6 : decode cX12_isFarm 6 = .ok (.invokestatic 58, 3) := by decide +kernel
theorem dX12_isFarm_9 : decode cX12_isFarm 9 = .ok (.ireturn, 1) := by decide +kernel
theorem dX12_isPart_0 : decode cX12_isPart 0 = .ok (.iload_n 0, 1) := by decide +kernel
theorem dX12_isPart_1 : decode cX12_isPart 1 = .ok (.tableswitch 47 1 3 #[27, 32, 42], 27) := by decide +kernel
theorem dX12_isPart_28 : decode cX12_isPart 28 = .ok (.iload_n 1, 1) := by decide +kernel
theorem dX12_isPart_29 : decode cX12_isPart 29 = .ok (.invokestatic 70, 3) := by decide +kernel
theorem dX12_isPart_32 : decode cX12_isPart 32 = .ok (.ireturn, 1) := by decide +kernel
theorem dX12_isPart_33 : decode cX12_isPart 33 = .ok (.iload_n 1, 1) := by decide +kernel
theorem dX12_isPart_34 : decode cX12_isPart 34 = .ok (.i2l, 1) := by decide +kernel
theorem dX12_isPart_35 : decode cX12_isPart 35 = .ok (.lconst 0, 1) := by decide +kernel
theorem dX12_isPart_36 : decode cX12_isPart 36 = .ok (.ldc2_w 74, 3) := by decide +kernel
theorem dX12_isPart_39 : decode cX12_isPart 39 = .ok (.invokestatic 58, 3) := by decide +kernel
theorem dX12_isPart_42 : decode cX12_isPart 42 = .ok (.ireturn, 1) := by decide +kernel
theorem dX12_isPart_43 : decode cX12_isPart 43 = .ok (.iload_n 1, 1) := by decide +kernel
theorem dX12_isPart_44 : decode cX12_isPart 44 = .ok (.invokestatic 76, 3) := by decide +kernel
theorem dX12_isPart_47 : decode cX12_isPart 47 = .ok (.ireturn, 1) := by decide +kernel
theorem dX12_isPart_48 : decode cX12_isPart 48 = .ok (.iload_n 0, 1) := by decide +kernel
theorem dX12_isPart_49 : decode cX12_isPart 49 = .ok (.i2l, 1) := by decide +kernel
theorem dX12_isPart_50 : decode cX12_isPart 50 = .ok (.ldc2_w 79, 3) := by decide +kernel
theorem dX12_isPart_53 : decode cX12_isPart 53 = .ok (.ldc2_w 66, 3) := by decide +kernel
theorem dX12_isPart_56 : decode cX12_isPart 56 = .ok (.invokestatic 58, 3) := by decide +kernel
theorem dX12_isPart_59 : decode cX12_isPart 59 = .ok (.ifCond .eq 17, 3) := by decide +kernel
theorem dX12_isPart_62 : decode cX12_isPart 62 = .ok (.iload_n 1, 1) := by decide +kernel
theorem dX12_isPart_63 : decode cX12_isPart 63 = .ok (.i2l, 1) := by decide +kernel
theorem dX12_isPart_64 : decode cX12_isPart 64 = .ok (.lconst 0, 1) := by decide +kernel
theorem dX12_isPart_65 : decode cX12_isPart 65 = .ok (.lconst 1, 1) := by decide +kernel
theorem dX12_isPart_66 : decode cX12_isPart 66 = .ok (.invokestatic 58, 3) := by decide +kernel
theorem dX12_isPart_69 : decode cX12_isPart 69 = .ok (.ifCond .eq 7, 3) := by decide +kernel
theorem dX12_isPart_72 : decode cX12_isPart 72 = .ok (.iconst 1, 1) := by decide +kernel
theorem dX12_isPart_73 : decode cX12_isPart 73 = .ok (.goto 4, 3) := by decide +kernel
theorem dX12_isPart_76 : decode cX12_isPart 76 = .ok (.iconst 0, 1) := by decide +kernel
theorem dX12_isPart_77 : decode cX12_isPart 77 = .ok (.ireturn, 1) := by decide +kernel
theorem dX12_kite_0 : decode cX12_kite 0 = .ok (.iload_n 1, 1) := by decide +kernel
theorem dX12_kite_1 : decode cX12_kite 1 = .ok (.invokestatic 81, 3) := by decide +kernel
theorem dX12_kite_4 : decode cX12_kite 4 = .ok (.ifCond .eq 28, 3) := by decide +kernel
theorem dX12_kite_7 : decode cX12_kite 7 = .ok (.iconst 1, 1) := by decide +kernel
theorem dX12_kite_8 : decode cX12_kite 8 = .ok (.iload_n 2, 1) := by decide +kernel
theorem dX12_kite_9 : decode cX12_kite 9 = .ok (.invokestatic 84, 3) := by decide +kernel
theorem dX12_kite_12 : decode cX12_kite 12 = .ok (.ifCond .eq 20, 3) := by decide +kernel
theorem dX12_kite_15 : decode cX12_kite 15 = .ok (.iconst 2, 1) := by decide +kernel
theorem dX12_kite_16 : decode cX12_kite 16 = .ok (.iload_n 3, 1) := by decide +kernel
theorem dX12_kite_17 : decode cX12_kite 17 = .ok (.invokestatic 84, 3) := by decide +kernel
theorem dX12_kite_20 : decode cX12_kite 20 = .ok (.ifCond .eq 12, 3) := by decide +kernel
theorem dX12_kite_23 : decode cX12_kite 23 = .ok (.iconst 3, 1) := by decide +kernel
theorem dX12_kite_24 : decode cX12_kite 24 = .ok (.iload 4, 2) := by decide +kernel
theorem dX12_kite_26 : decode cX12_kite 26 = .ok (.invokestatic 84, 3) := by decide +kernel
theorem dX12_kite_29 : decode cX12_kite 29 = .ok (.ifCond .ne 5, 3) := by decide +kernel
theorem dX12_kite_32 : decode cX12_kite 32 = .ok (.iconst (-1), 1) := by decide +kernel
theorem dX12_kite_33 : decode cX12_kite 33 = .ok (.ireturn, 1) := by decide +kernel
theorem dX12_kite_34 : decode cX12_kite 34 = .ok (.aload_n 0, 1) := by decide +kernel
theorem dX12_kite_35 : decode cX12_kite 35 = .ok (.getfield 7, 3) := by decide +kernel
theorem dX12_kite_38 : decode cX12_kite 38 = .ok (.iconst 0, 1) := by decide +kernel
theorem dX12_kite_39 : decode cX12_kite 39 = .ok (.iaload, 1) := by decide +kernel
theorem dX12_kite_40 : decode cX12_kite 40 = .ok (.bipush 6, 2) := by decide +kernel
theorem dX12_kite_42 : decode cX12_kite 42 = .ok (.if_icmp .ne 6, 3) := by decide +kernel
theorem dX12_kite_45 : decode cX12_kite 45 = .ok (.bipush (-2), 2) := by decide +kernel
theorem dX12_kite_47 : decode cX12_kite 47 = .ok (.ireturn, 1) := by decide +kernel
theorem dX12_kite_48 : decode cX12_kite 48 = .ok (.aload_n 0, 1) := by decide +kernel
theorem dX12_kite_49 : decode cX12_kite 49 = .ok (.getfield 7, 3) := by decide +kernel
theorem dX12_kite_52 : decode cX12_kite 52 = .ok (.iconst 0, 1) := by decide +kernel
theorem dX12_kite_53 : decode cX12_kite 53 = .ok (.iaload, 1) := by decide +kernel
theorem dX12_kite_54 : decode cX12_kite 54 = .ok (.istore 5, 2) := by decide +kernel
theorem dX12_kite_56 : decode cX12_kite 56 = .ok (.aload_n 0, 1) := by decide +kernel
theorem dX12_kite_57 : decode cX12_kite 57 = .ok (.getfield 7, 3) := by decide +kernel
theorem dX12_kite_60 : decode cX12_kite 60 = .ok (.iload 5, 2) := by decide +kernel
theorem dX12_kite_62 : decode cX12_kite 62 = .ok (.iconst 0, 1) := by decide +kernel
theorem dX12_kite_63 : decode cX12_kite 63 = .ok (.invokestatic 62, 3) := by decide +kernel
theorem dX12_kite_66 : decode cX12_kite 66 = .ok (.iload_n 1, 1) := by decide +kernel
theorem dX12_kite_67 : decode cX12_kite 67 = .ok (.iastore, 1) := by decide +kernel
theorem dX12_kite_68 : decode cX12_kite 68 = .ok (.aload_n 0, 1) := by decide +kernel
theorem dX12_kite_69 : decode cX12_kite 69 = .ok (.getfield 7, 3) := by decide +kernel
theorem dX12_kite_72 : decode cX12_kite 72 = .ok (.iload 5, 2) := by decide +kernel
theorem dX12_kite_74 : decode cX12_kite 74 = .ok (.iconst 1, 1) := by decide +kernel
theorem dX12_kite_75 : decode cX12_kite 75 = .ok (.invokestatic 62, 3) := by decide +kernel
theorem dX12_kite_78 : decode cX12_kite 78 = .ok (.iload_n 2, 1) := by decide +kernel
theorem dX12_kite_79 : decode cX12_kite 79 = .ok (.iastore, 1) := by decide +kernel
theorem dX12_kite_80 : decode cX12_kite 80 = .ok (.aload_n 0, 1) := by decide +kernel
theorem dX12_kite_81 : decode cX12_kite 81 = .ok (.getfield 7, 3) := by decide +kernel
theorem dX12_kite_84 : decode cX12_kite 84 = .ok (.iload 5, 2) := by decide +kernel
theorem dX12_kite_86 : decode cX12_kite 86 = .ok (.iconst 2, 1) := by decide +kernel
theorem dX12_kite_87 : decode cX12_kite 87 = .ok (.invokestatic 62, 3) := by decide +kernel
theorem dX12_kite_90 : decode cX12_kite 90 = .ok (.iload_n 3, 1) := by decide +kernel
theorem dX12_kite_91 : decode cX12_kite 91 = .ok (.iastore, 1) := by decide +kernel
theorem dX12_kite_92 : decode cX12_kite 92 = .ok (.aload_n 0, 1) := by decide +kernel
theorem dX12_kite_93 : decode cX12_kite 93 = .ok (.getfield 7, 3) := by decide +kernel
theorem dX12_kite_96 : decode cX12_kite 96 = .ok (.iload 5, 2) := by decide +kernel
theorem dX12_kite_98 : decode cX12_kite 98 = .ok (.iconst 3, 1) := by decide +kernel
theorem dX12_kite_99 : decode cX12_kite 99 = .ok (.invokestatic 62, 3) := by decide +kernel
theorem dX12_kite_102 : decode cX12_kite 102 = .ok (.iload 4, 2) := by decide +kernel
theorem dX12_kite_104 : decode cX12_kite 104 = .ok (.iastore, 1) := by decide +kernel
theorem dX12_kite_105 : decode cX12_kite 105 = .ok (.aload_n 0, 1) := by decide +kernel
theorem dX12_kite_106 : decode cX12_kite 106 = .ok (.getfield 7, 3) := by decide +kernel
theorem dX12_kite_109 : decode cX12_kite 109 = .ok (.iload 5, 2) := by decide +kernel
theorem dX12_kite_111 : decode cX12_kite 111 = .ok (.iconst 4, 1) := by decide +kernel
theorem dX12_kite_112 : decode cX12_kite 112 = .ok (.invokestatic 62, 3) := by decide +kernel
theorem dX12_kite_115 : decode cX12_kite 115 = .ok (.iconst 1, 1) := by decide +kernel
theorem dX12_kite_116 : decode cX12_kite 116 = .ok (.iastore, 1) := by decide +kernel
theorem dX12_kite_117 : decode cX12_kite 117 = .ok (.aload_n 0, 1) := by decide +kernel
theorem dX12_kite_118 : decode cX12_kite 118 = .ok (.getfield 7, 3) := by decide +kernel
theorem dX12_kite_121 : decode cX12_kite 121 = .ok (.iload 5, 2) := by decide +kernel
theorem dX12_kite_123 : decode cX12_kite 123 = .ok (.iconst 5, 1) := by decide +kernel
theorem dX12_kite_124 : decode cX12_kite 124 = .ok (.invokestatic 62, 3) := by decide +kernel
theorem dX12_kite_127 : decode cX12_kite 127 = .ok (.iconst 0, 1) := by decide +kernel
theorem dX12_kite_128 : decode cX12_kite 128 = .ok (.iastore, 1) := by decide +kernel
theorem dX12_kite_129 : decode cX12_kite 129 = .ok (.aload_n 0, 1) := by decide +kernel
theorem dX12_kite_130 : decode cX12_kite 130 = .ok (.getfield 7, 3) := by decide +kernel
theorem dX12_kite_133 : decode cX12_kite 133 = .ok (.iconst 0, 1) := by decide +kernel
theorem dX12_kite_134 : decode cX12_kite 134 = .ok (.dup2, 1) := by decide +kernel
theorem dX12_kite_135 : decode cX12_kite 135 = .ok (.iaload, 1) := by decide +kernel
theorem dX12_kite_136 : decode cX12_kite 136 = .ok (.iconst 1, 1) := by decide +kernel
theorem dX12_kite_137 : decode cX12_kite 137 = .ok (.iadd, 1) := by decide +kernel
theorem dX12_kite_138 : decode cX12_kite 138 = .ok (.iastore, 1) := by decide +kernel
theorem dX12_kite_139 : decode cX12_kite 139 = .ok (.iload 5, 2) := by decide +kernel
theorem dX12_kite_141 : decode cX12_kite 141 = .ok (.ireturn, 1) := by decide +kernel
theorem dX12_driftOf_0 : decode cX12_driftOf 0 = .ok (.iload_n 1, 1) := by decide +kernel
theorem dX12_driftOf_1 : decode cX12_driftOf 1 = .ok (.ifCond .le 9, 3) := by decide +kernel
theorem dX12_driftOf_4 : decode cX12_driftOf 4 = .ok (.iload_n 1, 1) := by decide +kernel
theorem dX12_driftOf_5 : decode cX12_driftOf 5 = .ok (.iconst 1, 1) := by decide +kernel
theorem dX12_driftOf_6 : decode cX12_driftOf 6 = .ok (.isub, 1) := by decide +kernel
theorem dX12_driftOf_7 : decode cX12_driftOf 7 = .ok (.goto 4, 3) := by decide +kernel
theorem dX12_driftOf_10 : decode cX12_driftOf 10 = .ok (.iconst 0, 1) := by decide +kernel
theorem dX12_driftOf_11 : decode cX12_driftOf 11 = .ok (.istore_n 3, 1) := by decide +kernel
theorem dX12_driftOf_12 : decode cX12_driftOf 12 = .ok (.iload_n 1, 1) := by decide +kernel
theorem dX12_driftOf_13 : decode cX12_driftOf 13 = .ok (.iconst 1, 1) := by decide +kernel
theorem dX12_driftOf_14 : decode cX12_driftOf 14 = .ok (.if_icmp .le 7, 3) := by decide +kernel
theorem dX12_driftOf_17 : decode cX12_driftOf 17 = .ok (.iconst 1, 1) := by decide +kernel
theorem dX12_driftOf_18 : decode cX12_driftOf 18 = .ok (.goto 4, 3) := by decide +kernel
theorem dX12_driftOf_21 : decode cX12_driftOf 21 = .ok (.iload_n 1, 1) := by decide +kernel
theorem dX12_driftOf_22 : decode cX12_driftOf 22 = .ok (.istore 4, 2) := by decide +kernel
theorem dX12_driftOf_24 : decode cX12_driftOf 24 = .ok (.iload_n 0, 1) := by decide +kernel
theorem dX12_driftOf_25 : decode cX12_driftOf 25 = .ok (.tableswitch 71 1 5 #[35, 39, 41, 55, 58], 35) := by decide +kernel
theorem dX12_driftOf_60 : decode cX12_driftOf 60 = .ok (.iconst 2, 1) := by decide +kernel
theorem dX12_driftOf_61 : decode cX12_driftOf 61 = .ok (.iload_n 1, 1) := by decide +kernel
theorem dX12_driftOf_62 : decode cX12_driftOf 62 = .ok (.imul, 1) := by decide +kernel
theorem dX12_driftOf_63 : decode cX12_driftOf 63 = .ok (.ireturn, 1) := by decide +kernel
theorem dX12_driftOf_64 : decode cX12_driftOf 64 = .ok (.iload_n 3, 1) := by decide +kernel
theorem dX12_driftOf_65 : decode cX12_driftOf 65 = .ok (.ireturn, 1) := by decide +kernel
theorem dX12_driftOf_66 : decode cX12_driftOf 66 = .ok (.iload_n 2, 1) := by decide +kernel
theorem dX12_driftOf_67 : decode cX12_driftOf 67 = .ok (.iconst 2, 1) := by decide +kernel
theorem dX12_driftOf_68 : decode cX12_driftOf 68 = .ok (.irem, 1) := by decide +kernel
theorem dX12_driftOf_69 : decode cX12_driftOf 69 = .ok (.ifCond .ne 9, 3) := by decide +kernel
theorem dX12_driftOf_72 : decode cX12_driftOf 72 = .ok (.iload_n 3, 1) := by decide +kernel
theorem dX12_driftOf_73 : decode cX12_driftOf 73 = .ok (.iconst 1, 1) := by decide +kernel
theorem dX12_driftOf_74 : decode cX12_driftOf 74 = .ok (.iadd, 1) := by decide +kernel
theorem dX12_driftOf_75 : decode cX12_driftOf 75 = .ok (.goto 4, 3) := by decide +kernel
theorem dX12_driftOf_78 : decode cX12_driftOf 78 = .ok (.iload_n 3, 1) := by decide +kernel
theorem dX12_driftOf_79 : decode cX12_driftOf 79 = .ok (.ireturn, 1) := by decide +kernel
theorem dX12_driftOf_80 : decode cX12_driftOf 80 = .ok (.iload 4, 2) := by decide +kernel
theorem dX12_driftOf_82 : decode cX12_driftOf 82 = .ok (.ireturn, 1) := by decide +kernel
theorem dX12_driftOf_83 : decode cX12_driftOf 83 = .ok (.iload_n 2, 1) := by decide +kernel
theorem dX12_driftOf_84 : decode cX12_driftOf 84 = .ok (.iconst 2, 1) := by decide +kernel
theorem dX12_driftOf_85 : decode cX12_driftOf 85 = .ok (.irem, 1) := by decide +kernel
theorem dX12_driftOf_86 : decode cX12_driftOf 86 = .ok (.ifCond .ne 8, 3) := by decide +kernel
theorem dX12_driftOf_89 : decode cX12_driftOf 89 = .ok (.iload 4, 2) := by decide +kernel
theorem dX12_driftOf_91 : decode cX12_driftOf 91 = .ok (.goto 4, 3) := by decide +kernel
theorem dX12_driftOf_94 : decode cX12_driftOf 94 = .ok (.iconst 0, 1) := by decide +kernel
theorem dX12_driftOf_95 : decode cX12_driftOf 95 = .ok (.ireturn, 1) := by decide +kernel
theorem dX12_driftOf_96 : decode cX12_driftOf 96 = .ok (.iload_n 1, 1) := by decide +kernel
theorem dX12_driftOf_97 : decode cX12_driftOf 97 = .ok (.ireturn, 1) := by decide +kernel
theorem dX12_windNow_0 : decode cX12_windNow 0 = .ok (.aload_n 0, 1) := by decide +kernel
theorem dX12_windNow_1 : decode cX12_windNow 1 = .ok (.getfield 7, 3) := by decide +kernel
theorem dX12_windNow_4 : decode cX12_windNow 4 = .ok (.iconst 3, 1) := by decide +kernel
theorem dX12_windNow_5 : decode cX12_windNow 5 = .ok (.iaload, 1) := by decide +kernel
theorem dX12_windNow_6 : decode cX12_windNow 6 = .ok (.bipush 16, 2) := by decide +kernel
theorem dX12_windNow_8 : decode cX12_windNow 8 = .ok (.if_icmp .ge 20, 3) := by decide +kernel
theorem dX12_windNow_11 : decode cX12_windNow 11 = .ok (.aload_n 0, 1) := by decide +kernel
theorem dX12_windNow_12 : decode cX12_windNow 12 = .ok (.getfield 7, 3) := by decide +kernel
theorem dX12_windNow_15 : decode cX12_windNow 15 = .ok (.bipush 7, 2) := by decide +kernel
theorem dX12_windNow_17 : decode cX12_windNow 17 = .ok (.aload_n 0, 1) := by decide +kernel
theorem dX12_windNow_18 : decode cX12_windNow 18 = .ok (.getfield 7, 3) := by decide +kernel
theorem dX12_windNow_21 : decode cX12_windNow 21 = .ok (.iconst 3, 1) := by decide +kernel
theorem dX12_windNow_22 : decode cX12_windNow 22 = .ok (.iaload, 1) := by decide +kernel
theorem dX12_windNow_23 : decode cX12_windNow 23 = .ok (.iadd, 1) := by decide +kernel
theorem dX12_windNow_24 : decode cX12_windNow 24 = .ok (.iaload, 1) := by decide +kernel
theorem dX12_windNow_25 : decode cX12_windNow 25 = .ok (.goto 4, 3) := by decide +kernel
theorem dX12_windNow_28 : decode cX12_windNow 28 = .ok (.iconst 0, 1) := by decide +kernel
theorem dX12_windNow_29 : decode cX12_windNow 29 = .ok (.ireturn, 1) := by decide +kernel
theorem dX12_drifts_0 : decode cX12_drifts 0 = .ok (.aload_n 0, 1) := by decide +kernel
theorem dX12_drifts_1 : decode cX12_drifts 1 = .ok (.getfield 7, 3) := by decide +kernel
theorem dX12_drifts_4 : decode cX12_drifts 4 = .ok (.iconst 3, 1) := by decide +kernel
theorem dX12_drifts_5 : decode cX12_drifts 5 = .ok (.iaload, 1) := by decide +kernel
theorem dX12_drifts_6 : decode cX12_drifts 6 = .ok (.bipush 16, 2) := by decide +kernel
theorem dX12_drifts_8 : decode cX12_drifts 8 = .ok (.if_icmp .ge 27, 3) := by decide +kernel
theorem dX12_drifts_11 : decode cX12_drifts 11 = .ok (.aload_n 0, 1) := by decide +kernel
theorem dX12_drifts_12 : decode cX12_drifts 12 = .ok (.iload_n 1, 1) := by decide +kernel
theorem dX12_drifts_13 : decode cX12_drifts 13 = .ok (.iconst 0, 1) := by decide +kernel
theorem dX12_drifts_14 : decode cX12_drifts 14 = .ok (.invokevirtual 88, 3) := by decide +kernel
theorem dX12_drifts_17 : decode cX12_drifts 17 = .ok (.aload_n 0, 1) := by decide +kernel
theorem dX12_drifts_18 : decode cX12_drifts 18 = .ok (.invokevirtual 91, 3) := by decide +kernel
theorem dX12_drifts_21 : decode cX12_drifts 21 = .ok (.iconst 4, 1) := by decide +kernel
theorem dX12_drifts_22 : decode cX12_drifts 22 = .ok (.idiv, 1) := by decide +kernel
theorem dX12_drifts_23 : decode cX12_drifts 23 = .ok (.aload_n 0, 1) := by decide +kernel
theorem dX12_drifts_24 : decode cX12_drifts 24 = .ok (.getfield 7, 3) := by decide +kernel
theorem dX12_drifts_27 : decode cX12_drifts 27 = .ok (.iconst 3, 1) := by decide +kernel
theorem dX12_drifts_28 : decode cX12_drifts 28 = .ok (.iaload, 1) := by decide +kernel
theorem dX12_drifts_29 : decode cX12_drifts 29 = .ok (.invokestatic 95, 3) := by decide +kernel
theorem dX12_drifts_32 : decode cX12_drifts 32 = .ok (.goto 4, 3) := by decide +kernel
theorem dX12_drifts_35 : decode cX12_drifts 35 = .ok (.iconst 0, 1) := by decide +kernel
theorem dX12_drifts_36 : decode cX12_drifts 36 = .ok (.ireturn, 1) := by decide +kernel
theorem dX12_fee_0 : decode cX12_fee 0 = .ok (.aload_n 0, 1) := by decide +kernel
theorem dX12_fee_1 : decode cX12_fee 1 = .ok (.iload_n 1, 1) := by decide +kernel
theorem dX12_fee_2 : decode cX12_fee 2 = .ok (.iconst 0, 1) := by decide +kernel
theorem dX12_fee_3 : decode cX12_fee 3 = .ok (.invokevirtual 88, 3) := by decide +kernel
theorem dX12_fee_6 : decode cX12_fee 6 = .ok (.tableswitch 52 1 5 #[34, 37, 41, 48, 50], 34) := by decide +kernel
theorem dX12_fee_40 : decode cX12_fee 40 = .ok (.bipush 6, 2) := by decide +kernel
theorem dX12_fee_42 : decode cX12_fee 42 = .ok (.ireturn, 1) := by decide +kernel
theorem dX12_fee_43 : decode cX12_fee 43 = .ok (.iconst 4, 1) := by decide +kernel
theorem dX12_fee_44 : decode cX12_fee 44 = .ok (.iload_n 1, 1) := by decide +kernel
theorem dX12_fee_45 : decode cX12_fee 45 = .ok (.iadd, 1) := by decide +kernel
theorem dX12_fee_46 : decode cX12_fee 46 = .ok (.ireturn, 1) := by decide +kernel
theorem dX12_fee_47 : decode cX12_fee 47 = .ok (.bipush 8, 2) := by decide +kernel
theorem dX12_fee_49 : decode cX12_fee 49 = .ok (.iconst 2, 1) := by decide +kernel
theorem dX12_fee_50 : decode cX12_fee 50 = .ok (.iload_n 1, 1) := by decide +kernel
theorem dX12_fee_51 : decode cX12_fee 51 = .ok (.imul, 1) := by decide +kernel
theorem dX12_fee_52 : decode cX12_fee 52 = .ok (.iadd, 1) := by decide +kernel
theorem dX12_fee_53 : decode cX12_fee 53 = .ok (.ireturn, 1) := by decide +kernel
theorem dX12_fee_54 : decode cX12_fee 54 = .ok (.iconst 3, 1) := by decide +kernel
theorem dX12_fee_55 : decode cX12_fee 55 = .ok (.ireturn, 1) := by decide +kernel
theorem dX12_fee_56 : decode cX12_fee 56 = .ok (.iconst 1, 1) := by decide +kernel
theorem dX12_fee_57 : decode cX12_fee 57 = .ok (.ireturn, 1) := by decide +kernel
theorem dX12_fee_58 : decode cX12_fee 58 = .ok (.iconst 4, 1) := by decide +kernel
theorem dX12_fee_59 : decode cX12_fee 59 = .ok (.ireturn, 1) := by decide +kernel
theorem dX12_distance_0 : decode cX12_distance 0 = .ok (.iload_n 0, 1) := by decide +kernel
theorem dX12_distance_1 : decode cX12_distance 1 = .ok (.iload_n 1, 1) := by decide +kernel
theorem dX12_distance_2 : decode cX12_distance 2 = .ok (.if_icmp .ge 9, 3) := by decide +kernel
theorem dX12_distance_5 : decode cX12_distance 5 = .ok (.iload_n 1, 1) := by decide +kernel
theorem dX12_distance_6 : decode cX12_distance 6 = .ok (.iload_n 0, 1) := by decide +kernel
theorem dX12_distance_7 : decode cX12_distance 7 = .ok (.isub, 1) := by decide +kernel
theorem dX12_distance_8 : decode cX12_distance 8 = .ok (.goto 6, 3) := by decide +kernel
theorem dX12_distance_11 : decode cX12_distance 11 = .ok (.iload_n 0, 1) := by decide +kernel
theorem dX12_distance_12 : decode cX12_distance 12 = .ok (.iload_n 1, 1) := by decide +kernel
theorem dX12_distance_13 : decode cX12_distance 13 = .ok (.isub, 1) := by decide +kernel
theorem dX12_distance_14 : decode cX12_distance 14 = .ok (.ireturn, 1) := by decide +kernel
theorem dX12_far_0 : decode cX12_far 0 = .ok (.iload_n 0, 1) := by decide +kernel
theorem dX12_far_1 : decode cX12_far 1 = .ok (.bipush 8, 2) := by decide +kernel
theorem dX12_far_3 : decode cX12_far 3 = .ok (.irem, 1) := by decide +kernel
theorem dX12_far_4 : decode cX12_far 4 = .ok (.iload_n 1, 1) := by decide +kernel
theorem dX12_far_5 : decode cX12_far 5 = .ok (.bipush 8, 2) := by decide +kernel
theorem dX12_far_7 : decode cX12_far 7 = .ok (.irem, 1) := by decide +kernel
theorem dX12_far_8 : decode cX12_far 8 = .ok (.invokestatic 99, 3) := by decide +kernel
theorem dX12_far_11 : decode cX12_far 11 = .ok (.iload_n 0, 1) := by decide +kernel
theorem dX12_far_12 : decode cX12_far 12 = .ok (.bipush 8, 2) := by decide +kernel
theorem dX12_far_14 : decode cX12_far 14 = .ok (.idiv, 1) := by decide +kernel
theorem dX12_far_15 : decode cX12_far 15 = .ok (.iload_n 1, 1) := by decide +kernel
theorem dX12_far_16 : decode cX12_far 16 = .ok (.bipush 8, 2) := by decide +kernel
theorem dX12_far_18 : decode cX12_far 18 = .ok (.idiv, 1) := by decide +kernel
theorem dX12_far_19 : decode cX12_far 19 = .ok (.invokestatic 99, 3) := by decide +kernel
theorem dX12_far_22 : decode cX12_far 22 = .ok (.iadd, 1) := by decide +kernel
theorem dX12_far_23 : decode cX12_far 23 = .ok (.ireturn, 1) := by decide +kernel
theorem dX12_farOf_0 : decode cX12_farOf 0 = .ok (.aload_n 0, 1) := by decide +kernel
theorem dX12_farOf_1 : decode cX12_farOf 1 = .ok (.iload_n 1, 1) := by decide +kernel
theorem dX12_farOf_2 : decode cX12_farOf 2 = .ok (.iconst 1, 1) := by decide +kernel
theorem dX12_farOf_3 : decode cX12_farOf 3 = .ok (.invokevirtual 88, 3) := by decide +kernel
theorem dX12_farOf_6 : decode cX12_farOf 6 = .ok (.aload_n 0, 1) := by decide +kernel
theorem dX12_farOf_7 : decode cX12_farOf 7 = .ok (.getfield 7, 3) := by decide +kernel
theorem dX12_farOf_10 : decode cX12_farOf 10 = .ok (.bipush 23, 2) := by decide +kernel
theorem dX12_farOf_12 : decode cX12_farOf 12 = .ok (.iconst 2, 1) := by decide +kernel
theorem dX12_farOf_13 : decode cX12_farOf 13 = .ok (.aload_n 0, 1) := by decide +kernel
theorem dX12_farOf_14 : decode cX12_farOf 14 = .ok (.iload_n 1, 1) := by decide +kernel
theorem dX12_farOf_15 : decode cX12_farOf 15 = .ok (.iconst 3, 1) := by decide +kernel
theorem dX12_farOf_16 : decode cX12_farOf 16 = .ok (.invokevirtual 88, 3) := by decide +kernel
theorem dX12_farOf_19 : decode cX12_farOf 19 = .ok (.imul, 1) := by decide +kernel
theorem dX12_farOf_20 : decode cX12_farOf 20 = .ok (.iadd, 1) := by decide +kernel
theorem dX12_farOf_21 : decode cX12_farOf 21 = .ok (.iaload, 1) := by decide +kernel
theorem dX12_farOf_22 : decode cX12_farOf 22 = .ok (.invokestatic 102, 3) := by decide +kernel
theorem dX12_farOf_25 : decode cX12_farOf 25 = .ok (.ireturn, 1) := by decide +kernel
theorem dX12_isReached_0 : decode cX12_isReached 0 = .ok (.aload_n 0, 1) := by decide +kernel
theorem dX12_isReached_1 : decode cX12_isReached 1 = .ok (.iload_n 1, 1) := by decide +kernel
theorem dX12_isReached_2 : decode cX12_isReached 2 = .ok (.invokevirtual 105, 3) := by decide +kernel
theorem dX12_isReached_5 : decode cX12_isReached 5 = .ok (.aload_n 0, 1) := by decide +kernel
theorem dX12_isReached_6 : decode cX12_isReached 6 = .ok (.getfield 7, 3) := by decide +kernel
theorem dX12_isReached_9 : decode cX12_isReached 9 = .ok (.bipush 23, 2) := by decide +kernel
theorem dX12_isReached_11 : decode cX12_isReached 11 = .ok (.iconst 2, 1) := by decide +kernel
theorem dX12_isReached_12 : decode cX12_isReached 12 = .ok (.aload_n 0, 1) := by decide +kernel
theorem dX12_isReached_13 : decode cX12_isReached 13 = .ok (.iload_n 1, 1) := by decide +kernel
theorem dX12_isReached_14 : decode cX12_isReached 14 = .ok (.iconst 3, 1) := by decide +kernel
theorem dX12_isReached_15 : decode cX12_isReached 15 = .ok (.invokevirtual 88, 3) := by decide +kernel
theorem dX12_isReached_18 : decode cX12_isReached 18 = .ok (.imul, 1) := by decide +kernel
theorem dX12_isReached_19 : decode cX12_isReached 19 = .ok (.iadd, 1) := by decide +kernel
theorem dX12_isReached_20 : decode cX12_isReached 20 = .ok (.iconst 1, 1) := by decide +kernel
theorem dX12_isReached_21 : decode cX12_isReached 21 = .ok (.iadd, 1) := by decide +kernel
theorem dX12_isReached_22 : decode cX12_isReached 22 = .ok (.iaload, 1) := by decide +kernel
theorem dX12_isReached_23 : decode cX12_isReached 23 = .ok (.if_icmp .gt 7, 3) := by decide +kernel
theorem dX12_isReached_26 : decode cX12_isReached 26 = .ok (.iconst 1, 1) := by decide +kernel
theorem dX12_isReached_27 : decode cX12_isReached 27 = .ok (.goto 4, 3) := by decide +kernel
theorem dX12_isReached_30 : decode cX12_isReached 30 = .ok (.iconst 0, 1) := by decide +kernel
theorem dX12_isReached_31 : decode cX12_isReached 31 = .ok (.ireturn, 1) := by decide +kernel
theorem dX12_kiteOf_0 : decode cX12_kiteOf 0 = .ok (.aload_n 0, 1) := by decide +kernel
theorem dX12_kiteOf_1 : decode cX12_kiteOf 1 = .ok (.iload_n 1, 1) := by decide +kernel
theorem dX12_kiteOf_2 : decode cX12_kiteOf 2 = .ok (.invokevirtual 109, 3) := by decide +kernel
theorem dX12_kiteOf_5 : decode cX12_kiteOf 5 = .ok (.ifCond .eq 15, 3) := by decide +kernel
theorem dX12_kiteOf_8 : decode cX12_kiteOf 8 = .ok (.iload_n 2, 1) := by decide +kernel
theorem dX12_kiteOf_9 : decode cX12_kiteOf 9 = .ok (.i2l, 1) := by decide +kernel
theorem dX12_kiteOf_10 : decode cX12_kiteOf 10 = .ok (.lconst 0, 1) := by decide +kernel
theorem dX12_kiteOf_11 : decode cX12_kiteOf 11 = .ok (.ldc2_w 74, 3) := by decide +kernel
theorem dX12_kiteOf_14 : decode cX12_kiteOf 14 = .ok (.invokestatic 58, 3) := by decide +kernel
theorem dX12_kiteOf_17 : decode cX12_kiteOf 17 = .ok (.ifCond .ne 5, 3) := by decide +kernel
theorem dX12_kiteOf_20 : decode cX12_kiteOf 20 = .ok (.iconst (-1), 1) := by decide +kernel
theorem dX12_kiteOf_21 : decode cX12_kiteOf 21 = .ok (.ireturn, 1) := by decide +kernel
theorem dX12_kiteOf_22 : decode cX12_kiteOf 22 = .ok (.iload_n 2, 1) := by decide +kernel
theorem dX12_kiteOf_23 : decode cX12_kiteOf 23 = .ok (.tableswitch 53 6 9 #[29, 35, 41, 47], 29) := by decide +kernel
theorem dX12_kiteOf_52 : decode cX12_kiteOf 52 = .ok (.aload_n 0, 1) := by decide +kernel
theorem dX12_kiteOf_53 : decode cX12_kiteOf 53 = .ok (.iload_n 1, 1) := by decide +kernel
theorem dX12_kiteOf_54 : decode cX12_kiteOf 54 = .ok (.invokevirtual 112, 3) := by decide +kernel
theorem dX12_kiteOf_57 : decode cX12_kiteOf 57 = .ok (.ireturn, 1) := by decide +kernel
theorem dX12_kiteOf_58 : decode cX12_kiteOf 58 = .ok (.aload_n 0, 1) := by decide +kernel
theorem dX12_kiteOf_59 : decode cX12_kiteOf 59 = .ok (.iload_n 1, 1) := by decide +kernel
theorem dX12_kiteOf_60 : decode cX12_kiteOf 60 = .ok (.invokevirtual 115, 3) := by decide +kernel
theorem dX12_kiteOf_63 : decode cX12_kiteOf 63 = .ok (.ireturn, 1) := by decide +kernel
theorem dX12_kiteOf_64 : decode cX12_kiteOf 64 = .ok (.aload_n 0, 1) := by decide +kernel
theorem dX12_kiteOf_65 : decode cX12_kiteOf 65 = .ok (.iload_n 1, 1) := by decide +kernel
theorem dX12_kiteOf_66 : decode cX12_kiteOf 66 = .ok (.invokevirtual 118, 3) := by decide +kernel
theorem dX12_kiteOf_69 : decode cX12_kiteOf 69 = .ok (.ireturn, 1) := by decide +kernel
theorem dX12_kiteOf_70 : decode cX12_kiteOf 70 = .ok (.aload_n 0, 1) := by decide +kernel
theorem dX12_kiteOf_71 : decode cX12_kiteOf 71 = .ok (.iload_n 1, 1) := by decide +kernel
theorem dX12_kiteOf_72 : decode cX12_kiteOf 72 = .ok (.invokevirtual 105, 3) := by decide +kernel
theorem dX12_kiteOf_75 : decode cX12_kiteOf 75 = .ok (.ireturn, 1) := by decide +kernel
theorem dX12_kiteOf_76 : decode cX12_kiteOf 76 = .ok (.aload_n 0, 1) := by decide +kernel
theorem dX12_kiteOf_77 : decode cX12_kiteOf 77 = .ok (.iload_n 1, 1) := by decide +kernel
theorem dX12_kiteOf_78 : decode cX12_kiteOf 78 = .ok (.iload_n 2, 1) := by decide +kernel
theorem dX12_kiteOf_79 : decode cX12_kiteOf 79 = .ok (.invokevirtual 88, 3) := by decide +kernel
theorem dX12_kiteOf_82 : decode cX12_kiteOf 82 = .ok (.ireturn, 1) := by decide +kernel
theorem dX12_change_0 : decode cX12_change 0 = .ok (.aload_n 0, 1) := by decide +kernel
theorem dX12_change_1 : decode cX12_change 1 = .ok (.iload_n 1, 1) := by decide +kernel
theorem dX12_change_2 : decode cX12_change 2 = .ok (.invokevirtual 109, 3) := by decide +kernel
theorem dX12_change_5 : decode cX12_change 5 = .ok (.ifCond .eq 24, 3) := by decide +kernel
theorem dX12_change_8 : decode cX12_change 8 = .ok (.iload_n 2, 1) := by decide +kernel
theorem dX12_change_9 : decode cX12_change 9 = .ok (.iload_n 3, 1) := by decide +kernel
theorem dX12_change_10 : decode cX12_change 10 = .ok (.invokestatic 84, 3) := by decide +kernel
theorem dX12_change_13 : decode cX12_change 13 = .ok (.ifCond .eq 16, 3) := by decide +kernel
theorem dX12_change_16 : decode cX12_change 16 = .ok (.aload_n 0, 1) := by decide +kernel
theorem dX12_change_17 : decode cX12_change 17 = .ok (.iload_n 1, 1) := by decide +kernel
theorem dX12_change_18 : decode cX12_change 18 = .ok (.iload_n 2, 1) := by decide +kernel
theorem dX12_change_19 : decode cX12_change 19 = .ok (.invokestatic 62, 3) := by decide +kernel
theorem dX12_change_22 : decode cX12_change 22 = .ok (.iload_n 3, 1) := by decide +kernel
theorem dX12_change_23 : decode cX12_change 23 = .ok (.invokevirtual 121, 3) := by decide +kernel
theorem dX12_change_26 : decode cX12_change 26 = .ok (.goto 4, 3) := by decide +kernel
theorem dX12_change_29 : decode cX12_change 29 = .ok (.iconst (-1), 1) := by decide +kernel
theorem dX12_change_30 : decode cX12_change 30 = .ok (.ireturn, 1) := by decide +kernel
theorem dX12_remake_0 : decode cX12_remake 0 = .ok (.aload_n 0, 1) := by decide +kernel
theorem dX12_remake_1 : decode cX12_remake 1 = .ok (.iload_n 1, 1) := by decide +kernel
theorem dX12_remake_2 : decode cX12_remake 2 = .ok (.invokevirtual 109, 3) := by decide +kernel
theorem dX12_remake_5 : decode cX12_remake 5 = .ok (.ifCond .eq 23, 3) := by decide +kernel
theorem dX12_remake_8 : decode cX12_remake 8 = .ok (.iload_n 2, 1) := by decide +kernel
theorem dX12_remake_9 : decode cX12_remake 9 = .ok (.invokestatic 81, 3) := by decide +kernel
theorem dX12_remake_12 : decode cX12_remake 12 = .ok (.ifCond .eq 16, 3) := by decide +kernel
theorem dX12_remake_15 : decode cX12_remake 15 = .ok (.aload_n 0, 1) := by decide +kernel
theorem dX12_remake_16 : decode cX12_remake 16 = .ok (.iload_n 1, 1) := by decide +kernel
theorem dX12_remake_17 : decode cX12_remake 17 = .ok (.iconst 0, 1) := by decide +kernel
theorem dX12_remake_18 : decode cX12_remake 18 = .ok (.invokestatic 62, 3) := by decide +kernel
theorem dX12_remake_21 : decode cX12_remake 21 = .ok (.iload_n 2, 1) := by decide +kernel
theorem dX12_remake_22 : decode cX12_remake 22 = .ok (.invokevirtual 121, 3) := by decide +kernel
theorem dX12_remake_25 : decode cX12_remake 25 = .ok (.goto 4, 3) := by decide +kernel
theorem dX12_remake_28 : decode cX12_remake 28 = .ok (.iconst (-1), 1) := by decide +kernel
theorem dX12_remake_29 : decode cX12_remake 29 = .ok (.ireturn, 1) := by decide +kernel
theorem dX12_isGust_0 : decode cX12_isGust 0 = .ok (.iload_n 0, 1) := by decide +kernel
theorem dX12_isGust_1 : decode cX12_isGust 1 = .ok (.i2l, 1) := by decide +kernel
theorem dX12_isGust_2 : decode cX12_isGust 2 = .ok (.lconst 0, 1) := by decide +kernel
theorem dX12_isGust_3 : decode cX12_isGust 3 = .ok (.ldc2_w 124, 3) := by decide +kernel
theorem dX12_isGust_6 : decode cX12_isGust 6 = .ok (.invokestatic 58, 3) := by decide +kernel
theorem dX12_isGust_9 : decode cX12_isGust 9 = .ok (.ireturn, 1) := by decide +kernel
theorem dX12_wind_0 : decode cX12_wind 0 = .ok (.iload_n 1, 1) := by decide +kernel
theorem dX12_wind_1 : decode cX12_wind 1 = .ok (.invokestatic 126, 3) := by decide +kernel
theorem dX12_wind_4 : decode cX12_wind 4 = .ok (.ifCond .eq 27, 3) := by decide +kernel
theorem dX12_wind_7 : decode cX12_wind 7 = .ok (.iload_n 2, 1) := by decide +kernel
theorem dX12_wind_8 : decode cX12_wind 8 = .ok (.i2l, 1) := by decide +kernel
theorem dX12_wind_9 : decode cX12_wind 9 = .ok (.lconst 0, 1) := by decide +kernel
theorem dX12_wind_10 : decode cX12_wind 10 = .ok (.ldc2_w 124, 3) := by decide +kernel
theorem dX12_wind_13 : decode cX12_wind 13 = .ok (.invokestatic 58, 3) := by decide +kernel
theorem dX12_wind_16 : decode cX12_wind 16 = .ok (.ifCond .eq 15, 3) := by decide +kernel
theorem dX12_wind_19 : decode cX12_wind 19 = .ok (.aload_n 0, 1) := by decide +kernel
theorem dX12_wind_20 : decode cX12_wind 20 = .ok (.bipush 7, 2) := by decide +kernel
theorem dX12_wind_22 : decode cX12_wind 22 = .ok (.iload_n 1, 1) := by decide +kernel
theorem dX12_wind_23 : decode cX12_wind 23 = .ok (.iadd, 1) := by decide +kernel
theorem dX12_wind_24 : decode cX12_wind 24 = .ok (.iload_n 2, 1) := by decide +kernel
theorem dX12_wind_25 : decode cX12_wind 25 = .ok (.invokevirtual 121, 3) := by decide +kernel
theorem dX12_wind_28 : decode cX12_wind 28 = .ok (.goto 4, 3) := by decide +kernel
theorem dX12_wind_31 : decode cX12_wind 31 = .ok (.iconst (-1), 1) := by decide +kernel
theorem dX12_wind_32 : decode cX12_wind 32 = .ok (.ireturn, 1) := by decide +kernel
theorem dX12_farm_0 : decode cX12_farm 0 = .ok (.iload_n 2, 1) := by decide +kernel
theorem dX12_farm_1 : decode cX12_farm 1 = .ok (.ifCond .ne 10, 3) := by decide +kernel
theorem dX12_farm_4 : decode cX12_farm 4 = .ok (.iload_n 3, 1) := by decide +kernel
theorem dX12_farm_5 : decode cX12_farm 5 = .ok (.invokestatic 70, 3) := by decide +kernel
theorem dX12_farm_8 : decode cX12_farm 8 = .ok (.goto 25, 3) := by decide +kernel
theorem dX12_farm_11 : decode cX12_farm 11 = .ok (.iload_n 2, 1) := by decide +kernel
theorem dX12_farm_12 : decode cX12_farm 12 = .ok (.iconst 1, 1) := by decide +kernel
theorem dX12_farm_13 : decode cX12_farm 13 = .ok (.if_icmp .ne 19, 3) := by decide +kernel
theorem dX12_farm_16 : decode cX12_farm 16 = .ok (.iload_n 3, 1) := by decide +kernel
theorem dX12_farm_17 : decode cX12_farm 17 = .ok (.i2l, 1) := by decide +kernel
theorem dX12_farm_18 : decode cX12_farm 18 = .ok (.lconst 0, 1) := by decide +kernel
theorem dX12_farm_19 : decode cX12_farm 19 = .ok (.ldc2_w 129, 3) := by decide +kernel
theorem dX12_farm_22 : decode cX12_farm 22 = .ok (.invokestatic 58, 3) := by decide +kernel
theorem dX12_farm_25 : decode cX12_farm 25 = .ok (.ifCond .eq 7, 3) := by decide +kernel
theorem dX12_farm_28 : decode cX12_farm 28 = .ok (.iconst 1, 1) := by decide +kernel
theorem dX12_farm_29 : decode cX12_farm 29 = .ok (.goto 4, 3) := by decide +kernel
theorem dX12_farm_32 : decode cX12_farm 32 = .ok (.iconst 0, 1) := by decide +kernel
theorem dX12_farm_33 : decode cX12_farm 33 = .ok (.istore 4, 2) := by decide +kernel
theorem dX12_farm_35 : decode cX12_farm 35 = .ok (.iload_n 1, 1) := by decide +kernel
theorem dX12_farm_36 : decode cX12_farm 36 = .ok (.invokestatic 76, 3) := by decide +kernel
theorem dX12_farm_39 : decode cX12_farm 39 = .ok (.ifCond .eq 24, 3) := by decide +kernel
theorem dX12_farm_42 : decode cX12_farm 42 = .ok (.iload 4, 2) := by decide +kernel
theorem dX12_farm_44 : decode cX12_farm 44 = .ok (.ifCond .eq 19, 3) := by decide +kernel
theorem dX12_farm_47 : decode cX12_farm 47 = .ok (.aload_n 0, 1) := by decide +kernel
theorem dX12_farm_48 : decode cX12_farm 48 = .ok (.bipush 23, 2) := by decide +kernel
theorem dX12_farm_50 : decode cX12_farm 50 = .ok (.iconst 2, 1) := by decide +kernel
theorem dX12_farm_51 : decode cX12_farm 51 = .ok (.iload_n 1, 1) := by decide +kernel
theorem dX12_farm_52 : decode cX12_farm 52 = .ok (.imul, 1) := by decide +kernel
theorem dX12_farm_53 : decode cX12_farm 53 = .ok (.iadd, 1) := by decide +kernel
theorem dX12_farm_54 : decode cX12_farm 54 = .ok (.iload_n 2, 1) := by decide +kernel
theorem dX12_farm_55 : decode cX12_farm 55 = .ok (.iadd, 1) := by decide +kernel
theorem dX12_farm_56 : decode cX12_farm 56 = .ok (.iload_n 3, 1) := by decide +kernel
theorem dX12_farm_57 : decode cX12_farm 57 = .ok (.invokevirtual 121, 3) := by decide +kernel
theorem dX12_farm_60 : decode cX12_farm 60 = .ok (.goto 4, 3) := by decide +kernel
theorem dX12_farm_63 : decode cX12_farm 63 = .ok (.iconst (-1), 1) := by decide +kernel
theorem dX12_farm_64 : decode cX12_farm 64 = .ok (.ireturn, 1) := by decide +kernel
theorem dX12_farmOf_0 : decode cX12_farmOf 0 = .ok (.iload_n 1, 1) := by decide +kernel
theorem dX12_farmOf_1 : decode cX12_farmOf 1 = .ok (.invokestatic 76, 3) := by decide +kernel
theorem dX12_farmOf_4 : decode cX12_farmOf 4 = .ok (.ifCond .eq 29, 3) := by decide +kernel
theorem dX12_farmOf_7 : decode cX12_farmOf 7 = .ok (.iload_n 2, 1) := by decide +kernel
theorem dX12_farmOf_8 : decode cX12_farmOf 8 = .ok (.i2l, 1) := by decide +kernel
theorem dX12_farmOf_9 : decode cX12_farmOf 9 = .ok (.lconst 0, 1) := by decide +kernel
theorem dX12_farmOf_10 : decode cX12_farmOf 10 = .ok (.lconst 1, 1) := by decide +kernel
theorem dX12_farmOf_11 : decode cX12_farmOf 11 = .ok (.invokestatic 58, 3) := by decide +kernel
theorem dX12_farmOf_14 : decode cX12_farmOf 14 = .ok (.ifCond .eq 19, 3) := by decide +kernel
theorem dX12_farmOf_17 : decode cX12_farmOf 17 = .ok (.aload_n 0, 1) := by decide +kernel
theorem dX12_farmOf_18 : decode cX12_farmOf 18 = .ok (.getfield 7, 3) := by decide +kernel
theorem dX12_farmOf_21 : decode cX12_farmOf 21 = .ok (.bipush 23, 2) := by decide +kernel
theorem dX12_farmOf_23 : decode cX12_farmOf 23 = .ok (.iconst 2, 1) := by decide +kernel
theorem dX12_farmOf_24 : decode cX12_farmOf 24 = .ok (.iload_n 1, 1) := by decide +kernel
theorem dX12_farmOf_25 : decode cX12_farmOf 25 = .ok (.imul, 1) := by decide +kernel
theorem dX12_farmOf_26 : decode cX12_farmOf 26 = .ok (.iadd, 1) := by decide +kernel
theorem dX12_farmOf_27 : decode cX12_farmOf 27 = .ok (.iload_n 2, 1) := by decide +kernel
theorem dX12_farmOf_28 : decode cX12_farmOf 28 = .ok (.iadd, 1) := by decide +kernel
theorem dX12_farmOf_29 : decode cX12_farmOf 29 = .ok (.iaload, 1) := by decide +kernel
theorem dX12_farmOf_30 : decode cX12_farmOf 30 = .ok (.goto 4, 3) := by decide +kernel
theorem dX12_farmOf_33 : decode cX12_farmOf 33 = .ok (.iconst (-1), 1) := by decide +kernel
theorem dX12_farmOf_34 : decode cX12_farmOf 34 = .ok (.ireturn, 1) := by decide +kernel
theorem dX12_ends_0 : decode cX12_ends 0 = .ok (.iload_n 1, 1) := by decide +kernel
theorem dX12_ends_1 : decode cX12_ends 1 = .ok (.i2l, 1) := by decide +kernel
theorem dX12_ends_2 : decode cX12_ends 2 = .ok (.lconst 1, 1) := by decide +kernel
theorem dX12_ends_3 : decode cX12_ends 3 = .ok (.ldc2_w 131, 3) := by decide +kernel
theorem dX12_ends_6 : decode cX12_ends 6 = .ok (.invokestatic 58, 3) := by decide +kernel
theorem dX12_ends_9 : decode cX12_ends 9 = .ok (.ifCond .ne 7, 3) := by decide +kernel
theorem dX12_ends_12 : decode cX12_ends 12 = .ok (.iconst (-1), 1) := by decide +kernel
theorem dX12_ends_13 : decode cX12_ends 13 = .ok (.goto 24, 3) := by decide +kernel
theorem dX12_ends_16 : decode cX12_ends 16 = .ok (.iload_n 1, 1) := by decide +kernel
theorem dX12_ends_17 : decode cX12_ends 17 = .ok (.aload_n 0, 1) := by decide +kernel
theorem dX12_ends_18 : decode cX12_ends 18 = .ok (.getfield 7, 3) := by decide +kernel
theorem dX12_ends_21 : decode cX12_ends 21 = .ok (.iconst 3, 1) := by decide +kernel
theorem dX12_ends_22 : decode cX12_ends 22 = .ok (.iaload, 1) := by decide +kernel
theorem dX12_ends_23 : decode cX12_ends 23 = .ok (.if_icmp .ge 8, 3) := by decide +kernel
theorem dX12_ends_26 : decode cX12_ends 26 = .ok (.bipush (-4), 2) := by decide +kernel
theorem dX12_ends_28 : decode cX12_ends 28 = .ok (.goto 9, 3) := by decide +kernel
theorem dX12_ends_31 : decode cX12_ends 31 = .ok (.aload_n 0, 1) := by decide +kernel
theorem dX12_ends_32 : decode cX12_ends 32 = .ok (.iconst 2, 1) := by decide +kernel
theorem dX12_ends_33 : decode cX12_ends 33 = .ok (.iload_n 1, 1) := by decide +kernel
theorem dX12_ends_34 : decode cX12_ends 34 = .ok (.invokevirtual 121, 3) := by decide +kernel
theorem dX12_ends_37 : decode cX12_ends 37 = .ok (.ireturn, 1) := by decide +kernel
theorem dX12_anew_0 : decode cX12_anew 0 = .ok (.aload_n 0, 1) := by decide +kernel
theorem dX12_anew_1 : decode cX12_anew 1 = .ok (.getfield 7, 3) := by decide +kernel
theorem dX12_anew_4 : decode cX12_anew 4 = .ok (.iconst 4, 1) := by decide +kernel
theorem dX12_anew_5 : decode cX12_anew 5 = .ok (.iconst 0, 1) := by decide +kernel
theorem dX12_anew_6 : decode cX12_anew 6 = .ok (.iastore, 1) := by decide +kernel
theorem dX12_anew_7 : decode cX12_anew 7 = .ok (.iconst 0, 1) := by decide +kernel
theorem dX12_anew_8 : decode cX12_anew 8 = .ok (.istore_n 1, 1) := by decide +kernel
theorem dX12_anew_9 : decode cX12_anew 9 = .ok (.iload_n 1, 1) := by decide +kernel
theorem dX12_anew_10 : decode cX12_anew 10 = .ok (.aload_n 0, 1) := by decide +kernel
theorem dX12_anew_11 : decode cX12_anew 11 = .ok (.getfield 7, 3) := by decide +kernel
theorem dX12_anew_14 : decode cX12_anew 14 = .ok (.iconst 0, 1) := by decide +kernel
theorem dX12_anew_15 : decode cX12_anew 15 = .ok (.iaload, 1) := by decide +kernel
theorem dX12_anew_16 : decode cX12_anew 16 = .ok (.if_icmp .ge 31, 3) := by decide +kernel
theorem dX12_anew_19 : decode cX12_anew 19 = .ok (.aload_n 0, 1) := by decide +kernel
theorem dX12_anew_20 : decode cX12_anew 20 = .ok (.getfield 7, 3) := by decide +kernel
theorem dX12_anew_23 : decode cX12_anew 23 = .ok (.iload_n 1, 1) := by decide +kernel
theorem dX12_anew_24 : decode cX12_anew 24 = .ok (.iconst 4, 1) := by decide +kernel
theorem dX12_anew_25 : decode cX12_anew 25 = .ok (.invokestatic 62, 3) := by decide +kernel
theorem dX12_anew_28 : decode cX12_anew 28 = .ok (.iconst 1, 1) := by decide +kernel
theorem dX12_anew_29 : decode cX12_anew 29 = .ok (.iastore, 1) := by decide +kernel
theorem dX12_anew_30 : decode cX12_anew 30 = .ok (.aload_n 0, 1) := by decide +kernel
theorem dX12_anew_31 : decode cX12_anew 31 = .ok (.getfield 7, 3) := by decide +kernel
theorem dX12_anew_34 : decode cX12_anew 34 = .ok (.iload_n 1, 1) := by decide +kernel
theorem dX12_anew_35 : decode cX12_anew 35 = .ok (.iconst 5, 1) := by decide +kernel
theorem dX12_anew_36 : decode cX12_anew 36 = .ok (.invokestatic 62, 3) := by decide +kernel
theorem dX12_anew_39 : decode cX12_anew 39 = .ok (.iconst 0, 1) := by decide +kernel
theorem dX12_anew_40 : decode cX12_anew 40 = .ok (.iastore, 1) := by decide +kernel
theorem dX12_anew_41 : decode cX12_anew 41 = .ok (.iinc 1 1, 3) := by decide +kernel
theorem dX12_anew_44 : decode cX12_anew 44 = .ok (.goto (-35), 3) := by decide +kernel
theorem dX12_anew_47 : decode cX12_anew 47 = .ok (.aload_n 0, 1) := by decide +kernel
theorem dX12_anew_48 : decode cX12_anew 48 = .ok (.iconst 3, 1) := by decide +kernel
theorem dX12_anew_49 : decode cX12_anew 49 = .ok (.iconst 0, 1) := by decide +kernel
theorem dX12_anew_50 : decode cX12_anew 50 = .ok (.invokevirtual 121, 3) := by decide +kernel
theorem dX12_anew_53 : decode cX12_anew 53 = .ok (.ireturn, 1) := by decide +kernel
theorem dX12_isOver_0 : decode cX12_isOver 0 = .ok (.aload_n 0, 1) := by decide +kernel
theorem dX12_isOver_1 : decode cX12_isOver 1 = .ok (.getfield 7, 3) := by decide +kernel
theorem dX12_isOver_4 : decode cX12_isOver 4 = .ok (.iconst 3, 1) := by decide +kernel
theorem dX12_isOver_5 : decode cX12_isOver 5 = .ok (.iaload, 1) := by decide +kernel
theorem dX12_isOver_6 : decode cX12_isOver 6 = .ok (.aload_n 0, 1) := by decide +kernel
theorem dX12_isOver_7 : decode cX12_isOver 7 = .ok (.getfield 7, 3) := by decide +kernel
theorem dX12_isOver_10 : decode cX12_isOver 10 = .ok (.iconst 2, 1) := by decide +kernel
theorem dX12_isOver_11 : decode cX12_isOver 11 = .ok (.iaload, 1) := by decide +kernel
theorem dX12_isOver_12 : decode cX12_isOver 12 = .ok (.if_icmp .lt 7, 3) := by decide +kernel
theorem dX12_isOver_15 : decode cX12_isOver 15 = .ok (.iconst 1, 1) := by decide +kernel
theorem dX12_isOver_16 : decode cX12_isOver 16 = .ok (.goto 4, 3) := by decide +kernel
theorem dX12_isOver_19 : decode cX12_isOver 19 = .ok (.iconst 0, 1) := by decide +kernel
theorem dX12_isOver_20 : decode cX12_isOver 20 = .ok (.ireturn, 1) := by decide +kernel
theorem dX12_those_0 : decode cX12_those 0 = .ok (.iconst 0, 1) := by decide +kernel
theorem dX12_those_1 : decode cX12_those 1 = .ok (.istore_n 2, 1) := by decide +kernel
theorem dX12_those_2 : decode cX12_those 2 = .ok (.iconst 0, 1) := by decide +kernel
theorem dX12_those_3 : decode cX12_those 3 = .ok (.istore_n 3, 1) := by decide +kernel
theorem dX12_those_4 : decode cX12_those 4 = .ok (.iload_n 3, 1) := by decide +kernel
theorem dX12_those_5 : decode cX12_those 5 = .ok (.aload_n 0, 1) := by decide +kernel
theorem dX12_those_6 : decode cX12_those 6 = .ok (.getfield 7, 3) := by decide +kernel
theorem dX12_those_9 : decode cX12_those 9 = .ok (.iconst 0, 1) := by decide +kernel
theorem dX12_those_10 : decode cX12_those 10 = .ok (.iaload, 1) := by decide +kernel
theorem dX12_those_11 : decode cX12_those 11 = .ok (.if_icmp .ge 20, 3) := by decide +kernel
theorem dX12_those_14 : decode cX12_those 14 = .ok (.iload_n 2, 1) := by decide +kernel
theorem dX12_those_15 : decode cX12_those 15 = .ok (.aload_n 0, 1) := by decide +kernel
theorem dX12_those_16 : decode cX12_those 16 = .ok (.iload_n 3, 1) := by decide +kernel
theorem dX12_those_17 : decode cX12_those 17 = .ok (.iload_n 1, 1) := by decide +kernel
theorem dX12_those_18 : decode cX12_those 18 = .ok (.invokevirtual 88, 3) := by decide +kernel
theorem dX12_those_21 : decode cX12_those 21 = .ok (.iload_n 3, 1) := by decide +kernel
theorem dX12_those_22 : decode cX12_those 22 = .ok (.ishl, 1) := by decide +kernel
theorem dX12_those_23 : decode cX12_those 23 = .ok (.ior, 1) := by decide +kernel
theorem dX12_those_24 : decode cX12_those 24 = .ok (.istore_n 2, 1) := by decide +kernel
theorem dX12_those_25 : decode cX12_those 25 = .ok (.iinc 3 1, 3) := by decide +kernel
theorem dX12_those_28 : decode cX12_those 28 = .ok (.goto (-24), 3) := by decide +kernel
theorem dX12_those_31 : decode cX12_those 31 = .ok (.iload_n 2, 1) := by decide +kernel
theorem dX12_those_32 : decode cX12_those 32 = .ok (.ireturn, 1) := by decide +kernel
theorem dX12_state_0 : decode cX12_state 0 = .ok (.iload_n 1, 1) := by decide +kernel
theorem dX12_state_1 : decode cX12_state 1 = .ok (.tableswitch 94 0 6 #[43, 50, 57, 64, 77, 83, 89], 43) := by decide +kernel
theorem dX12_state_44 : decode cX12_state 44 = .ok (.aload_n 0, 1) := by decide +kernel
theorem dX12_state_45 : decode cX12_state 45 = .ok (.getfield 7, 3) := by decide +kernel
theorem dX12_state_48 : decode cX12_state 48 = .ok (.iconst 3, 1) := by decide +kernel
theorem dX12_state_49 : decode cX12_state 49 = .ok (.iaload, 1) := by decide +kernel
theorem dX12_state_50 : decode cX12_state 50 = .ok (.ireturn, 1) := by decide +kernel
theorem dX12_state_51 : decode cX12_state 51 = .ok (.aload_n 0, 1) := by decide +kernel
theorem dX12_state_52 : decode cX12_state 52 = .ok (.getfield 7, 3) := by decide +kernel
theorem dX12_state_55 : decode cX12_state 55 = .ok (.iconst 2, 1) := by decide +kernel
theorem dX12_state_56 : decode cX12_state 56 = .ok (.iaload, 1) := by decide +kernel
theorem dX12_state_57 : decode cX12_state 57 = .ok (.ireturn, 1) := by decide +kernel
theorem dX12_state_58 : decode cX12_state 58 = .ok (.aload_n 0, 1) := by decide +kernel
theorem dX12_state_59 : decode cX12_state 59 = .ok (.getfield 7, 3) := by decide +kernel
theorem dX12_state_62 : decode cX12_state 62 = .ok (.iconst 4, 1) := by decide +kernel
theorem dX12_state_63 : decode cX12_state 63 = .ok (.iaload, 1) := by decide +kernel
theorem dX12_state_64 : decode cX12_state 64 = .ok (.ireturn, 1) := by decide +kernel
theorem dX12_state_65 : decode cX12_state 65 = .ok (.aload_n 0, 1) := by decide +kernel
theorem dX12_state_66 : decode cX12_state 66 = .ok (.invokevirtual 133, 3) := by decide +kernel
theorem dX12_state_69 : decode cX12_state 69 = .ok (.ifCond .eq 7, 3) := by decide +kernel
theorem dX12_state_72 : decode cX12_state 72 = .ok (.iconst 1, 1) := by decide +kernel
theorem dX12_state_73 : decode cX12_state 73 = .ok (.goto 4, 3) := by decide +kernel
theorem dX12_state_76 : decode cX12_state 76 = .ok (.iconst 0, 1) := by decide +kernel
theorem dX12_state_77 : decode cX12_state 77 = .ok (.ireturn, 1) := by decide +kernel
theorem dX12_state_78 : decode cX12_state 78 = .ok (.aload_n 0, 1) := by decide +kernel
theorem dX12_state_79 : decode cX12_state 79 = .ok (.iconst 4, 1) := by decide +kernel
theorem dX12_state_80 : decode cX12_state 80 = .ok (.invokevirtual 137, 3) := by decide +kernel
theorem dX12_state_83 : decode cX12_state 83 = .ok (.ireturn, 1) := by decide +kernel
theorem dX12_state_84 : decode cX12_state 84 = .ok (.aload_n 0, 1) := by decide +kernel
theorem dX12_state_85 : decode cX12_state 85 = .ok (.iconst 5, 1) := by decide +kernel
theorem dX12_state_86 : decode cX12_state 86 = .ok (.invokevirtual 137, 3) := by decide +kernel
theorem dX12_state_89 : decode cX12_state 89 = .ok (.ireturn, 1) := by decide +kernel
theorem dX12_state_90 : decode cX12_state 90 = .ok (.aload_n 0, 1) := by decide +kernel
theorem dX12_state_91 : decode cX12_state 91 = .ok (.invokevirtual 91, 3) := by decide +kernel
theorem dX12_state_94 : decode cX12_state 94 = .ok (.ireturn, 1) := by decide +kernel
theorem dX12_state_95 : decode cX12_state 95 = .ok (.iconst (-1), 1) := by decide +kernel
theorem dX12_state_96 : decode cX12_state 96 = .ok (.ireturn, 1) := by decide +kernel
theorem dX12_isUnder_0 : decode cX12_isUnder 0 = .ok (.iload_n 1, 1) := by decide +kernel
theorem dX12_isUnder_1 : decode cX12_isUnder 1 = .ok (.ifCond .eq 28, 3) := by decide +kernel
theorem dX12_isUnder_4 : decode cX12_isUnder 4 = .ok (.iload_n 0, 1) := by decide +kernel
theorem dX12_isUnder_5 : decode cX12_isUnder 5 = .ok (.iload_n 1, 1) := by decide +kernel
theorem dX12_isUnder_6 : decode cX12_isUnder 6 = .ok (.if_icmp .eq 23, 3) := by decide +kernel
theorem dX12_isUnder_9 : decode cX12_isUnder 9 = .ok (.iload_n 0, 1) := by decide +kernel
theorem dX12_isUnder_10 : decode cX12_isUnder 10 = .ok (.iconst 3, 1) := by decide +kernel
theorem dX12_isUnder_11 : decode cX12_isUnder 11 = .ok (.if_icmp .ne 8, 3) := by decide +kernel
theorem dX12_isUnder_14 : decode cX12_isUnder 14 = .ok (.iload_n 1, 1) := by decide +kernel
theorem dX12_isUnder_15 : decode cX12_isUnder 15 = .ok (.iconst 2, 1) := by decide +kernel
theorem dX12_isUnder_16 : decode cX12_isUnder 16 = .ok (.if_icmp .eq 13, 3) := by decide +kernel
theorem dX12_isUnder_19 : decode cX12_isUnder 19 = .ok (.iload_n 0, 1) := by decide +kernel
theorem dX12_isUnder_20 : decode cX12_isUnder 20 = .ok (.iconst 5, 1) := by decide +kernel
theorem dX12_isUnder_21 : decode cX12_isUnder 21 = .ok (.if_icmp .ne 12, 3) := by decide +kernel
theorem dX12_isUnder_24 : decode cX12_isUnder 24 = .ok (.iload_n 1, 1) := by decide +kernel
theorem dX12_isUnder_25 : decode cX12_isUnder 25 = .ok (.iconst 4, 1) := by decide +kernel
theorem dX12_isUnder_26 : decode cX12_isUnder 26 = .ok (.if_icmp .ne 7, 3) := by decide +kernel
theorem dX12_isUnder_29 : decode cX12_isUnder 29 = .ok (.iconst 1, 1) := by decide +kernel
theorem dX12_isUnder_30 : decode cX12_isUnder 30 = .ok (.goto 4, 3) := by decide +kernel
theorem dX12_isUnder_33 : decode cX12_isUnder 33 = .ok (.iconst 0, 1) := by decide +kernel
theorem dX12_isUnder_34 : decode cX12_isUnder 34 = .ok (.ireturn, 1) := by decide +kernel
theorem dX12_fact_0 : decode cX12_fact 0 = .ok (.iload_n 1, 1) := by decide +kernel
theorem dX12_fact_1 : decode cX12_fact 1 = .ok (.tableswitch 64 (-5) (-1) #[62, 55, 49, 42, 35], 35) := by decide +kernel
theorem dX12_fact_36 : decode cX12_fact 36 = .ok (.aload_n 0, 1) := by decide +kernel
theorem dX12_fact_37 : decode cX12_fact 37 = .ok (.getfield 7, 3) := by decide +kernel
theorem dX12_fact_40 : decode cX12_fact 40 = .ok (.iconst 3, 1) := by decide +kernel
theorem dX12_fact_41 : decode cX12_fact 41 = .ok (.iaload, 1) := by decide +kernel
theorem dX12_fact_42 : decode cX12_fact 42 = .ok (.ireturn, 1) := by decide +kernel
theorem dX12_fact_43 : decode cX12_fact 43 = .ok (.aload_n 0, 1) := by decide +kernel
theorem dX12_fact_44 : decode cX12_fact 44 = .ok (.iload_n 2, 1) := by decide +kernel
theorem dX12_fact_45 : decode cX12_fact 45 = .ok (.iconst 2, 1) := by decide +kernel
theorem dX12_fact_46 : decode cX12_fact 46 = .ok (.invokevirtual 88, 3) := by decide +kernel
theorem dX12_fact_49 : decode cX12_fact 49 = .ok (.ireturn, 1) := by decide +kernel
theorem dX12_fact_50 : decode cX12_fact 50 = .ok (.aload_n 0, 1) := by decide +kernel
theorem dX12_fact_51 : decode cX12_fact 51 = .ok (.iload_n 2, 1) := by decide +kernel
theorem dX12_fact_52 : decode cX12_fact 52 = .ok (.invokevirtual 105, 3) := by decide +kernel
theorem dX12_fact_55 : decode cX12_fact 55 = .ok (.ireturn, 1) := by decide +kernel
theorem dX12_fact_56 : decode cX12_fact 56 = .ok (.aload_n 0, 1) := by decide +kernel
theorem dX12_fact_57 : decode cX12_fact 57 = .ok (.iload_n 2, 1) := by decide +kernel
theorem dX12_fact_58 : decode cX12_fact 58 = .ok (.iconst 3, 1) := by decide +kernel
theorem dX12_fact_59 : decode cX12_fact 59 = .ok (.invokevirtual 88, 3) := by decide +kernel
theorem dX12_fact_62 : decode cX12_fact 62 = .ok (.ireturn, 1) := by decide +kernel
theorem dX12_fact_63 : decode cX12_fact 63 = .ok (.iload_n 2, 1) := by decide +kernel
theorem dX12_fact_64 : decode cX12_fact 64 = .ok (.ireturn, 1) := by decide +kernel
theorem dX12_fact_65 : decode cX12_fact 65 = .ok (.iload_n 1, 1) := by decide +kernel
theorem dX12_fact_66 : decode cX12_fact 66 = .ok (.ireturn, 1) := by decide +kernel
theorem dX12_isHolding_0 : decode cX12_isHolding 0 = .ok (.iload_n 0, 1) := by decide +kernel
theorem dX12_isHolding_1 : decode cX12_isHolding 1 = .ok (.lookupswitch 92 #[(-21, 76), (-13, 65), (-12, 54), (-11, 43)], 43) := by decide +kernel
theorem dX12_isHolding_44 : decode cX12_isHolding 44 = .ok (.iload_n 1, 1) := by decide +kernel
theorem dX12_isHolding_45 : decode cX12_isHolding 45 = .ok (.iload_n 2, 1) := by decide +kernel
theorem dX12_isHolding_46 : decode cX12_isHolding 46 = .ok (.if_icmp .ge 7, 3) := by decide +kernel
theorem dX12_isHolding_49 : decode cX12_isHolding 49 = .ok (.iconst 1, 1) := by decide +kernel
theorem dX12_isHolding_50 : decode cX12_isHolding 50 = .ok (.goto 4, 3) := by decide +kernel
theorem dX12_isHolding_53 : decode cX12_isHolding 53 = .ok (.iconst 0, 1) := by decide +kernel
theorem dX12_isHolding_54 : decode cX12_isHolding 54 = .ok (.ireturn, 1) := by decide +kernel
theorem dX12_isHolding_55 : decode cX12_isHolding 55 = .ok (.iload_n 1, 1) := by decide +kernel
theorem dX12_isHolding_56 : decode cX12_isHolding 56 = .ok (.iload_n 2, 1) := by decide +kernel
theorem dX12_isHolding_57 : decode cX12_isHolding 57 = .ok (.if_icmp .ne 7, 3) := by decide +kernel
theorem dX12_isHolding_60 : decode cX12_isHolding 60 = .ok (.iconst 1, 1) := by decide +kernel
theorem dX12_isHolding_61 : decode cX12_isHolding 61 = .ok (.goto 4, 3) := by decide +kernel
theorem dX12_isHolding_64 : decode cX12_isHolding 64 = .ok (.iconst 0, 1) := by decide +kernel
theorem dX12_isHolding_65 : decode cX12_isHolding 65 = .ok (.ireturn, 1) := by decide +kernel
theorem dX12_isHolding_66 : decode cX12_isHolding 66 = .ok (.iload_n 1, 1) := by decide +kernel
theorem dX12_isHolding_67 : decode cX12_isHolding 67 = .ok (.iload_n 2, 1) := by decide +kernel
theorem dX12_isHolding_68 : decode cX12_isHolding 68 = .ok (.if_icmp .le 7, 3) := by decide +kernel
theorem dX12_isHolding_71 : decode cX12_isHolding 71 = .ok (.iconst 1, 1) := by decide +kernel
theorem dX12_isHolding_72 : decode cX12_isHolding 72 = .ok (.goto 4, 3) := by decide +kernel
theorem dX12_isHolding_75 : decode cX12_isHolding 75 = .ok (.iconst 0, 1) := by decide +kernel
theorem dX12_isHolding_76 : decode cX12_isHolding 76 = .ok (.ireturn, 1) := by decide +kernel
theorem dX12_isHolding_77 : decode cX12_isHolding 77 = .ok (.iload_n 1, 1) := by decide +kernel
theorem dX12_isHolding_78 : decode cX12_isHolding 78 = .ok (.iconst 1, 1) := by decide +kernel
theorem dX12_isHolding_79 : decode cX12_isHolding 79 = .ok (.if_icmp .ne 12, 3) := by decide +kernel
theorem dX12_isHolding_82 : decode cX12_isHolding 82 = .ok (.iload_n 2, 1) := by decide +kernel
theorem dX12_isHolding_83 : decode cX12_isHolding 83 = .ok (.iconst 1, 1) := by decide +kernel
theorem dX12_isHolding_84 : decode cX12_isHolding 84 = .ok (.if_icmp .ne 7, 3) := by decide +kernel
theorem dX12_isHolding_87 : decode cX12_isHolding 87 = .ok (.iconst 1, 1) := by decide +kernel
theorem dX12_isHolding_88 : decode cX12_isHolding 88 = .ok (.goto 4, 3) := by decide +kernel
theorem dX12_isHolding_91 : decode cX12_isHolding 91 = .ok (.iconst 0, 1) := by decide +kernel
theorem dX12_isHolding_92 : decode cX12_isHolding 92 = .ok (.ireturn, 1) := by decide +kernel
theorem dX12_isHolding_93 : decode cX12_isHolding 93 = .ok (.iload_n 1, 1) := by decide +kernel
theorem dX12_isHolding_94 : decode cX12_isHolding 94 = .ok (.iconst 1, 1) := by decide +kernel
theorem dX12_isHolding_95 : decode cX12_isHolding 95 = .ok (.if_icmp .eq 8, 3) := by decide +kernel
theorem dX12_isHolding_98 : decode cX12_isHolding 98 = .ok (.iload_n 2, 1) := by decide +kernel
theorem dX12_isHolding_99 : decode cX12_isHolding 99 = .ok (.iconst 1, 1) := by decide +kernel
theorem dX12_isHolding_100 : decode cX12_isHolding 100 = .ok (.if_icmp .ne 7, 3) := by decide +kernel
theorem dX12_isHolding_103 : decode cX12_isHolding 103 = .ok (.iconst 1, 1) := by decide +kernel
theorem dX12_isHolding_104 : decode cX12_isHolding 104 = .ok (.goto 4, 3) := by decide +kernel
theorem dX12_isHolding_107 : decode cX12_isHolding 107 = .ok (.iconst 0, 1) := by decide +kernel
theorem dX12_isHolding_108 : decode cX12_isHolding 108 = .ok (.ireturn, 1) := by decide +kernel
theorem dX12_isSo_0 : decode cX12_isSo 0 = .ok (.iconst 0, 1) := by decide +kernel
theorem dX12_isSo_1 : decode cX12_isSo 1 = .ok (.istore 4, 2) := by decide +kernel
theorem dX12_isSo_3 : decode cX12_isSo 3 = .ok (.iload_n 1, 1) := by decide +kernel
theorem dX12_isSo_4 : decode cX12_isSo 4 = .ok (.istore 5, 2) := by decide +kernel
theorem dX12_isSo_6 : decode cX12_isSo 6 = .ok (.iload 5, 2) := by decide +kernel
theorem dX12_isSo_8 : decode cX12_isSo 8 = .ok (.iload_n 2, 1) := by decide +kernel
theorem dX12_isSo_9 : decode cX12_isSo 9 = .ok (.if_icmp .ge 119, 3) := by decide +kernel
theorem dX12_isSo_12 : decode cX12_isSo 12 = .ok (.aload_n 0, 1) := by decide +kernel
theorem dX12_isSo_13 : decode cX12_isSo 13 = .ok (.getfield 7, 3) := by decide +kernel
theorem dX12_isSo_16 : decode cX12_isSo 16 = .ok (.bipush 119, 2) := by decide +kernel
theorem dX12_isSo_18 : decode cX12_isSo 18 = .ok (.iload 5, 2) := by decide +kernel
theorem dX12_isSo_20 : decode cX12_isSo 20 = .ok (.iadd, 1) := by decide +kernel
theorem dX12_isSo_21 : decode cX12_isSo 21 = .ok (.iaload, 1) := by decide +kernel
theorem dX12_isSo_22 : decode cX12_isSo 22 = .ok (.istore 6, 2) := by decide +kernel
theorem dX12_isSo_24 : decode cX12_isSo 24 = .ok (.iload 6, 2) := by decide +kernel
theorem dX12_isSo_26 : decode cX12_isSo 26 = .ok (.bipush (-10), 2) := by decide +kernel
theorem dX12_isSo_28 : decode cX12_isSo 28 = .ok (.if_icmp .le 23, 3) := by decide +kernel
theorem dX12_isSo_31 : decode cX12_isSo 31 = .ok (.aload_n 0, 1) := by decide +kernel
theorem dX12_isSo_32 : decode cX12_isSo 32 = .ok (.getfield 19, 3) := by decide +kernel
theorem dX12_isSo_35 : decode cX12_isSo 35 = .ok (.iload 4, 2) := by decide +kernel
theorem dX12_isSo_37 : decode cX12_isSo 37 = .ok (.aload_n 0, 1) := by decide +kernel
theorem dX12_isSo_38 : decode cX12_isSo 38 = .ok (.iload 6, 2) := by decide +kernel
theorem dX12_isSo_40 : decode cX12_isSo 40 = .ok (.iload_n 3, 1) := by decide +kernel
theorem dX12_isSo_41 : decode cX12_isSo 41 = .ok (.invokevirtual 140, 3) := by decide +kernel
theorem dX12_isSo_44 : decode cX12_isSo 44 = .ok (.iastore, 1) := by decide +kernel
theorem dX12_isSo_45 : decode cX12_isSo 45 = .ok (.iinc 4 1, 3) := by decide +kernel
theorem dX12_isSo_48 : decode cX12_isSo 48 = .ok (.goto 74, 3) := by decide +kernel
theorem dX12_isSo_51 : decode cX12_isSo 51 = .ok (.iload 6, 2) := by decide +kernel
theorem dX12_isSo_53 : decode cX12_isSo 53 = .ok (.bipush (-20), 2) := by decide +kernel
theorem dX12_isSo_55 : decode cX12_isSo 55 = .ok (.if_icmp .ne 26, 3) := by decide +kernel
theorem dX12_isSo_58 : decode cX12_isSo 58 = .ok (.aload_n 0, 1) := by decide +kernel
theorem dX12_isSo_59 : decode cX12_isSo 59 = .ok (.getfield 19, 3) := by decide +kernel
theorem dX12_isSo_62 : decode cX12_isSo 62 = .ok (.iload 4, 2) := by decide +kernel
theorem dX12_isSo_64 : decode cX12_isSo 64 = .ok (.iconst 1, 1) := by decide +kernel
theorem dX12_isSo_65 : decode cX12_isSo 65 = .ok (.isub, 1) := by decide +kernel
theorem dX12_isSo_66 : decode cX12_isSo 66 = .ok (.iconst 1, 1) := by decide +kernel
theorem dX12_isSo_67 : decode cX12_isSo 67 = .ok (.aload_n 0, 1) := by decide +kernel
theorem dX12_isSo_68 : decode cX12_isSo 68 = .ok (.getfield 19, 3) := by decide +kernel
theorem dX12_isSo_71 : decode cX12_isSo 71 = .ok (.iload 4, 2) := by decide +kernel
theorem dX12_isSo_73 : decode cX12_isSo 73 = .ok (.iconst 1, 1) := by decide +kernel
theorem dX12_isSo_74 : decode cX12_isSo 74 = .ok (.isub, 1) := by decide +kernel
theorem dX12_isSo_75 : decode cX12_isSo 75 = .ok (.iaload, 1) := by decide +kernel
theorem dX12_isSo_76 : decode cX12_isSo 76 = .ok (.isub, 1) := by decide +kernel
theorem dX12_isSo_77 : decode cX12_isSo 77 = .ok (.iastore, 1) := by decide +kernel
theorem dX12_isSo_78 : decode cX12_isSo 78 = .ok (.goto 44, 3) := by decide +kernel
theorem dX12_isSo_81 : decode cX12_isSo 81 = .ok (.iinc 4 (-1), 3) := by decide +kernel
theorem dX12_isSo_84 : decode cX12_isSo 84 = .ok (.aload_n 0, 1) := by decide +kernel
theorem dX12_isSo_85 : decode cX12_isSo 85 = .ok (.getfield 19, 3) := by decide +kernel
theorem dX12_isSo_88 : decode cX12_isSo 88 = .ok (.iload 4, 2) := by decide +kernel
theorem dX12_isSo_90 : decode cX12_isSo 90 = .ok (.iconst 1, 1) := by decide +kernel
theorem dX12_isSo_91 : decode cX12_isSo 91 = .ok (.isub, 1) := by decide +kernel
theorem dX12_isSo_92 : decode cX12_isSo 92 = .ok (.iload 6, 2) := by decide +kernel
theorem dX12_isSo_94 : decode cX12_isSo 94 = .ok (.aload_n 0, 1) := by decide +kernel
theorem dX12_isSo_95 : decode cX12_isSo 95 = .ok (.getfield 19, 3) := by decide +kernel
theorem dX12_isSo_98 : decode cX12_isSo 98 = .ok (.iload 4, 2) := by decide +kernel
theorem dX12_isSo_100 : decode cX12_isSo 100 = .ok (.iconst 1, 1) := by decide +kernel
theorem dX12_isSo_101 : decode cX12_isSo 101 = .ok (.isub, 1) := by decide +kernel
theorem dX12_isSo_102 : decode cX12_isSo 102 = .ok (.iaload, 1) := by decide +kernel
theorem dX12_isSo_103 : decode cX12_isSo 103 = .ok (.aload_n 0, 1) := by decide +kernel
theorem dX12_isSo_104 : decode cX12_isSo 104 = .ok (.getfield 19, 3) := by decide +kernel
theorem dX12_isSo_107 : decode cX12_isSo 107 = .ok (.iload 4, 2) := by decide +kernel
theorem dX12_isSo_109 : decode cX12_isSo 109 = .ok (.iaload, 1) := by decide +kernel
theorem dX12_isSo_110 : decode cX12_isSo 110 = .ok (.invokestatic 143, 3) := by decide +kernel
theorem dX12_isSo_113 : decode cX12_isSo 113 = .ok (.ifCond .eq 7, 3) := by decide +kernel
theorem dX12_isSo_116 : decode cX12_isSo 116 = .ok (.iconst 1, 1) := by decide +kernel
theorem dX12_isSo_117 : decode cX12_isSo 117 = .ok (.goto 4, 3) := by decide +kernel
theorem dX12_isSo_120 : decode cX12_isSo 120 = .ok (.iconst 0, 1) := by decide +kernel
theorem dX12_isSo_121 : decode cX12_isSo 121 = .ok (.iastore, 1) := by decide +kernel
theorem dX12_isSo_122 : decode cX12_isSo 122 = .ok (.iinc 5 1, 3) := by decide +kernel
theorem dX12_isSo_125 : decode cX12_isSo 125 = .ok (.goto (-119), 3) := by decide +kernel
theorem dX12_isSo_128 : decode cX12_isSo 128 = .ok (.iload 4, 2) := by decide +kernel
theorem dX12_isSo_130 : decode cX12_isSo 130 = .ok (.ifCond .eq 13, 3) := by decide +kernel
theorem dX12_isSo_133 : decode cX12_isSo 133 = .ok (.aload_n 0, 1) := by decide +kernel
theorem dX12_isSo_134 : decode cX12_isSo 134 = .ok (.getfield 19, 3) := by decide +kernel
theorem dX12_isSo_137 : decode cX12_isSo 137 = .ok (.iconst 0, 1) := by decide +kernel
theorem dX12_isSo_138 : decode cX12_isSo 138 = .ok (.iaload, 1) := by decide +kernel
theorem dX12_isSo_139 : decode cX12_isSo 139 = .ok (.iconst 1, 1) := by decide +kernel
theorem dX12_isSo_140 : decode cX12_isSo 140 = .ok (.if_icmp .ne 7, 3) := by decide +kernel
theorem dX12_isSo_143 : decode cX12_isSo 143 = .ok (.iconst 1, 1) := by decide +kernel
theorem dX12_isSo_144 : decode cX12_isSo 144 = .ok (.goto 4, 3) := by decide +kernel
theorem dX12_isSo_147 : decode cX12_isSo 147 = .ok (.iconst 0, 1) := by decide +kernel
theorem dX12_isSo_148 : decode cX12_isSo 148 = .ok (.ireturn, 1) := by decide +kernel
theorem dX12_will_0 : decode cX12_will 0 = .ok (.aload_n 0, 1) := by decide +kernel
theorem dX12_will_1 : decode cX12_will 1 = .ok (.iload_n 1, 1) := by decide +kernel
theorem dX12_will_2 : decode cX12_will 2 = .ok (.iconst 0, 1) := by decide +kernel
theorem dX12_will_3 : decode cX12_will 3 = .ok (.invokevirtual 88, 3) := by decide +kernel
theorem dX12_will_6 : decode cX12_will 6 = .ok (.istore_n 2, 1) := by decide +kernel
theorem dX12_will_7 : decode cX12_will 7 = .ok (.iconst (-1), 1) := by decide +kernel
theorem dX12_will_8 : decode cX12_will 8 = .ok (.istore_n 3, 1) := by decide +kernel
theorem dX12_will_9 : decode cX12_will 9 = .ok (.iconst 0, 1) := by decide +kernel
theorem dX12_will_10 : decode cX12_will 10 = .ok (.istore 4, 2) := by decide +kernel
theorem dX12_will_12 : decode cX12_will 12 = .ok (.iconst 0, 1) := by decide +kernel
theorem dX12_will_13 : decode cX12_will 13 = .ok (.istore 5, 2) := by decide +kernel
theorem dX12_will_15 : decode cX12_will 15 = .ok (.iload 5, 2) := by decide +kernel
theorem dX12_will_17 : decode cX12_will 17 = .ok (.aload_n 0, 1) := by decide +kernel
theorem dX12_will_18 : decode cX12_will 18 = .ok (.getfield 7, 3) := by decide +kernel
theorem dX12_will_21 : decode cX12_will 21 = .ok (.iconst 1, 1) := by decide +kernel
theorem dX12_will_22 : decode cX12_will 22 = .ok (.iaload, 1) := by decide +kernel
theorem dX12_will_23 : decode cX12_will 23 = .ok (.if_icmp .ge 82, 3) := by decide +kernel
theorem dX12_will_26 : decode cX12_will 26 = .ok (.iload_n 3, 1) := by decide +kernel
theorem dX12_will_27 : decode cX12_will 27 = .ok (.ifCond .ge 78, 3) := by decide +kernel
theorem dX12_will_30 : decode cX12_will 30 = .ok (.bipush 95, 2) := by decide +kernel
theorem dX12_will_32 : decode cX12_will 32 = .ok (.iconst 3, 1) := by decide +kernel
theorem dX12_will_33 : decode cX12_will 33 = .ok (.iload 5, 2) := by decide +kernel
theorem dX12_will_35 : decode cX12_will 35 = .ok (.imul, 1) := by decide +kernel
theorem dX12_will_36 : decode cX12_will 36 = .ok (.iadd, 1) := by decide +kernel
theorem dX12_will_37 : decode cX12_will 37 = .ok (.istore 6, 2) := by decide +kernel
theorem dX12_will_39 : decode cX12_will 39 = .ok (.iload_n 2, 1) := by decide +kernel
theorem dX12_will_40 : decode cX12_will 40 = .ok (.aload_n 0, 1) := by decide +kernel
theorem dX12_will_41 : decode cX12_will 41 = .ok (.getfield 7, 3) := by decide +kernel
theorem dX12_will_44 : decode cX12_will 44 = .ok (.iload 6, 2) := by decide +kernel
theorem dX12_will_46 : decode cX12_will 46 = .ok (.iconst 0, 1) := by decide +kernel
theorem dX12_will_47 : decode cX12_will 47 = .ok (.iadd, 1) := by decide +kernel
theorem dX12_will_48 : decode cX12_will 48 = .ok (.iaload, 1) := by decide +kernel
theorem dX12_will_49 : decode cX12_will 49 = .ok (.invokestatic 147, 3) := by decide +kernel
theorem dX12_will_52 : decode cX12_will 52 = .ok (.ifCond .eq 34, 3) := by decide +kernel
theorem dX12_will_55 : decode cX12_will 55 = .ok (.aload_n 0, 1) := by decide +kernel
theorem dX12_will_56 : decode cX12_will 56 = .ok (.iload 4, 2) := by decide +kernel
theorem dX12_will_58 : decode cX12_will 58 = .ok (.aload_n 0, 1) := by decide +kernel
theorem dX12_will_59 : decode cX12_will 59 = .ok (.getfield 7, 3) := by decide +kernel
theorem dX12_will_62 : decode cX12_will 62 = .ok (.iload 6, 2) := by decide +kernel
theorem dX12_will_64 : decode cX12_will 64 = .ok (.iconst 2, 1) := by decide +kernel
theorem dX12_will_65 : decode cX12_will 65 = .ok (.iadd, 1) := by decide +kernel
theorem dX12_will_66 : decode cX12_will 66 = .ok (.iaload, 1) := by decide +kernel
theorem dX12_will_67 : decode cX12_will 67 = .ok (.iload_n 1, 1) := by decide +kernel
theorem dX12_will_68 : decode cX12_will 68 = .ok (.invokevirtual 150, 3) := by decide +kernel
theorem dX12_will_71 : decode cX12_will 71 = .ok (.ifCond .eq 15, 3) := by decide +kernel
theorem dX12_will_74 : decode cX12_will 74 = .ok (.aload_n 0, 1) := by decide +kernel
theorem dX12_will_75 : decode cX12_will 75 = .ok (.getfield 7, 3) := by decide +kernel
theorem dX12_will_78 : decode cX12_will 78 = .ok (.iload 6, 2) := by decide +kernel
theorem dX12_will_80 : decode cX12_will 80 = .ok (.iconst 1, 1) := by decide +kernel
theorem dX12_will_81 : decode cX12_will 81 = .ok (.iadd, 1) := by decide +kernel
theorem dX12_will_82 : decode cX12_will 82 = .ok (.iaload, 1) := by decide +kernel
theorem dX12_will_83 : decode cX12_will 83 = .ok (.goto 4, 3) := by decide +kernel
theorem dX12_will_86 : decode cX12_will 86 = .ok (.iconst (-1), 1) := by decide +kernel
theorem dX12_will_87 : decode cX12_will 87 = .ok (.istore_n 3, 1) := by decide +kernel
theorem dX12_will_88 : decode cX12_will 88 = .ok (.aload_n 0, 1) := by decide +kernel
theorem dX12_will_89 : decode cX12_will 89 = .ok (.getfield 7, 3) := by decide +kernel
theorem dX12_will_92 : decode cX12_will 92 = .ok (.iload 6, 2) := by decide +kernel
theorem dX12_will_94 : decode cX12_will 94 = .ok (.iconst 2, 1) := by decide +kernel
theorem dX12_will_95 : decode cX12_will 95 = .ok (.iadd, 1) := by decide +kernel
theorem dX12_will_96 : decode cX12_will 96 = .ok (.iaload, 1) := by decide +kernel
theorem dX12_will_97 : decode cX12_will 97 = .ok (.istore 4, 2) := by decide +kernel
theorem dX12_will_99 : decode cX12_will 99 = .ok (.iinc 5 1, 3) := by decide +kernel
theorem dX12_will_102 : decode cX12_will 102 = .ok (.goto (-87), 3) := by decide +kernel
theorem dX12_will_105 : decode cX12_will 105 = .ok (.iload_n 3, 1) := by decide +kernel
theorem dX12_will_106 : decode cX12_will 106 = .ok (.ifCond .ge 7, 3) := by decide +kernel
theorem dX12_will_109 : decode cX12_will 109 = .ok (.iconst 0, 1) := by decide +kernel
theorem dX12_will_110 : decode cX12_will 110 = .ok (.goto 4, 3) := by decide +kernel
theorem dX12_will_113 : decode cX12_will 113 = .ok (.iload_n 3, 1) := by decide +kernel
theorem dX12_will_114 : decode cX12_will 114 = .ok (.ireturn, 1) := by decide +kernel
theorem dX12_room_0 : decode cX12_room 0 = .ok (.iload_n 0, 1) := by decide +kernel
theorem dX12_room_1 : decode cX12_room 1 = .ok (.bipush 8, 2) := by decide +kernel
theorem dX12_room_3 : decode cX12_room 3 = .ok (.irem, 1) := by decide +kernel
theorem dX12_room_4 : decode cX12_room 4 = .ok (.istore_n 3, 1) := by decide +kernel
theorem dX12_room_5 : decode cX12_room 5 = .ok (.iload_n 0, 1) := by decide +kernel
theorem dX12_room_6 : decode cX12_room 6 = .ok (.bipush 8, 2) := by decide +kernel
theorem dX12_room_8 : decode cX12_room 8 = .ok (.idiv, 1) := by decide +kernel
theorem dX12_room_9 : decode cX12_room 9 = .ok (.istore 4, 2) := by decide +kernel
theorem dX12_room_11 : decode cX12_room 11 = .ok (.iload_n 1, 1) := by decide +kernel
theorem dX12_room_12 : decode cX12_room 12 = .ok (.ifCond .ne 10, 3) := by decide +kernel
theorem dX12_room_15 : decode cX12_room 15 = .ok (.bipush 7, 2) := by decide +kernel
theorem dX12_room_17 : decode cX12_room 17 = .ok (.iload_n 3, 1) := by decide +kernel
theorem dX12_room_18 : decode cX12_room 18 = .ok (.isub, 1) := by decide +kernel
theorem dX12_room_19 : decode cX12_room 19 = .ok (.goto 27, 3) := by decide +kernel
theorem dX12_room_22 : decode cX12_room 22 = .ok (.iload_n 1, 1) := by decide +kernel
theorem dX12_room_23 : decode cX12_room 23 = .ok (.iconst 1, 1) := by decide +kernel
theorem dX12_room_24 : decode cX12_room 24 = .ok (.if_icmp .ne 11, 3) := by decide +kernel
theorem dX12_room_27 : decode cX12_room 27 = .ok (.bipush 7, 2) := by decide +kernel
theorem dX12_room_29 : decode cX12_room 29 = .ok (.iload 4, 2) := by decide +kernel
theorem dX12_room_31 : decode cX12_room 31 = .ok (.isub, 1) := by decide +kernel
theorem dX12_room_32 : decode cX12_room 32 = .ok (.goto 14, 3) := by decide +kernel
theorem dX12_room_35 : decode cX12_room 35 = .ok (.iload_n 1, 1) := by decide +kernel
theorem dX12_room_36 : decode cX12_room 36 = .ok (.iconst 2, 1) := by decide +kernel
theorem dX12_room_37 : decode cX12_room 37 = .ok (.if_icmp .ne 7, 3) := by decide +kernel
theorem dX12_room_40 : decode cX12_room 40 = .ok (.iload_n 3, 1) := by decide +kernel
theorem dX12_room_41 : decode cX12_room 41 = .ok (.goto 5, 3) := by decide +kernel
theorem dX12_room_44 : decode cX12_room 44 = .ok (.iload 4, 2) := by decide +kernel
theorem dX12_room_46 : decode cX12_room 46 = .ok (.istore 5, 2) := by decide +kernel
theorem dX12_room_48 : decode cX12_room 48 = .ok (.iload_n 2, 1) := by decide +kernel
theorem dX12_room_49 : decode cX12_room 49 = .ok (.iload 5, 2) := by decide +kernel
theorem dX12_room_51 : decode cX12_room 51 = .ok (.if_icmp .ge 7, 3) := by decide +kernel
theorem dX12_room_54 : decode cX12_room 54 = .ok (.iload_n 2, 1) := by decide +kernel
theorem dX12_room_55 : decode cX12_room 55 = .ok (.goto 5, 3) := by decide +kernel
theorem dX12_room_58 : decode cX12_room 58 = .ok (.iload 5, 2) := by decide +kernel
theorem dX12_room_60 : decode cX12_room 60 = .ok (.ireturn, 1) := by decide +kernel
theorem dX12_moved_0 : decode cX12_moved 0 = .ok (.iload_n 0, 1) := by decide +kernel
theorem dX12_moved_1 : decode cX12_moved 1 = .ok (.iload_n 1, 1) := by decide +kernel
theorem dX12_moved_2 : decode cX12_moved 2 = .ok (.ifCond .ne 7, 3) := by decide +kernel
theorem dX12_moved_5 : decode cX12_moved 5 = .ok (.iload_n 2, 1) := by decide +kernel
theorem dX12_moved_6 : decode cX12_moved 6 = .ok (.goto 29, 3) := by decide +kernel
theorem dX12_moved_9 : decode cX12_moved 9 = .ok (.iload_n 1, 1) := by decide +kernel
theorem dX12_moved_10 : decode cX12_moved 10 = .ok (.iconst 1, 1) := by decide +kernel
theorem dX12_moved_11 : decode cX12_moved 11 = .ok (.if_icmp .ne 10, 3) := by decide +kernel
theorem dX12_moved_14 : decode cX12_moved 14 = .ok (.bipush 8, 2) := by decide +kernel
theorem dX12_moved_16 : decode cX12_moved 16 = .ok (.iload_n 2, 1) := by decide +kernel
theorem dX12_moved_17 : decode cX12_moved 17 = .ok (.imul, 1) := by decide +kernel
theorem dX12_moved_18 : decode cX12_moved 18 = .ok (.goto 17, 3) := by decide +kernel
theorem dX12_moved_21 : decode cX12_moved 21 = .ok (.iload_n 1, 1) := by decide +kernel
theorem dX12_moved_22 : decode cX12_moved 22 = .ok (.iconst 2, 1) := by decide +kernel
theorem dX12_moved_23 : decode cX12_moved 23 = .ok (.if_icmp .ne 8, 3) := by decide +kernel
theorem dX12_moved_26 : decode cX12_moved 26 = .ok (.iload_n 2, 1) := by decide +kernel
theorem dX12_moved_27 : decode cX12_moved 27 = .ok (.ineg, 1) := by decide +kernel
theorem dX12_moved_28 : decode cX12_moved 28 = .ok (.goto 7, 3) := by decide +kernel
theorem dX12_moved_31 : decode cX12_moved 31 = .ok (.bipush (-8), 2) := by decide +kernel
theorem dX12_moved_33 : decode cX12_moved 33 = .ok (.iload_n 2, 1) := by decide +kernel
theorem dX12_moved_34 : decode cX12_moved 34 = .ok (.imul, 1) := by decide +kernel
theorem dX12_moved_35 : decode cX12_moved 35 = .ok (.iadd, 1) := by decide +kernel
theorem dX12_moved_36 : decode cX12_moved 36 = .ok (.ireturn, 1) := by decide +kernel
theorem dX12_blows_0 : decode cX12_blows 0 = .ok (.aload_n 0, 1) := by decide +kernel
theorem dX12_blows_1 : decode cX12_blows 1 = .ok (.getfield 7, 3) := by decide +kernel
theorem dX12_blows_4 : decode cX12_blows 4 = .ok (.bipush 7, 2) := by decide +kernel
theorem dX12_blows_6 : decode cX12_blows 6 = .ok (.aload_n 0, 1) := by decide +kernel
theorem dX12_blows_7 : decode cX12_blows 7 = .ok (.getfield 7, 3) := by decide +kernel
theorem dX12_blows_10 : decode cX12_blows 10 = .ok (.iconst 3, 1) := by decide +kernel
theorem dX12_blows_11 : decode cX12_blows 11 = .ok (.iaload, 1) := by decide +kernel
theorem dX12_blows_12 : decode cX12_blows 12 = .ok (.iadd, 1) := by decide +kernel
theorem dX12_blows_13 : decode cX12_blows 13 = .ok (.iaload, 1) := by decide +kernel
theorem dX12_blows_14 : decode cX12_blows 14 = .ok (.iconst 4, 1) := by decide +kernel
theorem dX12_blows_15 : decode cX12_blows 15 = .ok (.irem, 1) := by decide +kernel
theorem dX12_blows_16 : decode cX12_blows 16 = .ok (.istore_n 1, 1) := by decide +kernel
theorem dX12_blows_17 : decode cX12_blows 17 = .ok (.iconst 0, 1) := by decide +kernel
theorem dX12_blows_18 : decode cX12_blows 18 = .ok (.istore_n 2, 1) := by decide +kernel
theorem dX12_blows_19 : decode cX12_blows 19 = .ok (.iload_n 2, 1) := by decide +kernel
theorem dX12_blows_20 : decode cX12_blows 20 = .ok (.aload_n 0, 1) := by decide +kernel
theorem dX12_blows_21 : decode cX12_blows 21 = .ok (.getfield 7, 3) := by decide +kernel
theorem dX12_blows_24 : decode cX12_blows 24 = .ok (.iconst 0, 1) := by decide +kernel
theorem dX12_blows_25 : decode cX12_blows 25 = .ok (.iaload, 1) := by decide +kernel
theorem dX12_blows_26 : decode cX12_blows 26 = .ok (.if_icmp .ge 98, 3) := by decide +kernel
theorem dX12_blows_29 : decode cX12_blows 29 = .ok (.aload_n 0, 1) := by decide +kernel
theorem dX12_blows_30 : decode cX12_blows 30 = .ok (.iload_n 2, 1) := by decide +kernel
theorem dX12_blows_31 : decode cX12_blows 31 = .ok (.iconst 4, 1) := by decide +kernel
theorem dX12_blows_32 : decode cX12_blows 32 = .ok (.invokevirtual 88, 3) := by decide +kernel
theorem dX12_blows_35 : decode cX12_blows 35 = .ok (.iconst 1, 1) := by decide +kernel
theorem dX12_blows_36 : decode cX12_blows 36 = .ok (.if_icmp .ne 82, 3) := by decide +kernel
theorem dX12_blows_39 : decode cX12_blows 39 = .ok (.aload_n 0, 1) := by decide +kernel
theorem dX12_blows_40 : decode cX12_blows 40 = .ok (.iload_n 2, 1) := by decide +kernel
theorem dX12_blows_41 : decode cX12_blows 41 = .ok (.invokevirtual 112, 3) := by decide +kernel
theorem dX12_blows_44 : decode cX12_blows 44 = .ok (.aload_n 0, 1) := by decide +kernel
theorem dX12_blows_45 : decode cX12_blows 45 = .ok (.iload_n 2, 1) := by decide +kernel
theorem dX12_blows_46 : decode cX12_blows 46 = .ok (.iconst 2, 1) := by decide +kernel
theorem dX12_blows_47 : decode cX12_blows 47 = .ok (.invokevirtual 88, 3) := by decide +kernel
theorem dX12_blows_50 : decode cX12_blows 50 = .ok (.if_icmp .ge 11, 3) := by decide +kernel
theorem dX12_blows_53 : decode cX12_blows 53 = .ok (.aload_n 0, 1) := by decide +kernel
theorem dX12_blows_54 : decode cX12_blows 54 = .ok (.iload_n 2, 1) := by decide +kernel
theorem dX12_blows_55 : decode cX12_blows 55 = .ok (.invokevirtual 112, 3) := by decide +kernel
theorem dX12_blows_58 : decode cX12_blows 58 = .ok (.goto 9, 3) := by decide +kernel
theorem dX12_blows_61 : decode cX12_blows 61 = .ok (.aload_n 0, 1) := by decide +kernel
theorem dX12_blows_62 : decode cX12_blows 62 = .ok (.iload_n 2, 1) := by decide +kernel
theorem dX12_blows_63 : decode cX12_blows 63 = .ok (.iconst 2, 1) := by decide +kernel
theorem dX12_blows_64 : decode cX12_blows 64 = .ok (.invokevirtual 88, 3) := by decide +kernel
theorem dX12_blows_67 : decode cX12_blows 67 = .ok (.istore_n 3, 1) := by decide +kernel
theorem dX12_blows_68 : decode cX12_blows 68 = .ok (.aload_n 0, 1) := by decide +kernel
theorem dX12_blows_69 : decode cX12_blows 69 = .ok (.iload_n 2, 1) := by decide +kernel
theorem dX12_blows_70 : decode cX12_blows 70 = .ok (.iconst 1, 1) := by decide +kernel
theorem dX12_blows_71 : decode cX12_blows 71 = .ok (.invokevirtual 88, 3) := by decide +kernel
theorem dX12_blows_74 : decode cX12_blows 74 = .ok (.iload_n 1, 1) := by decide +kernel
theorem dX12_blows_75 : decode cX12_blows 75 = .ok (.iload_n 3, 1) := by decide +kernel
theorem dX12_blows_76 : decode cX12_blows 76 = .ok (.invokestatic 153, 3) := by decide +kernel
theorem dX12_blows_79 : decode cX12_blows 79 = .ok (.istore 4, 2) := by decide +kernel
theorem dX12_blows_81 : decode cX12_blows 81 = .ok (.aload_n 0, 1) := by decide +kernel
theorem dX12_blows_82 : decode cX12_blows 82 = .ok (.getfield 7, 3) := by decide +kernel
theorem dX12_blows_85 : decode cX12_blows 85 = .ok (.iload_n 2, 1) := by decide +kernel
theorem dX12_blows_86 : decode cX12_blows 86 = .ok (.iconst 1, 1) := by decide +kernel
theorem dX12_blows_87 : decode cX12_blows 87 = .ok (.invokestatic 62, 3) := by decide +kernel
theorem dX12_blows_90 : decode cX12_blows 90 = .ok (.aload_n 0, 1) := by decide +kernel
theorem dX12_blows_91 : decode cX12_blows 91 = .ok (.iload_n 2, 1) := by decide +kernel
theorem dX12_blows_92 : decode cX12_blows 92 = .ok (.iconst 1, 1) := by decide +kernel
theorem dX12_blows_93 : decode cX12_blows 93 = .ok (.invokevirtual 88, 3) := by decide +kernel
theorem dX12_blows_96 : decode cX12_blows 96 = .ok (.iload_n 1, 1) := by decide +kernel
theorem dX12_blows_97 : decode cX12_blows 97 = .ok (.iload 4, 2) := by decide +kernel
theorem dX12_blows_99 : decode cX12_blows 99 = .ok (.invokestatic 156, 3) := by decide +kernel
theorem dX12_blows_102 : decode cX12_blows 102 = .ok (.iastore, 1) := by decide +kernel
theorem dX12_blows_103 : decode cX12_blows 103 = .ok (.aload_n 0, 1) := by decide +kernel
theorem dX12_blows_104 : decode cX12_blows 104 = .ok (.getfield 7, 3) := by decide +kernel
theorem dX12_blows_107 : decode cX12_blows 107 = .ok (.iload_n 2, 1) := by decide +kernel
theorem dX12_blows_108 : decode cX12_blows 108 = .ok (.iconst 2, 1) := by decide +kernel
theorem dX12_blows_109 : decode cX12_blows 109 = .ok (.invokestatic 62, 3) := by decide +kernel
theorem dX12_blows_112 : decode cX12_blows 112 = .ok (.dup2, 1) := by decide +kernel
theorem dX12_blows_113 : decode cX12_blows 113 = .ok (.iaload, 1) := by decide +kernel
theorem dX12_blows_114 : decode cX12_blows 114 = .ok (.iload 4, 2) := by decide +kernel
theorem dX12_blows_116 : decode cX12_blows 116 = .ok (.isub, 1) := by decide +kernel
theorem dX12_blows_117 : decode cX12_blows 117 = .ok (.iastore, 1) := by decide +kernel
theorem dX12_blows_118 : decode cX12_blows 118 = .ok (.iinc 2 1, 3) := by decide +kernel
theorem dX12_blows_121 : decode cX12_blows 121 = .ok (.goto (-102), 3) := by decide +kernel
theorem dX12_blows_124 : decode cX12_blows 124 = .ok (.return_, 1) := by decide +kernel
theorem dX12_chosen_0 : decode cX12_chosen 0 = .ok (.iconst 0, 1) := by decide +kernel
theorem dX12_chosen_1 : decode cX12_chosen 1 = .ok (.istore_n 1, 1) := by decide +kernel
theorem dX12_chosen_2 : decode cX12_chosen 2 = .ok (.iload_n 1, 1) := by decide +kernel
theorem dX12_chosen_3 : decode cX12_chosen 3 = .ok (.aload_n 0, 1) := by decide +kernel
theorem dX12_chosen_4 : decode cX12_chosen 4 = .ok (.getfield 7, 3) := by decide +kernel
theorem dX12_chosen_7 : decode cX12_chosen 7 = .ok (.iconst 0, 1) := by decide +kernel
theorem dX12_chosen_8 : decode cX12_chosen 8 = .ok (.iaload, 1) := by decide +kernel
theorem dX12_chosen_9 : decode cX12_chosen 9 = .ok (.if_icmp .ge 31, 3) := by decide +kernel
theorem dX12_chosen_12 : decode cX12_chosen 12 = .ok (.aload_n 0, 1) := by decide +kernel
theorem dX12_chosen_13 : decode cX12_chosen 13 = .ok (.iload_n 1, 1) := by decide +kernel
theorem dX12_chosen_14 : decode cX12_chosen 14 = .ok (.iconst 4, 1) := by decide +kernel
theorem dX12_chosen_15 : decode cX12_chosen 15 = .ok (.invokevirtual 88, 3) := by decide +kernel
theorem dX12_chosen_18 : decode cX12_chosen 18 = .ok (.iconst 1, 1) := by decide +kernel
theorem dX12_chosen_19 : decode cX12_chosen 19 = .ok (.if_icmp .ne 15, 3) := by decide +kernel
theorem dX12_chosen_22 : decode cX12_chosen 22 = .ok (.aload_n 0, 1) := by decide +kernel
theorem dX12_chosen_23 : decode cX12_chosen 23 = .ok (.iload_n 1, 1) := by decide +kernel
theorem dX12_chosen_24 : decode cX12_chosen 24 = .ok (.invokevirtual 159, 3) := by decide +kernel
theorem dX12_chosen_27 : decode cX12_chosen 27 = .ok (.ifCond .eq 7, 3) := by decide +kernel
theorem dX12_chosen_30 : decode cX12_chosen 30 = .ok (.iload_n 1, 1) := by decide +kernel
theorem dX12_chosen_31 : decode cX12_chosen 31 = .ok (.iconst 1, 1) := by decide +kernel
theorem dX12_chosen_32 : decode cX12_chosen 32 = .ok (.iadd, 1) := by decide +kernel
theorem dX12_chosen_33 : decode cX12_chosen 33 = .ok (.ireturn, 1) := by decide +kernel
theorem dX12_chosen_34 : decode cX12_chosen 34 = .ok (.iinc 1 1, 3) := by decide +kernel
theorem dX12_chosen_37 : decode cX12_chosen 37 = .ok (.goto (-35), 3) := by decide +kernel
theorem dX12_chosen_40 : decode cX12_chosen 40 = .ok (.iconst 0, 1) := by decide +kernel
theorem dX12_chosen_41 : decode cX12_chosen 41 = .ok (.ireturn, 1) := by decide +kernel
theorem dX12_isTold_0 : decode cX12_isTold 0 = .ok (.aload_n 0, 1) := by decide +kernel
theorem dX12_isTold_1 : decode cX12_isTold 1 = .ok (.iload_n 1, 1) := by decide +kernel
theorem dX12_isTold_2 : decode cX12_isTold 2 = .ok (.invokevirtual 118, 3) := by decide +kernel
theorem dX12_isTold_5 : decode cX12_isTold 5 = .ok (.istore_n 2, 1) := by decide +kernel
theorem dX12_isTold_6 : decode cX12_isTold 6 = .ok (.aload_n 0, 1) := by decide +kernel
theorem dX12_isTold_7 : decode cX12_isTold 7 = .ok (.getfield 7, 3) := by decide +kernel
theorem dX12_isTold_10 : decode cX12_isTold 10 = .ok (.iload_n 1, 1) := by decide +kernel
theorem dX12_isTold_11 : decode cX12_isTold 11 = .ok (.iconst 4, 1) := by decide +kernel
theorem dX12_isTold_12 : decode cX12_isTold 12 = .ok (.invokestatic 62, 3) := by decide +kernel
theorem dX12_isTold_15 : decode cX12_isTold 15 = .ok (.iload_n 2, 1) := by decide +kernel
theorem dX12_isTold_16 : decode cX12_isTold 16 = .ok (.iconst 1, 1) := by decide +kernel
theorem dX12_isTold_17 : decode cX12_isTold 17 = .ok (.if_icmp .ne 7, 3) := by decide +kernel
theorem dX12_isTold_20 : decode cX12_isTold 20 = .ok (.iconst 1, 1) := by decide +kernel
theorem dX12_isTold_21 : decode cX12_isTold 21 = .ok (.goto 4, 3) := by decide +kernel
theorem dX12_isTold_24 : decode cX12_isTold 24 = .ok (.iconst 0, 1) := by decide +kernel
theorem dX12_isTold_25 : decode cX12_isTold 25 = .ok (.iastore, 1) := by decide +kernel
theorem dX12_isTold_26 : decode cX12_isTold 26 = .ok (.iload_n 2, 1) := by decide +kernel
theorem dX12_isTold_27 : decode cX12_isTold 27 = .ok (.ifCond .ne 11, 3) := by decide +kernel
theorem dX12_isTold_30 : decode cX12_isTold 30 = .ok (.aload_n 0, 1) := by decide +kernel
theorem dX12_isTold_31 : decode cX12_isTold 31 = .ok (.iload_n 1, 1) := by decide +kernel
theorem dX12_isTold_32 : decode cX12_isTold 32 = .ok (.invokevirtual 159, 3) := by decide +kernel
theorem dX12_isTold_35 : decode cX12_isTold 35 = .ok (.ifCond .ne 14, 3) := by decide +kernel
theorem dX12_isTold_38 : decode cX12_isTold 38 = .ok (.iload_n 2, 1) := by decide +kernel
theorem dX12_isTold_39 : decode cX12_isTold 39 = .ok (.iconst 2, 1) := by decide +kernel
theorem dX12_isTold_40 : decode cX12_isTold 40 = .ok (.if_icmp .ne 7, 3) := by decide +kernel
theorem dX12_isTold_43 : decode cX12_isTold 43 = .ok (.iconst 1, 1) := by decide +kernel
theorem dX12_isTold_44 : decode cX12_isTold 44 = .ok (.goto 4, 3) := by decide +kernel
theorem dX12_isTold_47 : decode cX12_isTold 47 = .ok (.iconst 0, 1) := by decide +kernel
theorem dX12_isTold_48 : decode cX12_isTold 48 = .ok (.ireturn, 1) := by decide +kernel
theorem dX12_isTold_49 : decode cX12_isTold 49 = .ok (.aload_n 0, 1) := by decide +kernel
theorem dX12_isTold_50 : decode cX12_isTold 50 = .ok (.getfield 7, 3) := by decide +kernel
theorem dX12_isTold_53 : decode cX12_isTold 53 = .ok (.iload_n 1, 1) := by decide +kernel
theorem dX12_isTold_54 : decode cX12_isTold 54 = .ok (.iconst 5, 1) := by decide +kernel
theorem dX12_isTold_55 : decode cX12_isTold 55 = .ok (.invokestatic 62, 3) := by decide +kernel
theorem dX12_isTold_58 : decode cX12_isTold 58 = .ok (.iconst 1, 1) := by decide +kernel
theorem dX12_isTold_59 : decode cX12_isTold 59 = .ok (.iastore, 1) := by decide +kernel
theorem dX12_isTold_60 : decode cX12_isTold 60 = .ok (.aload_n 0, 1) := by decide +kernel
theorem dX12_isTold_61 : decode cX12_isTold 61 = .ok (.iload_n 1, 1) := by decide +kernel
theorem dX12_isTold_62 : decode cX12_isTold 62 = .ok (.invokevirtual 115, 3) := by decide +kernel
theorem dX12_isTold_65 : decode cX12_isTold 65 = .ok (.aload_n 0, 1) := by decide +kernel
theorem dX12_isTold_66 : decode cX12_isTold 66 = .ok (.iload_n 1, 1) := by decide +kernel
theorem dX12_isTold_67 : decode cX12_isTold 67 = .ok (.invokevirtual 105, 3) := by decide +kernel
theorem dX12_isTold_70 : decode cX12_isTold 70 = .ok (.bipush 9, 2) := by decide +kernel
theorem dX12_isTold_72 : decode cX12_isTold 72 = .ok (.if_icmp .ge 14, 3) := by decide +kernel
theorem dX12_isTold_75 : decode cX12_isTold 75 = .ok (.bipush 9, 2) := by decide +kernel
theorem dX12_isTold_77 : decode cX12_isTold 77 = .ok (.aload_n 0, 1) := by decide +kernel
theorem dX12_isTold_78 : decode cX12_isTold 78 = .ok (.iload_n 1, 1) := by decide +kernel
theorem dX12_isTold_79 : decode cX12_isTold 79 = .ok (.invokevirtual 105, 3) := by decide +kernel
theorem dX12_isTold_82 : decode cX12_isTold 82 = .ok (.isub, 1) := by decide +kernel
theorem dX12_isTold_83 : decode cX12_isTold 83 = .ok (.goto 4, 3) := by decide +kernel
theorem dX12_isTold_86 : decode cX12_isTold 86 = .ok (.iconst 0, 1) := by decide +kernel
theorem dX12_isTold_87 : decode cX12_isTold 87 = .ok (.iadd, 1) := by decide +kernel
theorem dX12_isTold_88 : decode cX12_isTold 88 = .ok (.ireturn, 1) := by decide +kernel
theorem dX12_goes_0 : decode cX12_goes 0 = .ok (.aload_n 0, 1) := by decide +kernel
theorem dX12_goes_1 : decode cX12_goes 1 = .ok (.invokevirtual 162, 3) := by decide +kernel
theorem dX12_goes_4 : decode cX12_goes 4 = .ok (.iload_n 1, 1) := by decide +kernel
theorem dX12_goes_5 : decode cX12_goes 5 = .ok (.iconst (-1), 1) := by decide +kernel
theorem dX12_goes_6 : decode cX12_goes 6 = .ok (.if_icmp .ne 10, 3) := by decide +kernel
theorem dX12_goes_9 : decode cX12_goes 9 = .ok (.aload_n 0, 1) := by decide +kernel
theorem dX12_goes_10 : decode cX12_goes 10 = .ok (.invokevirtual 165, 3) := by decide +kernel
theorem dX12_goes_13 : decode cX12_goes 13 = .ok (.goto 4, 3) := by decide +kernel
theorem dX12_goes_16 : decode cX12_goes 16 = .ok (.iload_n 1, 1) := by decide +kernel
theorem dX12_goes_17 : decode cX12_goes 17 = .ok (.istore_n 2, 1) := by decide +kernel
theorem dX12_goes_18 : decode cX12_goes 18 = .ok (.iload_n 2, 1) := by decide +kernel
theorem dX12_goes_19 : decode cX12_goes 19 = .ok (.ifCond .le 25, 3) := by decide +kernel
theorem dX12_goes_22 : decode cX12_goes 22 = .ok (.aload_n 0, 1) := by decide +kernel
theorem dX12_goes_23 : decode cX12_goes 23 = .ok (.iload_n 2, 1) := by decide +kernel
theorem dX12_goes_24 : decode cX12_goes 24 = .ok (.iconst 1, 1) := by decide +kernel
theorem dX12_goes_25 : decode cX12_goes 25 = .ok (.isub, 1) := by decide +kernel
theorem dX12_goes_26 : decode cX12_goes 26 = .ok (.iconst 4, 1) := by decide +kernel
theorem dX12_goes_27 : decode cX12_goes 27 = .ok (.invokevirtual 88, 3) := by decide +kernel
theorem dX12_goes_30 : decode cX12_goes 30 = .ok (.iconst 1, 1) := by decide +kernel
theorem dX12_goes_31 : decode cX12_goes 31 = .ok (.if_icmp .ne 13, 3) := by decide +kernel
theorem dX12_goes_34 : decode cX12_goes 34 = .ok (.aload_n 0, 1) := by decide +kernel
theorem dX12_goes_35 : decode cX12_goes 35 = .ok (.iload_n 2, 1) := by decide +kernel
theorem dX12_goes_36 : decode cX12_goes 36 = .ok (.iconst 1, 1) := by decide +kernel
theorem dX12_goes_37 : decode cX12_goes 37 = .ok (.isub, 1) := by decide +kernel
theorem dX12_goes_38 : decode cX12_goes 38 = .ok (.invokevirtual 168, 3) := by decide +kernel
theorem dX12_goes_41 : decode cX12_goes 41 = .ok (.goto 4, 3) := by decide +kernel
theorem dX12_goes_44 : decode cX12_goes 44 = .ok (.iconst 0, 1) := by decide +kernel
theorem dX12_goes_45 : decode cX12_goes 45 = .ok (.istore_n 3, 1) := by decide +kernel
theorem dX12_goes_46 : decode cX12_goes 46 = .ok (.aload_n 0, 1) := by decide +kernel
theorem dX12_goes_47 : decode cX12_goes 47 = .ok (.getfield 7, 3) := by decide +kernel
theorem dX12_goes_50 : decode cX12_goes 50 = .ok (.iconst 4, 1) := by decide +kernel
theorem dX12_goes_51 : decode cX12_goes 51 = .ok (.dup2, 1) := by decide +kernel
theorem dX12_goes_52 : decode cX12_goes 52 = .ok (.iaload, 1) := by decide +kernel
theorem dX12_goes_53 : decode cX12_goes 53 = .ok (.iload_n 3, 1) := by decide +kernel
theorem dX12_goes_54 : decode cX12_goes 54 = .ok (.iadd, 1) := by decide +kernel
theorem dX12_goes_55 : decode cX12_goes 55 = .ok (.iastore, 1) := by decide +kernel
theorem dX12_goes_56 : decode cX12_goes 56 = .ok (.aload_n 0, 1) := by decide +kernel
theorem dX12_goes_57 : decode cX12_goes 57 = .ok (.getfield 7, 3) := by decide +kernel
theorem dX12_goes_60 : decode cX12_goes 60 = .ok (.iconst 3, 1) := by decide +kernel
theorem dX12_goes_61 : decode cX12_goes 61 = .ok (.dup2, 1) := by decide +kernel
theorem dX12_goes_62 : decode cX12_goes 62 = .ok (.iaload, 1) := by decide +kernel
theorem dX12_goes_63 : decode cX12_goes 63 = .ok (.iconst 1, 1) := by decide +kernel
theorem dX12_goes_64 : decode cX12_goes 64 = .ok (.iadd, 1) := by decide +kernel
theorem dX12_goes_65 : decode cX12_goes 65 = .ok (.iastore, 1) := by decide +kernel
theorem dX12_goes_66 : decode cX12_goes 66 = .ok (.iload_n 3, 1) := by decide +kernel
theorem dX12_goes_67 : decode cX12_goes 67 = .ok (.ireturn, 1) := by decide +kernel
theorem dX12_gust_0 : decode cX12_gust 0 = .ok (.aload_n 0, 1) := by decide +kernel
theorem dX12_gust_1 : decode cX12_gust 1 = .ok (.invokevirtual 133, 3) := by decide +kernel
theorem dX12_gust_4 : decode cX12_gust 4 = .ok (.ifCond .eq 8, 3) := by decide +kernel
theorem dX12_gust_7 : decode cX12_gust 7 = .ok (.bipush (-4), 2) := by decide +kernel
theorem dX12_gust_9 : decode cX12_gust 9 = .ok (.goto 8, 3) := by decide +kernel
theorem dX12_gust_12 : decode cX12_gust 12 = .ok (.aload_n 0, 1) := by decide +kernel
theorem dX12_gust_13 : decode cX12_gust 13 = .ok (.iconst (-1), 1) := by decide +kernel
theorem dX12_gust_14 : decode cX12_gust 14 = .ok (.invokevirtual 171, 3) := by decide +kernel
theorem dX12_gust_17 : decode cX12_gust 17 = .ok (.ireturn, 1) := by decide +kernel
theorem dX12_rest_0 : decode cX12_rest 0 = .ok (.iconst 0, 1) := by decide +kernel
theorem dX12_rest_1 : decode cX12_rest 1 = .ok (.istore_n 2, 1) := by decide +kernel
theorem dX12_rest_2 : decode cX12_rest 2 = .ok (.iconst 0, 1) := by decide +kernel
theorem dX12_rest_3 : decode cX12_rest 3 = .ok (.istore_n 3, 1) := by decide +kernel
theorem dX12_rest_4 : decode cX12_rest 4 = .ok (.iload_n 3, 1) := by decide +kernel
theorem dX12_rest_5 : decode cX12_rest 5 = .ok (.iload_n 1, 1) := by decide +kernel
theorem dX12_rest_6 : decode cX12_rest 6 = .ok (.if_icmp .ge 24, 3) := by decide +kernel
theorem dX12_rest_9 : decode cX12_rest 9 = .ok (.aload_n 0, 1) := by decide +kernel
theorem dX12_rest_10 : decode cX12_rest 10 = .ok (.invokevirtual 133, 3) := by decide +kernel
theorem dX12_rest_13 : decode cX12_rest 13 = .ok (.ifCond .ne 17, 3) := by decide +kernel
theorem dX12_rest_16 : decode cX12_rest 16 = .ok (.iload_n 2, 1) := by decide +kernel
theorem dX12_rest_17 : decode cX12_rest 17 = .ok (.aload_n 0, 1) := by decide +kernel
theorem dX12_rest_18 : decode cX12_rest 18 = .ok (.iconst (-1), 1) := by decide +kernel
theorem dX12_rest_19 : decode cX12_rest 19 = .ok (.invokevirtual 171, 3) := by decide +kernel
theorem dX12_rest_22 : decode cX12_rest 22 = .ok (.iadd, 1) := by decide +kernel
theorem dX12_rest_23 : decode cX12_rest 23 = .ok (.istore_n 2, 1) := by decide +kernel
theorem dX12_rest_24 : decode cX12_rest 24 = .ok (.iinc 3 1, 3) := by decide +kernel
theorem dX12_rest_27 : decode cX12_rest 27 = .ok (.goto (-23), 3) := by decide +kernel
theorem dX12_rest_30 : decode cX12_rest 30 = .ok (.iload_n 2, 1) := by decide +kernel
theorem dX12_rest_31 : decode cX12_rest 31 = .ok (.ireturn, 1) := by decide +kernel
theorem dX12_restTried_0 : decode cX12_restTried 0 = .ok (.aload_n 0, 1) := by decide +kernel
theorem dX12_restTried_1 : decode cX12_restTried 1 = .ok (.invokevirtual 174, 3) := by decide +kernel
theorem dX12_restTried_4 : decode cX12_restTried 4 = .ok (.aload_n 0, 1) := by decide +kernel
theorem dX12_restTried_5 : decode cX12_restTried 5 = .ok (.iload_n 1, 1) := by decide +kernel
theorem dX12_restTried_6 : decode cX12_restTried 6 = .ok (.invokevirtual 177, 3) := by decide +kernel
theorem dX12_restTried_9 : decode cX12_restTried 9 = .ok (.istore_n 2, 1) := by decide +kernel
theorem dX12_restTried_10 : decode cX12_restTried 10 = .ok (.aload_n 0, 1) := by decide +kernel
theorem dX12_restTried_11 : decode cX12_restTried 11 = .ok (.invokevirtual 180, 3) := by decide +kernel
theorem dX12_restTried_14 : decode cX12_restTried 14 = .ok (.iload_n 2, 1) := by decide +kernel
theorem dX12_restTried_15 : decode cX12_restTried 15 = .ok (.ireturn, 1) := by decide +kernel
theorem dX12_on_0 : decode cX12_on 0 = .ok (.iload_n 1, 1) := by decide +kernel
theorem dX12_on_1 : decode cX12_on 1 = .ok (.i2l, 1) := by decide +kernel
theorem dX12_on_2 : decode cX12_on 2 = .ok (.lconst 0, 1) := by decide +kernel
theorem dX12_on_3 : decode cX12_on 3 = .ok (.ldc2_w 131, 3) := by decide +kernel
theorem dX12_on_6 : decode cX12_on 6 = .ok (.invokestatic 58, 3) := by decide +kernel
theorem dX12_on_9 : decode cX12_on 9 = .ok (.ifCond .eq 11, 3) := by decide +kernel
theorem dX12_on_12 : decode cX12_on 12 = .ok (.aload_n 0, 1) := by decide +kernel
theorem dX12_on_13 : decode cX12_on 13 = .ok (.iload_n 1, 1) := by decide +kernel
theorem dX12_on_14 : decode cX12_on 14 = .ok (.invokevirtual 183, 3) := by decide +kernel
theorem dX12_on_17 : decode cX12_on 17 = .ok (.goto 4, 3) := by decide +kernel
theorem dX12_on_20 : decode cX12_on 20 = .ok (.iconst (-1), 1) := by decide +kernel
theorem dX12_on_21 : decode cX12_on 21 = .ok (.ireturn, 1) := by decide +kernel
theorem dX12_when_0 : decode cX12_when 0 = .ok (.aload_n 0, 1) := by decide +kernel
theorem dX12_when_1 : decode cX12_when 1 = .ok (.iload_n 1, 1) := by decide +kernel
theorem dX12_when_2 : decode cX12_when 2 = .ok (.invokevirtual 109, 3) := by decide +kernel
theorem dX12_when_5 : decode cX12_when 5 = .ok (.ifCond .ne 5, 3) := by decide +kernel
theorem dX12_when_8 : decode cX12_when 8 = .ok (.iconst (-1), 1) := by decide +kernel
theorem dX12_when_9 : decode cX12_when 9 = .ok (.ireturn, 1) := by decide +kernel
theorem dX12_when_10 : decode cX12_when 10 = .ok (.aload_n 0, 1) := by decide +kernel
theorem dX12_when_11 : decode cX12_when 11 = .ok (.iload_n 1, 1) := by decide +kernel
theorem dX12_when_12 : decode cX12_when 12 = .ok (.iconst 4, 1) := by decide +kernel
theorem dX12_when_13 : decode cX12_when 13 = .ok (.invokevirtual 88, 3) := by decide +kernel
theorem dX12_when_16 : decode cX12_when 16 = .ok (.ifCond .ne 6, 3) := by decide +kernel
theorem dX12_when_19 : decode cX12_when 19 = .ok (.bipush (-3), 2) := by decide +kernel
theorem dX12_when_21 : decode cX12_when 21 = .ok (.ireturn, 1) := by decide +kernel
theorem dX12_when_22 : decode cX12_when 22 = .ok (.aload_n 0, 1) := by decide +kernel
theorem dX12_when_23 : decode cX12_when 23 = .ok (.invokevirtual 174, 3) := by decide +kernel
theorem dX12_when_26 : decode cX12_when 26 = .ok (.aload_n 0, 1) := by decide +kernel
theorem dX12_when_27 : decode cX12_when 27 = .ok (.invokevirtual 133, 3) := by decide +kernel
theorem dX12_when_30 : decode cX12_when 30 = .ok (.ifCond .ne 22, 3) := by decide +kernel
theorem dX12_when_33 : decode cX12_when 33 = .ok (.aload_n 0, 1) := by decide +kernel
theorem dX12_when_34 : decode cX12_when 34 = .ok (.iload_n 1, 1) := by decide +kernel
theorem dX12_when_35 : decode cX12_when 35 = .ok (.iconst 4, 1) := by decide +kernel
theorem dX12_when_36 : decode cX12_when 36 = .ok (.invokevirtual 88, 3) := by decide +kernel
theorem dX12_when_39 : decode cX12_when 39 = .ok (.iconst 1, 1) := by decide +kernel
theorem dX12_when_40 : decode cX12_when 40 = .ok (.if_icmp .ne 12, 3) := by decide +kernel
theorem dX12_when_43 : decode cX12_when 43 = .ok (.aload_n 0, 1) := by decide +kernel
theorem dX12_when_44 : decode cX12_when 44 = .ok (.iconst (-1), 1) := by decide +kernel
theorem dX12_when_45 : decode cX12_when 45 = .ok (.invokevirtual 171, 3) := by decide +kernel
theorem dX12_when_48 : decode cX12_when 48 = .ok (.istore_n 2, 1) := by decide +kernel
theorem dX12_when_49 : decode cX12_when 49 = .ok (.goto (-23), 3) := by decide +kernel
theorem dX12_when_52 : decode cX12_when 52 = .ok (.aload_n 0, 1) := by decide +kernel
theorem dX12_when_53 : decode cX12_when 53 = .ok (.iload_n 1, 1) := by decide +kernel
theorem dX12_when_54 : decode cX12_when 54 = .ok (.iconst 4, 1) := by decide +kernel
theorem dX12_when_55 : decode cX12_when 55 = .ok (.invokevirtual 88, 3) := by decide +kernel
theorem dX12_when_58 : decode cX12_when 58 = .ok (.ifCond .ne 14, 3) := by decide +kernel
theorem dX12_when_61 : decode cX12_when 61 = .ok (.aload_n 0, 1) := by decide +kernel
theorem dX12_when_62 : decode cX12_when 62 = .ok (.getfield 7, 3) := by decide +kernel
theorem dX12_when_65 : decode cX12_when 65 = .ok (.iconst 3, 1) := by decide +kernel
theorem dX12_when_66 : decode cX12_when 66 = .ok (.iaload, 1) := by decide +kernel
theorem dX12_when_67 : decode cX12_when 67 = .ok (.iconst 1, 1) := by decide +kernel
theorem dX12_when_68 : decode cX12_when 68 = .ok (.isub, 1) := by decide +kernel
theorem dX12_when_69 : decode cX12_when 69 = .ok (.goto 5, 3) := by decide +kernel
theorem dX12_when_72 : decode cX12_when 72 = .ok (.bipush (-3), 2) := by decide +kernel
theorem dX12_when_74 : decode cX12_when 74 = .ok (.istore_n 2, 1) := by decide +kernel
theorem dX12_when_75 : decode cX12_when 75 = .ok (.aload_n 0, 1) := by decide +kernel
theorem dX12_when_76 : decode cX12_when 76 = .ok (.invokevirtual 180, 3) := by decide +kernel
theorem dX12_when_79 : decode cX12_when 79 = .ok (.iload_n 2, 1) := by decide +kernel
theorem dX12_when_80 : decode cX12_when 80 = .ok (.ireturn, 1) := by decide +kernel
theorem dX12_mostFor_0 : decode cX12_mostFor 0 = .ok (.aload_n 0, 1) := by decide +kernel
theorem dX12_mostFor_1 : decode cX12_mostFor 1 = .ok (.getfield 7, 3) := by decide +kernel
theorem dX12_mostFor_4 : decode cX12_mostFor 4 = .ok (.iload_n 1, 1) := by decide +kernel
theorem dX12_mostFor_5 : decode cX12_mostFor 5 = .ok (.iaload, 1) := by decide +kernel
theorem dX12_mostFor_6 : decode cX12_mostFor 6 = .ok (.istore_n 3, 1) := by decide +kernel
theorem dX12_mostFor_7 : decode cX12_mostFor 7 = .ok (.iconst 0, 1) := by decide +kernel
theorem dX12_mostFor_8 : decode cX12_mostFor 8 = .ok (.istore 4, 2) := by decide +kernel
theorem dX12_mostFor_10 : decode cX12_mostFor 10 = .ok (.iconst (-1), 1) := by decide +kernel
theorem dX12_mostFor_11 : decode cX12_mostFor 11 = .ok (.istore 5, 2) := by decide +kernel
theorem dX12_mostFor_13 : decode cX12_mostFor 13 = .ok (.iconst 0, 1) := by decide +kernel
theorem dX12_mostFor_14 : decode cX12_mostFor 14 = .ok (.istore 6, 2) := by decide +kernel
theorem dX12_mostFor_16 : decode cX12_mostFor 16 = .ok (.iload 6, 2) := by decide +kernel
theorem dX12_mostFor_18 : decode cX12_mostFor 18 = .ok (.iload_n 2, 1) := by decide +kernel
theorem dX12_mostFor_19 : decode cX12_mostFor 19 = .ok (.if_icmp .gt 57, 3) := by decide +kernel
theorem dX12_mostFor_22 : decode cX12_mostFor 22 = .ok (.aload_n 0, 1) := by decide +kernel
theorem dX12_mostFor_23 : decode cX12_mostFor 23 = .ok (.getfield 7, 3) := by decide +kernel
theorem dX12_mostFor_26 : decode cX12_mostFor 26 = .ok (.iload_n 1, 1) := by decide +kernel
theorem dX12_mostFor_27 : decode cX12_mostFor 27 = .ok (.iload 6, 2) := by decide +kernel
theorem dX12_mostFor_29 : decode cX12_mostFor 29 = .ok (.iastore, 1) := by decide +kernel
theorem dX12_mostFor_30 : decode cX12_mostFor 30 = .ok (.aload_n 0, 1) := by decide +kernel
theorem dX12_mostFor_31 : decode cX12_mostFor 31 = .ok (.bipush 16, 2) := by decide +kernel
theorem dX12_mostFor_33 : decode cX12_mostFor 33 = .ok (.invokevirtual 183, 3) := by decide +kernel
theorem dX12_mostFor_36 : decode cX12_mostFor 36 = .ok (.istore 7, 2) := by decide +kernel
theorem dX12_mostFor_38 : decode cX12_mostFor 38 = .ok (.iload 7, 2) := by decide +kernel
theorem dX12_mostFor_40 : decode cX12_mostFor 40 = .ok (.iload 5, 2) := by decide +kernel
theorem dX12_mostFor_42 : decode cX12_mostFor 42 = .ok (.if_icmp .le 8, 3) := by decide +kernel
theorem dX12_mostFor_45 : decode cX12_mostFor 45 = .ok (.iload 6, 2) := by decide +kernel
theorem dX12_mostFor_47 : decode cX12_mostFor 47 = .ok (.goto 5, 3) := by decide +kernel
theorem dX12_mostFor_50 : decode cX12_mostFor 50 = .ok (.iload 4, 2) := by decide +kernel
theorem dX12_mostFor_52 : decode cX12_mostFor 52 = .ok (.istore 4, 2) := by decide +kernel
theorem dX12_mostFor_54 : decode cX12_mostFor 54 = .ok (.iload 7, 2) := by decide +kernel
theorem dX12_mostFor_56 : decode cX12_mostFor 56 = .ok (.iload 5, 2) := by decide +kernel
theorem dX12_mostFor_58 : decode cX12_mostFor 58 = .ok (.if_icmp .le 8, 3) := by decide +kernel
theorem dX12_mostFor_61 : decode cX12_mostFor 61 = .ok (.iload 7, 2) := by decide +kernel
theorem dX12_mostFor_63 : decode cX12_mostFor 63 = .ok (.goto 5, 3) := by decide +kernel
theorem dX12_mostFor_66 : decode cX12_mostFor 66 = .ok (.iload 5, 2) := by decide +kernel
theorem dX12_mostFor_68 : decode cX12_mostFor 68 = .ok (.istore 5, 2) := by decide +kernel
theorem dX12_mostFor_70 : decode cX12_mostFor 70 = .ok (.iinc 6 1, 3) := by decide +kernel
theorem dX12_mostFor_73 : decode cX12_mostFor 73 = .ok (.goto (-57), 3) := by decide +kernel
theorem dX12_mostFor_76 : decode cX12_mostFor 76 = .ok (.aload_n 0, 1) := by decide +kernel
theorem dX12_mostFor_77 : decode cX12_mostFor 77 = .ok (.getfield 7, 3) := by decide +kernel
theorem dX12_mostFor_80 : decode cX12_mostFor 80 = .ok (.iload_n 1, 1) := by decide +kernel
theorem dX12_mostFor_81 : decode cX12_mostFor 81 = .ok (.iload_n 3, 1) := by decide +kernel
theorem dX12_mostFor_82 : decode cX12_mostFor 82 = .ok (.iastore, 1) := by decide +kernel
theorem dX12_mostFor_83 : decode cX12_mostFor 83 = .ok (.iload 4, 2) := by decide +kernel
theorem dX12_mostFor_85 : decode cX12_mostFor 85 = .ok (.ireturn, 1) := by decide +kernel
theorem dX12_stringFor_0 : decode cX12_stringFor 0 = .ok (.aload_n 0, 1) := by decide +kernel
theorem dX12_stringFor_1 : decode cX12_stringFor 1 = .ok (.iload_n 1, 1) := by decide +kernel
theorem dX12_stringFor_2 : decode cX12_stringFor 2 = .ok (.invokevirtual 109, 3) := by decide +kernel
theorem dX12_stringFor_5 : decode cX12_stringFor 5 = .ok (.ifCond .eq 17, 3) := by decide +kernel
theorem dX12_stringFor_8 : decode cX12_stringFor 8 = .ok (.aload_n 0, 1) := by decide +kernel
theorem dX12_stringFor_9 : decode cX12_stringFor 9 = .ok (.iload_n 1, 1) := by decide +kernel
theorem dX12_stringFor_10 : decode cX12_stringFor 10 = .ok (.iconst 2, 1) := by decide +kernel
theorem dX12_stringFor_11 : decode cX12_stringFor 11 = .ok (.invokestatic 62, 3) := by decide +kernel
theorem dX12_stringFor_14 : decode cX12_stringFor 14 = .ok (.bipush 9, 2) := by decide +kernel
theorem dX12_stringFor_16 : decode cX12_stringFor 16 = .ok (.invokevirtual 186, 3) := by decide +kernel
theorem dX12_stringFor_19 : decode cX12_stringFor 19 = .ok (.goto 4, 3) := by decide +kernel
theorem dX12_stringFor_22 : decode cX12_stringFor 22 = .ok (.iconst (-1), 1) := by decide +kernel
theorem dX12_stringFor_23 : decode cX12_stringFor 23 = .ok (.ireturn, 1) := by decide +kernel
theorem dX12_nameFor_0 : decode cX12_nameFor 0 = .ok (.aload_n 0, 1) := by decide +kernel
theorem dX12_nameFor_1 : decode cX12_nameFor 1 = .ok (.iload_n 1, 1) := by decide +kernel
theorem dX12_nameFor_2 : decode cX12_nameFor 2 = .ok (.invokevirtual 109, 3) := by decide +kernel
theorem dX12_nameFor_5 : decode cX12_nameFor 5 = .ok (.ifCond .eq 16, 3) := by decide +kernel
theorem dX12_nameFor_8 : decode cX12_nameFor 8 = .ok (.aload_n 0, 1) := by decide +kernel
theorem dX12_nameFor_9 : decode cX12_nameFor 9 = .ok (.iload_n 1, 1) := by decide +kernel
theorem dX12_nameFor_10 : decode cX12_nameFor 10 = .ok (.iconst 3, 1) := by decide +kernel
theorem dX12_nameFor_11 : decode cX12_nameFor 11 = .ok (.invokestatic 62, 3) := by decide +kernel
theorem dX12_nameFor_14 : decode cX12_nameFor 14 = .ok (.iconst 5, 1) := by decide +kernel
theorem dX12_nameFor_15 : decode cX12_nameFor 15 = .ok (.invokevirtual 186, 3) := by decide +kernel
theorem dX12_nameFor_18 : decode cX12_nameFor 18 = .ok (.goto 4, 3) := by decide +kernel
theorem dX12_nameFor_21 : decode cX12_nameFor 21 = .ok (.iconst (-1), 1) := by decide +kernel
theorem dX12_nameFor_22 : decode cX12_nameFor 22 = .ok (.ireturn, 1) := by decide +kernel
theorem dX12_over_0 : decode cX12_over 0 = .ok (.iload_n 1, 1) := by decide +kernel
theorem dX12_over_1 : decode cX12_over 1 = .ok (.invokestatic 70, 3) := by decide +kernel
theorem dX12_over_4 : decode cX12_over 4 = .ok (.ifCond .ne 5, 3) := by decide +kernel
theorem dX12_over_7 : decode cX12_over 7 = .ok (.iconst (-1), 1) := by decide +kernel
theorem dX12_over_8 : decode cX12_over 8 = .ok (.ireturn, 1) := by decide +kernel
theorem dX12_over_9 : decode cX12_over 9 = .ok (.aload_n 0, 1) := by decide +kernel
theorem dX12_over_10 : decode cX12_over 10 = .ok (.invokevirtual 174, 3) := by decide +kernel
theorem dX12_over_13 : decode cX12_over 13 = .ok (.bipush (-3), 2) := by decide +kernel
theorem dX12_over_15 : decode cX12_over 15 = .ok (.istore_n 2, 1) := by decide +kernel
theorem dX12_over_16 : decode cX12_over 16 = .ok (.aload_n 0, 1) := by decide +kernel
theorem dX12_over_17 : decode cX12_over 17 = .ok (.invokevirtual 133, 3) := by decide +kernel
theorem dX12_over_20 : decode cX12_over 20 = .ok (.ifCond .ne 75, 3) := by decide +kernel
theorem dX12_over_23 : decode cX12_over 23 = .ok (.iload_n 2, 1) := by decide +kernel
theorem dX12_over_24 : decode cX12_over 24 = .ok (.bipush (-3), 2) := by decide +kernel
theorem dX12_over_26 : decode cX12_over 26 = .ok (.if_icmp .ne 69, 3) := by decide +kernel
theorem dX12_over_29 : decode cX12_over 29 = .ok (.aload_n 0, 1) := by decide +kernel
theorem dX12_over_30 : decode cX12_over 30 = .ok (.invokevirtual 162, 3) := by decide +kernel
theorem dX12_over_33 : decode cX12_over 33 = .ok (.iconst 0, 1) := by decide +kernel
theorem dX12_over_34 : decode cX12_over 34 = .ok (.istore_n 3, 1) := by decide +kernel
theorem dX12_over_35 : decode cX12_over 35 = .ok (.iload_n 3, 1) := by decide +kernel
theorem dX12_over_36 : decode cX12_over 36 = .ok (.aload_n 0, 1) := by decide +kernel
theorem dX12_over_37 : decode cX12_over 37 = .ok (.getfield 7, 3) := by decide +kernel
theorem dX12_over_40 : decode cX12_over 40 = .ok (.iconst 0, 1) := by decide +kernel
theorem dX12_over_41 : decode cX12_over 41 = .ok (.iaload, 1) := by decide +kernel
theorem dX12_over_42 : decode cX12_over 42 = .ok (.if_icmp .ge 40, 3) := by decide +kernel
theorem dX12_over_45 : decode cX12_over 45 = .ok (.aload_n 0, 1) := by decide +kernel
theorem dX12_over_46 : decode cX12_over 46 = .ok (.iload_n 3, 1) := by decide +kernel
theorem dX12_over_47 : decode cX12_over 47 = .ok (.iconst 4, 1) := by decide +kernel
theorem dX12_over_48 : decode cX12_over 48 = .ok (.invokevirtual 88, 3) := by decide +kernel
theorem dX12_over_51 : decode cX12_over 51 = .ok (.iconst 1, 1) := by decide +kernel
theorem dX12_over_52 : decode cX12_over 52 = .ok (.if_icmp .ne 22, 3) := by decide +kernel
theorem dX12_over_55 : decode cX12_over 55 = .ok (.aload_n 0, 1) := by decide +kernel
theorem dX12_over_56 : decode cX12_over 56 = .ok (.iload_n 3, 1) := by decide +kernel
theorem dX12_over_57 : decode cX12_over 57 = .ok (.iconst 1, 1) := by decide +kernel
theorem dX12_over_58 : decode cX12_over 58 = .ok (.invokevirtual 88, 3) := by decide +kernel
theorem dX12_over_61 : decode cX12_over 61 = .ok (.iload_n 1, 1) := by decide +kernel
theorem dX12_over_62 : decode cX12_over 62 = .ok (.if_icmp .ne 12, 3) := by decide +kernel
theorem dX12_over_65 : decode cX12_over 65 = .ok (.aload_n 0, 1) := by decide +kernel
theorem dX12_over_66 : decode cX12_over 66 = .ok (.getfield 7, 3) := by decide +kernel
theorem dX12_over_69 : decode cX12_over 69 = .ok (.iconst 3, 1) := by decide +kernel
theorem dX12_over_70 : decode cX12_over 70 = .ok (.iaload, 1) := by decide +kernel
theorem dX12_over_71 : decode cX12_over 71 = .ok (.goto 4, 3) := by decide +kernel
theorem dX12_over_74 : decode cX12_over 74 = .ok (.iload_n 2, 1) := by decide +kernel
theorem dX12_over_75 : decode cX12_over 75 = .ok (.istore_n 2, 1) := by decide +kernel
theorem dX12_over_76 : decode cX12_over 76 = .ok (.iinc 3 1, 3) := by decide +kernel
theorem dX12_over_79 : decode cX12_over 79 = .ok (.goto (-44), 3) := by decide +kernel
theorem dX12_over_82 : decode cX12_over 82 = .ok (.aload_n 0, 1) := by decide +kernel
theorem dX12_over_83 : decode cX12_over 83 = .ok (.getfield 7, 3) := by decide +kernel
theorem dX12_over_86 : decode cX12_over 86 = .ok (.iconst 3, 1) := by decide +kernel
theorem dX12_over_87 : decode cX12_over 87 = .ok (.dup2, 1) := by decide +kernel
theorem dX12_over_88 : decode cX12_over 88 = .ok (.iaload, 1) := by decide +kernel
theorem dX12_over_89 : decode cX12_over 89 = .ok (.iconst 1, 1) := by decide +kernel
theorem dX12_over_90 : decode cX12_over 90 = .ok (.iadd, 1) := by decide +kernel
theorem dX12_over_91 : decode cX12_over 91 = .ok (.iastore, 1) := by decide +kernel
theorem dX12_over_92 : decode cX12_over 92 = .ok (.goto (-76), 3) := by decide +kernel
theorem dX12_over_95 : decode cX12_over 95 = .ok (.aload_n 0, 1) := by decide +kernel
theorem dX12_over_96 : decode cX12_over 96 = .ok (.invokevirtual 180, 3) := by decide +kernel
theorem dX12_over_99 : decode cX12_over 99 = .ok (.iload_n 2, 1) := by decide +kernel
theorem dX12_over_100 : decode cX12_over 100 = .ok (.ireturn, 1) := by decide +kernel
theorem dX12_areTangled_0 : decode cX12_areTangled 0 = .ok (.aload_n 0, 1) := by decide +kernel
theorem dX12_areTangled_1 : decode cX12_areTangled 1 = .ok (.iload_n 1, 1) := by decide +kernel
theorem dX12_areTangled_2 : decode cX12_areTangled 2 = .ok (.iconst 1, 1) := by decide +kernel
theorem dX12_areTangled_3 : decode cX12_areTangled 3 = .ok (.invokevirtual 88, 3) := by decide +kernel
theorem dX12_areTangled_6 : decode cX12_areTangled 6 = .ok (.istore_n 3, 1) := by decide +kernel
theorem dX12_areTangled_7 : decode cX12_areTangled 7 = .ok (.aload_n 0, 1) := by decide +kernel
theorem dX12_areTangled_8 : decode cX12_areTangled 8 = .ok (.iload_n 2, 1) := by decide +kernel
theorem dX12_areTangled_9 : decode cX12_areTangled 9 = .ok (.iconst 1, 1) := by decide +kernel
theorem dX12_areTangled_10 : decode cX12_areTangled 10 = .ok (.invokevirtual 88, 3) := by decide +kernel
theorem dX12_areTangled_13 : decode cX12_areTangled 13 = .ok (.istore 4, 2) := by decide +kernel
theorem dX12_areTangled_15 : decode cX12_areTangled 15 = .ok (.aload_n 0, 1) := by decide +kernel
theorem dX12_areTangled_16 : decode cX12_areTangled 16 = .ok (.iload_n 1, 1) := by decide +kernel
theorem dX12_areTangled_17 : decode cX12_areTangled 17 = .ok (.iconst 4, 1) := by decide +kernel
theorem dX12_areTangled_18 : decode cX12_areTangled 18 = .ok (.invokevirtual 88, 3) := by decide +kernel
theorem dX12_areTangled_21 : decode cX12_areTangled 21 = .ok (.iconst 1, 1) := by decide +kernel
theorem dX12_areTangled_22 : decode cX12_areTangled 22 = .ok (.if_icmp .ne 49, 3) := by decide +kernel
theorem dX12_areTangled_25 : decode cX12_areTangled 25 = .ok (.aload_n 0, 1) := by decide +kernel
theorem dX12_areTangled_26 : decode cX12_areTangled 26 = .ok (.iload_n 2, 1) := by decide +kernel
theorem dX12_areTangled_27 : decode cX12_areTangled 27 = .ok (.iconst 4, 1) := by decide +kernel
theorem dX12_areTangled_28 : decode cX12_areTangled 28 = .ok (.invokevirtual 88, 3) := by decide +kernel
theorem dX12_areTangled_31 : decode cX12_areTangled 31 = .ok (.iconst 1, 1) := by decide +kernel
theorem dX12_areTangled_32 : decode cX12_areTangled 32 = .ok (.if_icmp .ne 39, 3) := by decide +kernel
theorem dX12_areTangled_35 : decode cX12_areTangled 35 = .ok (.iload_n 3, 1) := by decide +kernel
theorem dX12_areTangled_36 : decode cX12_areTangled 36 = .ok (.bipush 8, 2) := by decide +kernel
theorem dX12_areTangled_38 : decode cX12_areTangled 38 = .ok (.irem, 1) := by decide +kernel
theorem dX12_areTangled_39 : decode cX12_areTangled 39 = .ok (.iload 4, 2) := by decide +kernel
theorem dX12_areTangled_41 : decode cX12_areTangled 41 = .ok (.bipush 8, 2) := by decide +kernel
theorem dX12_areTangled_43 : decode cX12_areTangled 43 = .ok (.irem, 1) := by decide +kernel
theorem dX12_areTangled_44 : decode cX12_areTangled 44 = .ok (.invokestatic 99, 3) := by decide +kernel
theorem dX12_areTangled_47 : decode cX12_areTangled 47 = .ok (.iconst 1, 1) := by decide +kernel
theorem dX12_areTangled_48 : decode cX12_areTangled 48 = .ok (.if_icmp .gt 23, 3) := by decide +kernel
theorem dX12_areTangled_51 : decode cX12_areTangled 51 = .ok (.iload_n 3, 1) := by decide +kernel
theorem dX12_areTangled_52 : decode cX12_areTangled 52 = .ok (.bipush 8, 2) := by decide +kernel
theorem dX12_areTangled_54 : decode cX12_areTangled 54 = .ok (.idiv, 1) := by decide +kernel
theorem dX12_areTangled_55 : decode cX12_areTangled 55 = .ok (.iload 4, 2) := by decide +kernel
theorem dX12_areTangled_57 : decode cX12_areTangled 57 = .ok (.bipush 8, 2) := by decide +kernel
theorem dX12_areTangled_59 : decode cX12_areTangled 59 = .ok (.idiv, 1) := by decide +kernel
theorem dX12_areTangled_60 : decode cX12_areTangled 60 = .ok (.invokestatic 99, 3) := by decide +kernel
theorem dX12_areTangled_63 : decode cX12_areTangled 63 = .ok (.iconst 1, 1) := by decide +kernel
theorem dX12_areTangled_64 : decode cX12_areTangled 64 = .ok (.if_icmp .gt 7, 3) := by decide +kernel
theorem dX12_areTangled_67 : decode cX12_areTangled 67 = .ok (.iconst 1, 1) := by decide +kernel
theorem dX12_areTangled_68 : decode cX12_areTangled 68 = .ok (.goto 4, 3) := by decide +kernel
theorem dX12_areTangled_71 : decode cX12_areTangled 71 = .ok (.iconst 0, 1) := by decide +kernel
theorem dX12_areTangled_72 : decode cX12_areTangled 72 = .ok (.ireturn, 1) := by decide +kernel
theorem dX12_caseOf_0 : decode cX12_caseOf 0 = .ok (.aload_n 0, 1) := by decide +kernel
theorem dX12_caseOf_1 : decode cX12_caseOf 1 = .ok (.iload_n 1, 1) := by decide +kernel
theorem dX12_caseOf_2 : decode cX12_caseOf 2 = .ok (.iconst 4, 1) := by decide +kernel
theorem dX12_caseOf_3 : decode cX12_caseOf 3 = .ok (.invokevirtual 88, 3) := by decide +kernel
theorem dX12_caseOf_6 : decode cX12_caseOf 6 = .ok (.iload_n 1, 1) := by decide +kernel
theorem dX12_caseOf_7 : decode cX12_caseOf 7 = .ok (.ishl, 1) := by decide +kernel
theorem dX12_caseOf_8 : decode cX12_caseOf 8 = .ok (.istore_n 2, 1) := by decide +kernel
theorem dX12_caseOf_9 : decode cX12_caseOf 9 = .ok (.iconst 0, 1) := by decide +kernel
theorem dX12_caseOf_10 : decode cX12_caseOf 10 = .ok (.istore_n 3, 1) := by decide +kernel
theorem dX12_caseOf_11 : decode cX12_caseOf 11 = .ok (.iload_n 3, 1) := by decide +kernel
theorem dX12_caseOf_12 : decode cX12_caseOf 12 = .ok (.iload_n 2, 1) := by decide +kernel
theorem dX12_caseOf_13 : decode cX12_caseOf 13 = .ok (.if_icmp .eq 80, 3) := by decide +kernel
theorem dX12_caseOf_16 : decode cX12_caseOf 16 = .ok (.iload_n 2, 1) := by decide +kernel
theorem dX12_caseOf_17 : decode cX12_caseOf 17 = .ok (.istore_n 3, 1) := by decide +kernel
theorem dX12_caseOf_18 : decode cX12_caseOf 18 = .ok (.iconst 0, 1) := by decide +kernel
theorem dX12_caseOf_19 : decode cX12_caseOf 19 = .ok (.istore 4, 2) := by decide +kernel
theorem dX12_caseOf_21 : decode cX12_caseOf 21 = .ok (.iload 4, 2) := by decide +kernel
theorem dX12_caseOf_23 : decode cX12_caseOf 23 = .ok (.aload_n 0, 1) := by decide +kernel
theorem dX12_caseOf_24 : decode cX12_caseOf 24 = .ok (.getfield 7, 3) := by decide +kernel
theorem dX12_caseOf_27 : decode cX12_caseOf 27 = .ok (.iconst 0, 1) := by decide +kernel
theorem dX12_caseOf_28 : decode cX12_caseOf 28 = .ok (.iaload, 1) := by decide +kernel
theorem dX12_caseOf_29 : decode cX12_caseOf 29 = .ok (.if_icmp .ge 61, 3) := by decide +kernel
theorem dX12_caseOf_32 : decode cX12_caseOf 32 = .ok (.iconst 0, 1) := by decide +kernel
theorem dX12_caseOf_33 : decode cX12_caseOf 33 = .ok (.istore 5, 2) := by decide +kernel
theorem dX12_caseOf_35 : decode cX12_caseOf 35 = .ok (.iload 5, 2) := by decide +kernel
theorem dX12_caseOf_37 : decode cX12_caseOf 37 = .ok (.aload_n 0, 1) := by decide +kernel
theorem dX12_caseOf_38 : decode cX12_caseOf 38 = .ok (.getfield 7, 3) := by decide +kernel
theorem dX12_caseOf_41 : decode cX12_caseOf 41 = .ok (.iconst 0, 1) := by decide +kernel
theorem dX12_caseOf_42 : decode cX12_caseOf 42 = .ok (.iaload, 1) := by decide +kernel
theorem dX12_caseOf_43 : decode cX12_caseOf 43 = .ok (.if_icmp .ge 41, 3) := by decide +kernel
theorem dX12_caseOf_46 : decode cX12_caseOf 46 = .ok (.iload_n 2, 1) := by decide +kernel
theorem dX12_caseOf_47 : decode cX12_caseOf 47 = .ok (.iload_n 2, 1) := by decide +kernel
theorem dX12_caseOf_48 : decode cX12_caseOf 48 = .ok (.iload 4, 2) := by decide +kernel
theorem dX12_caseOf_50 : decode cX12_caseOf 50 = .ok (.ishr, 1) := by decide +kernel
theorem dX12_caseOf_51 : decode cX12_caseOf 51 = .ok (.iconst 1, 1) := by decide +kernel
theorem dX12_caseOf_52 : decode cX12_caseOf 52 = .ok (.iand, 1) := by decide +kernel
theorem dX12_caseOf_53 : decode cX12_caseOf 53 = .ok (.iconst 1, 1) := by decide +kernel
theorem dX12_caseOf_54 : decode cX12_caseOf 54 = .ok (.if_icmp .ne 21, 3) := by decide +kernel
theorem dX12_caseOf_57 : decode cX12_caseOf 57 = .ok (.aload_n 0, 1) := by decide +kernel
theorem dX12_caseOf_58 : decode cX12_caseOf 58 = .ok (.iload 4, 2) := by decide +kernel
theorem dX12_caseOf_60 : decode cX12_caseOf 60 = .ok (.iload 5, 2) := by decide +kernel
theorem dX12_caseOf_62 : decode cX12_caseOf 62 = .ok (.invokevirtual 189, 3) := by decide +kernel
theorem dX12_caseOf_65 : decode cX12_caseOf 65 = .ok (.ifCond .eq 10, 3) := by decide +kernel
theorem dX12_caseOf_68 : decode cX12_caseOf 68 = .ok (.iconst 1, 1) := by decide +kernel
theorem dX12_caseOf_69 : decode cX12_caseOf 69 = .ok (.iload 5, 2) := by decide +kernel
theorem dX12_caseOf_71 : decode cX12_caseOf 71 = .ok (.ishl, 1) := by decide +kernel
theorem dX12_caseOf_72 : decode cX12_caseOf 72 = .ok (.goto 4, 3) := by decide +kernel
theorem dX12_caseOf_75 : decode cX12_caseOf 75 = .ok (.iconst 0, 1) := by decide +kernel
theorem dX12_caseOf_76 : decode cX12_caseOf 76 = .ok (.ior, 1) := by decide +kernel
theorem dX12_caseOf_77 : decode cX12_caseOf 77 = .ok (.istore_n 2, 1) := by decide +kernel
theorem dX12_caseOf_78 : decode cX12_caseOf 78 = .ok (.iinc 5 1, 3) := by decide +kernel
theorem dX12_caseOf_81 : decode cX12_caseOf 81 = .ok (.goto (-46), 3) := by decide +kernel
theorem dX12_caseOf_84 : decode cX12_caseOf 84 = .ok (.iinc 4 1, 3) := by decide +kernel
theorem dX12_caseOf_87 : decode cX12_caseOf 87 = .ok (.goto (-66), 3) := by decide +kernel
theorem dX12_caseOf_90 : decode cX12_caseOf 90 = .ok (.goto (-79), 3) := by decide +kernel
theorem dX12_caseOf_93 : decode cX12_caseOf 93 = .ok (.iload_n 2, 1) := by decide +kernel
theorem dX12_caseOf_94 : decode cX12_caseOf 94 = .ok (.ireturn, 1) := by decide +kernel
theorem dX12_cases_0 : decode cX12_cases 0 = .ok (.aload_n 0, 1) := by decide +kernel
theorem dX12_cases_1 : decode cX12_cases 1 = .ok (.iload_n 1, 1) := by decide +kernel
theorem dX12_cases_2 : decode cX12_cases 2 = .ok (.invokevirtual 109, 3) := by decide +kernel
theorem dX12_cases_5 : decode cX12_cases 5 = .ok (.ifCond .eq 9, 3) := by decide +kernel
theorem dX12_cases_8 : decode cX12_cases 8 = .ok (.aload_n 0, 1) := by decide +kernel
theorem dX12_cases_9 : decode cX12_cases 9 = .ok (.iload_n 1, 1) := by decide +kernel
theorem dX12_cases_10 : decode cX12_cases 10 = .ok (.invokevirtual 192, 3) := by decide +kernel
theorem dX12_cases_13 : decode cX12_cases 13 = .ok (.ireturn, 1) := by decide +kernel
theorem dX12_cases_14 : decode cX12_cases 14 = .ok (.iload_n 1, 1) := by decide +kernel
theorem dX12_cases_15 : decode cX12_cases 15 = .ok (.iconst (-1), 1) := by decide +kernel
theorem dX12_cases_16 : decode cX12_cases 16 = .ok (.if_icmp .eq 5, 3) := by decide +kernel
theorem dX12_cases_19 : decode cX12_cases 19 = .ok (.iconst (-1), 1) := by decide +kernel
theorem dX12_cases_20 : decode cX12_cases 20 = .ok (.ireturn, 1) := by decide +kernel
theorem dX12_cases_21 : decode cX12_cases 21 = .ok (.iconst 0, 1) := by decide +kernel
theorem dX12_cases_22 : decode cX12_cases 22 = .ok (.istore_n 2, 1) := by decide +kernel
theorem dX12_cases_23 : decode cX12_cases 23 = .ok (.aload_n 0, 1) := by decide +kernel
theorem dX12_cases_24 : decode cX12_cases 24 = .ok (.iconst 4, 1) := by decide +kernel
theorem dX12_cases_25 : decode cX12_cases 25 = .ok (.invokevirtual 137, 3) := by decide +kernel
theorem dX12_cases_28 : decode cX12_cases 28 = .ok (.istore_n 3, 1) := by decide +kernel
theorem dX12_cases_29 : decode cX12_cases 29 = .ok (.iconst 0, 1) := by decide +kernel
theorem dX12_cases_30 : decode cX12_cases 30 = .ok (.istore 4, 2) := by decide +kernel
theorem dX12_cases_32 : decode cX12_cases 32 = .ok (.iload 4, 2) := by decide +kernel
theorem dX12_cases_34 : decode cX12_cases 34 = .ok (.aload_n 0, 1) := by decide +kernel
theorem dX12_cases_35 : decode cX12_cases 35 = .ok (.getfield 7, 3) := by decide +kernel
theorem dX12_cases_38 : decode cX12_cases 38 = .ok (.iconst 0, 1) := by decide +kernel
theorem dX12_cases_39 : decode cX12_cases 39 = .ok (.iaload, 1) := by decide +kernel
theorem dX12_cases_40 : decode cX12_cases 40 = .ok (.if_icmp .ge 43, 3) := by decide +kernel
theorem dX12_cases_43 : decode cX12_cases 43 = .ok (.iload_n 2, 1) := by decide +kernel
theorem dX12_cases_44 : decode cX12_cases 44 = .ok (.iload_n 3, 1) := by decide +kernel
theorem dX12_cases_45 : decode cX12_cases 45 = .ok (.iload 4, 2) := by decide +kernel
theorem dX12_cases_47 : decode cX12_cases 47 = .ok (.ishr, 1) := by decide +kernel
theorem dX12_cases_48 : decode cX12_cases 48 = .ok (.iconst 1, 1) := by decide +kernel
theorem dX12_cases_49 : decode cX12_cases 49 = .ok (.iand, 1) := by decide +kernel
theorem dX12_cases_50 : decode cX12_cases 50 = .ok (.iadd, 1) := by decide +kernel
theorem dX12_cases_51 : decode cX12_cases 51 = .ok (.istore_n 2, 1) := by decide +kernel
theorem dX12_cases_52 : decode cX12_cases 52 = .ok (.iload_n 3, 1) := by decide +kernel
theorem dX12_cases_53 : decode cX12_cases 53 = .ok (.iload_n 3, 1) := by decide +kernel
theorem dX12_cases_54 : decode cX12_cases 54 = .ok (.iload 4, 2) := by decide +kernel
theorem dX12_cases_56 : decode cX12_cases 56 = .ok (.ishr, 1) := by decide +kernel
theorem dX12_cases_57 : decode cX12_cases 57 = .ok (.iconst 1, 1) := by decide +kernel
theorem dX12_cases_58 : decode cX12_cases 58 = .ok (.iand, 1) := by decide +kernel
theorem dX12_cases_59 : decode cX12_cases 59 = .ok (.iconst 1, 1) := by decide +kernel
theorem dX12_cases_60 : decode cX12_cases 60 = .ok (.if_icmp .ne 14, 3) := by decide +kernel
theorem dX12_cases_63 : decode cX12_cases 63 = .ok (.aload_n 0, 1) := by decide +kernel
theorem dX12_cases_64 : decode cX12_cases 64 = .ok (.iload 4, 2) := by decide +kernel
theorem dX12_cases_66 : decode cX12_cases 66 = .ok (.invokevirtual 192, 3) := by decide +kernel
theorem dX12_cases_69 : decode cX12_cases 69 = .ok (.iconst (-1), 1) := by decide +kernel
theorem dX12_cases_70 : decode cX12_cases 70 = .ok (.ixor, 1) := by decide +kernel
theorem dX12_cases_71 : decode cX12_cases 71 = .ok (.goto 4, 3) := by decide +kernel
theorem dX12_cases_74 : decode cX12_cases 74 = .ok (.iconst (-1), 1) := by decide +kernel
theorem dX12_cases_75 : decode cX12_cases 75 = .ok (.iand, 1) := by decide +kernel
theorem dX12_cases_76 : decode cX12_cases 76 = .ok (.istore_n 3, 1) := by decide +kernel
theorem dX12_cases_77 : decode cX12_cases 77 = .ok (.iinc 4 1, 3) := by decide +kernel
theorem dX12_cases_80 : decode cX12_cases 80 = .ok (.goto (-48), 3) := by decide +kernel
theorem dX12_cases_83 : decode cX12_cases 83 = .ok (.iload_n 2, 1) := by decide +kernel
theorem dX12_cases_84 : decode cX12_cases 84 = .ok (.ireturn, 1) := by decide +kernel
theorem dX12_steps_0 : decode cX12_steps 0 = .ok (.iload_n 2, 1) := by decide +kernel
theorem dX12_steps_1 : decode cX12_steps 1 = .ok (.ifCond .ne 7, 3) := by decide +kernel
theorem dX12_steps_4 : decode cX12_steps 4 = .ok (.iconst 0, 1) := by decide +kernel
theorem dX12_steps_5 : decode cX12_steps 5 = .ok (.goto 4, 3) := by decide +kernel
theorem dX12_steps_8 : decode cX12_steps 8 = .ok (.iconst (-1), 1) := by decide +kernel
theorem dX12_steps_9 : decode cX12_steps 9 = .ok (.istore_n 3, 1) := by decide +kernel
theorem dX12_steps_10 : decode cX12_steps 10 = .ok (.iconst 0, 1) := by decide +kernel
theorem dX12_steps_11 : decode cX12_steps 11 = .ok (.istore 4, 2) := by decide +kernel
theorem dX12_steps_13 : decode cX12_steps 13 = .ok (.iload 4, 2) := by decide +kernel
theorem dX12_steps_15 : decode cX12_steps 15 = .ok (.aload_n 0, 1) := by decide +kernel
theorem dX12_steps_16 : decode cX12_steps 16 = .ok (.getfield 7, 3) := by decide +kernel
theorem dX12_steps_19 : decode cX12_steps 19 = .ok (.iconst 0, 1) := by decide +kernel
theorem dX12_steps_20 : decode cX12_steps 20 = .ok (.iaload, 1) := by decide +kernel
theorem dX12_steps_21 : decode cX12_steps 21 = .ok (.if_icmp .ge 69, 3) := by decide +kernel
theorem dX12_steps_24 : decode cX12_steps 24 = .ok (.iload_n 2, 1) := by decide +kernel
theorem dX12_steps_25 : decode cX12_steps 25 = .ok (.iload 4, 2) := by decide +kernel
theorem dX12_steps_27 : decode cX12_steps 27 = .ok (.ishr, 1) := by decide +kernel
theorem dX12_steps_28 : decode cX12_steps 28 = .ok (.iconst 1, 1) := by decide +kernel
theorem dX12_steps_29 : decode cX12_steps 29 = .ok (.iand, 1) := by decide +kernel
theorem dX12_steps_30 : decode cX12_steps 30 = .ok (.iconst 1, 1) := by decide +kernel
theorem dX12_steps_31 : decode cX12_steps 31 = .ok (.if_icmp .ne 53, 3) := by decide +kernel
theorem dX12_steps_34 : decode cX12_steps 34 = .ok (.iload_n 1, 1) := by decide +kernel
theorem dX12_steps_35 : decode cX12_steps 35 = .ok (.aload_n 0, 1) := by decide +kernel
theorem dX12_steps_36 : decode cX12_steps 36 = .ok (.iload 4, 2) := by decide +kernel
theorem dX12_steps_38 : decode cX12_steps 38 = .ok (.iconst 1, 1) := by decide +kernel
theorem dX12_steps_39 : decode cX12_steps 39 = .ok (.invokevirtual 88, 3) := by decide +kernel
theorem dX12_steps_42 : decode cX12_steps 42 = .ok (.invokestatic 102, 3) := by decide +kernel
theorem dX12_steps_45 : decode cX12_steps 45 = .ok (.aload_n 0, 1) := by decide +kernel
theorem dX12_steps_46 : decode cX12_steps 46 = .ok (.aload_n 0, 1) := by decide +kernel
theorem dX12_steps_47 : decode cX12_steps 47 = .ok (.iload 4, 2) := by decide +kernel
theorem dX12_steps_49 : decode cX12_steps 49 = .ok (.iconst 1, 1) := by decide +kernel
theorem dX12_steps_50 : decode cX12_steps 50 = .ok (.invokevirtual 88, 3) := by decide +kernel
theorem dX12_steps_53 : decode cX12_steps 53 = .ok (.iload_n 2, 1) := by decide +kernel
theorem dX12_steps_54 : decode cX12_steps 54 = .ok (.iconst 1, 1) := by decide +kernel
theorem dX12_steps_55 : decode cX12_steps 55 = .ok (.iload 4, 2) := by decide +kernel
theorem dX12_steps_57 : decode cX12_steps 57 = .ok (.ishl, 1) := by decide +kernel
theorem dX12_steps_58 : decode cX12_steps 58 = .ok (.iconst (-1), 1) := by decide +kernel
theorem dX12_steps_59 : decode cX12_steps 59 = .ok (.ixor, 1) := by decide +kernel
theorem dX12_steps_60 : decode cX12_steps 60 = .ok (.iand, 1) := by decide +kernel
theorem dX12_steps_61 : decode cX12_steps 61 = .ok (.invokevirtual 195, 3) := by decide +kernel
theorem dX12_steps_64 : decode cX12_steps 64 = .ok (.iadd, 1) := by decide +kernel
theorem dX12_steps_65 : decode cX12_steps 65 = .ok (.istore 5, 2) := by decide +kernel
theorem dX12_steps_67 : decode cX12_steps 67 = .ok (.iload_n 3, 1) := by decide +kernel
theorem dX12_steps_68 : decode cX12_steps 68 = .ok (.ifCond .lt 9, 3) := by decide +kernel
theorem dX12_steps_71 : decode cX12_steps 71 = .ok (.iload 5, 2) := by decide +kernel
theorem dX12_steps_73 : decode cX12_steps 73 = .ok (.iload_n 3, 1) := by decide +kernel
theorem dX12_steps_74 : decode cX12_steps 74 = .ok (.if_icmp .ge 8, 3) := by decide +kernel
theorem dX12_steps_77 : decode cX12_steps 77 = .ok (.iload 5, 2) := by decide +kernel
theorem dX12_steps_79 : decode cX12_steps 79 = .ok (.goto 4, 3) := by decide +kernel
theorem dX12_steps_82 : decode cX12_steps 82 = .ok (.iload_n 3, 1) := by decide +kernel
theorem dX12_steps_83 : decode cX12_steps 83 = .ok (.istore_n 3, 1) := by decide +kernel
theorem dX12_steps_84 : decode cX12_steps 84 = .ok (.iinc 4 1, 3) := by decide +kernel
theorem dX12_steps_87 : decode cX12_steps 87 = .ok (.goto (-74), 3) := by decide +kernel
theorem dX12_steps_90 : decode cX12_steps 90 = .ok (.iload_n 3, 1) := by decide +kernel
theorem dX12_steps_91 : decode cX12_steps 91 = .ok (.ireturn, 1) := by decide +kernel
theorem dX12_circuit_0 : decode cX12_circuit 0 = .ok (.iload_n 1, 1) := by decide +kernel
theorem dX12_circuit_1 : decode cX12_circuit 1 = .ok (.invokestatic 70, 3) := by decide +kernel
theorem dX12_circuit_4 : decode cX12_circuit 4 = .ok (.ifCond .eq 13, 3) := by decide +kernel
theorem dX12_circuit_7 : decode cX12_circuit 7 = .ok (.iload_n 2, 1) := by decide +kernel
theorem dX12_circuit_8 : decode cX12_circuit 8 = .ok (.i2l, 1) := by decide +kernel
theorem dX12_circuit_9 : decode cX12_circuit 9 = .ok (.lconst 0, 1) := by decide +kernel
theorem dX12_circuit_10 : decode cX12_circuit 10 = .ok (.lconst 1, 1) := by decide +kernel
theorem dX12_circuit_11 : decode cX12_circuit 11 = .ok (.invokestatic 58, 3) := by decide +kernel
theorem dX12_circuit_14 : decode cX12_circuit 14 = .ok (.ifCond .ne 5, 3) := by decide +kernel
theorem dX12_circuit_17 : decode cX12_circuit 17 = .ok (.iconst (-1), 1) := by decide +kernel
theorem dX12_circuit_18 : decode cX12_circuit 18 = .ok (.ireturn, 1) := by decide +kernel
theorem dX12_circuit_19 : decode cX12_circuit 19 = .ok (.iconst 1, 1) := by decide +kernel
theorem dX12_circuit_20 : decode cX12_circuit 20 = .ok (.aload_n 0, 1) := by decide +kernel
theorem dX12_circuit_21 : decode cX12_circuit 21 = .ok (.getfield 7, 3) := by decide +kernel
theorem dX12_circuit_24 : decode cX12_circuit 24 = .ok (.iconst 0, 1) := by decide +kernel
theorem dX12_circuit_25 : decode cX12_circuit 25 = .ok (.iaload, 1) := by decide +kernel
theorem dX12_circuit_26 : decode cX12_circuit 26 = .ok (.ishl, 1) := by decide +kernel
theorem dX12_circuit_27 : decode cX12_circuit 27 = .ok (.iconst 1, 1) := by decide +kernel
theorem dX12_circuit_28 : decode cX12_circuit 28 = .ok (.isub, 1) := by decide +kernel
theorem dX12_circuit_29 : decode cX12_circuit 29 = .ok (.aload_n 0, 1) := by decide +kernel
theorem dX12_circuit_30 : decode cX12_circuit 30 = .ok (.iconst 4, 1) := by decide +kernel
theorem dX12_circuit_31 : decode cX12_circuit 31 = .ok (.invokevirtual 137, 3) := by decide +kernel
theorem dX12_circuit_34 : decode cX12_circuit 34 = .ok (.iconst (-1), 1) := by decide +kernel
theorem dX12_circuit_35 : decode cX12_circuit 35 = .ok (.ixor, 1) := by decide +kernel
theorem dX12_circuit_36 : decode cX12_circuit 36 = .ok (.iand, 1) := by decide +kernel
theorem dX12_circuit_37 : decode cX12_circuit 37 = .ok (.istore_n 3, 1) := by decide +kernel
theorem dX12_circuit_38 : decode cX12_circuit 38 = .ok (.aload_n 0, 1) := by decide +kernel
theorem dX12_circuit_39 : decode cX12_circuit 39 = .ok (.iload_n 1, 1) := by decide +kernel
theorem dX12_circuit_40 : decode cX12_circuit 40 = .ok (.iload_n 3, 1) := by decide +kernel
theorem dX12_circuit_41 : decode cX12_circuit 41 = .ok (.invokevirtual 195, 3) := by decide +kernel
theorem dX12_circuit_44 : decode cX12_circuit 44 = .ok (.istore 4, 2) := by decide +kernel
theorem dX12_circuit_46 : decode cX12_circuit 46 = .ok (.iload_n 2, 1) := by decide +kernel
theorem dX12_circuit_47 : decode cX12_circuit 47 = .ok (.ifCond .ne 6, 3) := by decide +kernel
theorem dX12_circuit_50 : decode cX12_circuit 50 = .ok (.iload 4, 2) := by decide +kernel
theorem dX12_circuit_52 : decode cX12_circuit 52 = .ok (.ireturn, 1) := by decide +kernel
theorem dX12_circuit_53 : decode cX12_circuit 53 = .ok (.iconst 0, 1) := by decide +kernel
theorem dX12_circuit_54 : decode cX12_circuit 54 = .ok (.istore 5, 2) := by decide +kernel
theorem dX12_circuit_56 : decode cX12_circuit 56 = .ok (.iload 5, 2) := by decide +kernel
theorem dX12_circuit_58 : decode cX12_circuit 58 = .ok (.aload_n 0, 1) := by decide +kernel
theorem dX12_circuit_59 : decode cX12_circuit 59 = .ok (.getfield 7, 3) := by decide +kernel
theorem dX12_circuit_62 : decode cX12_circuit 62 = .ok (.iconst 0, 1) := by decide +kernel
theorem dX12_circuit_63 : decode cX12_circuit 63 = .ok (.iaload, 1) := by decide +kernel
theorem dX12_circuit_64 : decode cX12_circuit 64 = .ok (.if_icmp .ge 58, 3) := by decide +kernel
theorem dX12_circuit_67 : decode cX12_circuit 67 = .ok (.iload_n 3, 1) := by decide +kernel
theorem dX12_circuit_68 : decode cX12_circuit 68 = .ok (.iload 5, 2) := by decide +kernel
theorem dX12_circuit_70 : decode cX12_circuit 70 = .ok (.ishr, 1) := by decide +kernel
theorem dX12_circuit_71 : decode cX12_circuit 71 = .ok (.iconst 1, 1) := by decide +kernel
theorem dX12_circuit_72 : decode cX12_circuit 72 = .ok (.iand, 1) := by decide +kernel
theorem dX12_circuit_73 : decode cX12_circuit 73 = .ok (.iconst 1, 1) := by decide +kernel
theorem dX12_circuit_74 : decode cX12_circuit 74 = .ok (.if_icmp .ne 42, 3) := by decide +kernel
theorem dX12_circuit_77 : decode cX12_circuit 77 = .ok (.iload_n 1, 1) := by decide +kernel
theorem dX12_circuit_78 : decode cX12_circuit 78 = .ok (.aload_n 0, 1) := by decide +kernel
theorem dX12_circuit_79 : decode cX12_circuit 79 = .ok (.iload 5, 2) := by decide +kernel
theorem dX12_circuit_81 : decode cX12_circuit 81 = .ok (.iconst 1, 1) := by decide +kernel
theorem dX12_circuit_82 : decode cX12_circuit 82 = .ok (.invokevirtual 88, 3) := by decide +kernel
theorem dX12_circuit_85 : decode cX12_circuit 85 = .ok (.invokestatic 102, 3) := by decide +kernel
theorem dX12_circuit_88 : decode cX12_circuit 88 = .ok (.aload_n 0, 1) := by decide +kernel
theorem dX12_circuit_89 : decode cX12_circuit 89 = .ok (.aload_n 0, 1) := by decide +kernel
theorem dX12_circuit_90 : decode cX12_circuit 90 = .ok (.iload 5, 2) := by decide +kernel
theorem dX12_circuit_92 : decode cX12_circuit 92 = .ok (.iconst 1, 1) := by decide +kernel
theorem dX12_circuit_93 : decode cX12_circuit 93 = .ok (.invokevirtual 88, 3) := by decide +kernel
theorem dX12_circuit_96 : decode cX12_circuit 96 = .ok (.iload_n 3, 1) := by decide +kernel
theorem dX12_circuit_97 : decode cX12_circuit 97 = .ok (.iconst 1, 1) := by decide +kernel
theorem dX12_circuit_98 : decode cX12_circuit 98 = .ok (.iload 5, 2) := by decide +kernel
theorem dX12_circuit_100 : decode cX12_circuit 100 = .ok (.ishl, 1) := by decide +kernel
theorem dX12_circuit_101 : decode cX12_circuit 101 = .ok (.iconst (-1), 1) := by decide +kernel
theorem dX12_circuit_102 : decode cX12_circuit 102 = .ok (.ixor, 1) := by decide +kernel
theorem dX12_circuit_103 : decode cX12_circuit 103 = .ok (.iand, 1) := by decide +kernel
theorem dX12_circuit_104 : decode cX12_circuit 104 = .ok (.invokevirtual 195, 3) := by decide +kernel
theorem dX12_circuit_107 : decode cX12_circuit 107 = .ok (.iadd, 1) := by decide +kernel
theorem dX12_circuit_108 : decode cX12_circuit 108 = .ok (.iload 4, 2) := by decide +kernel
theorem dX12_circuit_110 : decode cX12_circuit 110 = .ok (.if_icmp .ne 6, 3) := by decide +kernel
theorem dX12_circuit_113 : decode cX12_circuit 113 = .ok (.iload 5, 2) := by decide +kernel
theorem dX12_circuit_115 : decode cX12_circuit 115 = .ok (.ireturn, 1) := by decide +kernel
theorem dX12_circuit_116 : decode cX12_circuit 116 = .ok (.iinc 5 1, 3) := by decide +kernel
theorem dX12_circuit_119 : decode cX12_circuit 119 = .ok (.goto (-63), 3) := by decide +kernel
theorem dX12_circuit_122 : decode cX12_circuit 122 = .ok (.bipush (-3), 2) := by decide +kernel
theorem dX12_circuit_124 : decode cX12_circuit 124 = .ok (.ireturn, 1) := by decide +kernel
theorem dX12_ones_0 : decode cX12_ones 0 = .ok (.iconst 0, 1) := by decide +kernel
theorem dX12_ones_1 : decode cX12_ones 1 = .ok (.istore_n 1, 1) := by decide +kernel
theorem dX12_ones_2 : decode cX12_ones 2 = .ok (.iload_n 0, 1) := by decide +kernel
theorem dX12_ones_3 : decode cX12_ones 3 = .ok (.istore_n 2, 1) := by decide +kernel
theorem dX12_ones_4 : decode cX12_ones 4 = .ok (.iload_n 2, 1) := by decide +kernel
theorem dX12_ones_5 : decode cX12_ones 5 = .ok (.ifCond .eq 15, 3) := by decide +kernel
theorem dX12_ones_8 : decode cX12_ones 8 = .ok (.iinc 1 1, 3) := by decide +kernel
theorem dX12_ones_11 : decode cX12_ones 11 = .ok (.iload_n 2, 1) := by decide +kernel
theorem dX12_ones_12 : decode cX12_ones 12 = .ok (.iload_n 2, 1) := by decide +kernel
theorem dX12_ones_13 : decode cX12_ones 13 = .ok (.iconst 1, 1) := by decide +kernel
theorem dX12_ones_14 : decode cX12_ones 14 = .ok (.isub, 1) := by decide +kernel
theorem dX12_ones_15 : decode cX12_ones 15 = .ok (.iand, 1) := by decide +kernel
theorem dX12_ones_16 : decode cX12_ones 16 = .ok (.istore_n 2, 1) := by decide +kernel
theorem dX12_ones_17 : decode cX12_ones 17 = .ok (.goto (-13), 3) := by decide +kernel
theorem dX12_ones_20 : decode cX12_ones 20 = .ok (.iload_n 1, 1) := by decide +kernel
theorem dX12_ones_21 : decode cX12_ones 21 = .ok (.ireturn, 1) := by decide +kernel
theorem dX12_saves_0 : decode cX12_saves 0 = .ok (.iconst 0, 1) := by decide +kernel
theorem dX12_saves_1 : decode cX12_saves 1 = .ok (.istore_n 2, 1) := by decide +kernel
theorem dX12_saves_2 : decode cX12_saves 2 = .ok (.iload_n 2, 1) := by decide +kernel
theorem dX12_saves_3 : decode cX12_saves 3 = .ok (.bipush 6, 2) := by decide +kernel
theorem dX12_saves_5 : decode cX12_saves 5 = .ok (.if_icmp .ge 86, 3) := by decide +kernel
theorem dX12_saves_8 : decode cX12_saves 8 = .ok (.aload_n 0, 1) := by decide +kernel
theorem dX12_saves_9 : decode cX12_saves 9 = .ok (.getfield 22, 3) := by decide +kernel
theorem dX12_saves_12 : decode cX12_saves 12 = .ok (.bipush 26, 2) := by decide +kernel
theorem dX12_saves_14 : decode cX12_saves 14 = .ok (.iload_n 1, 1) := by decide +kernel
theorem dX12_saves_15 : decode cX12_saves 15 = .ok (.imul, 1) := by decide +kernel
theorem dX12_saves_16 : decode cX12_saves 16 = .ok (.iload_n 2, 1) := by decide +kernel
theorem dX12_saves_17 : decode cX12_saves 17 = .ok (.iadd, 1) := by decide +kernel
theorem dX12_saves_18 : decode cX12_saves 18 = .ok (.aload_n 0, 1) := by decide +kernel
theorem dX12_saves_19 : decode cX12_saves 19 = .ok (.iload_n 2, 1) := by decide +kernel
theorem dX12_saves_20 : decode cX12_saves 20 = .ok (.iconst 1, 1) := by decide +kernel
theorem dX12_saves_21 : decode cX12_saves 21 = .ok (.invokevirtual 88, 3) := by decide +kernel
theorem dX12_saves_24 : decode cX12_saves 24 = .ok (.iastore, 1) := by decide +kernel
theorem dX12_saves_25 : decode cX12_saves 25 = .ok (.aload_n 0, 1) := by decide +kernel
theorem dX12_saves_26 : decode cX12_saves 26 = .ok (.getfield 22, 3) := by decide +kernel
theorem dX12_saves_29 : decode cX12_saves 29 = .ok (.bipush 26, 2) := by decide +kernel
theorem dX12_saves_31 : decode cX12_saves 31 = .ok (.iload_n 1, 1) := by decide +kernel
theorem dX12_saves_32 : decode cX12_saves 32 = .ok (.imul, 1) := by decide +kernel
theorem dX12_saves_33 : decode cX12_saves 33 = .ok (.bipush 6, 2) := by decide +kernel
theorem dX12_saves_35 : decode cX12_saves 35 = .ok (.iadd, 1) := by decide +kernel
theorem dX12_saves_36 : decode cX12_saves 36 = .ok (.iload_n 2, 1) := by decide +kernel
theorem dX12_saves_37 : decode cX12_saves 37 = .ok (.iadd, 1) := by decide +kernel
theorem dX12_saves_38 : decode cX12_saves 38 = .ok (.aload_n 0, 1) := by decide +kernel
theorem dX12_saves_39 : decode cX12_saves 39 = .ok (.iload_n 2, 1) := by decide +kernel
theorem dX12_saves_40 : decode cX12_saves 40 = .ok (.iconst 2, 1) := by decide +kernel
theorem dX12_saves_41 : decode cX12_saves 41 = .ok (.invokevirtual 88, 3) := by decide +kernel
theorem dX12_saves_44 : decode cX12_saves 44 = .ok (.iastore, 1) := by decide +kernel
theorem dX12_saves_45 : decode cX12_saves 45 = .ok (.aload_n 0, 1) := by decide +kernel
theorem dX12_saves_46 : decode cX12_saves 46 = .ok (.getfield 22, 3) := by decide +kernel
theorem dX12_saves_49 : decode cX12_saves 49 = .ok (.bipush 26, 2) := by decide +kernel
theorem dX12_saves_51 : decode cX12_saves 51 = .ok (.iload_n 1, 1) := by decide +kernel
theorem dX12_saves_52 : decode cX12_saves 52 = .ok (.imul, 1) := by decide +kernel
theorem dX12_saves_53 : decode cX12_saves 53 = .ok (.bipush 12, 2) := by decide +kernel
theorem dX12_saves_55 : decode cX12_saves 55 = .ok (.iadd, 1) := by decide +kernel
theorem dX12_saves_56 : decode cX12_saves 56 = .ok (.iload_n 2, 1) := by decide +kernel
theorem dX12_saves_57 : decode cX12_saves 57 = .ok (.iadd, 1) := by decide +kernel
theorem dX12_saves_58 : decode cX12_saves 58 = .ok (.aload_n 0, 1) := by decide +kernel
theorem dX12_saves_59 : decode cX12_saves 59 = .ok (.iload_n 2, 1) := by decide +kernel
theorem dX12_saves_60 : decode cX12_saves 60 = .ok (.iconst 4, 1) := by decide +kernel
theorem dX12_saves_61 : decode cX12_saves 61 = .ok (.invokevirtual 88, 3) := by decide +kernel
theorem dX12_saves_64 : decode cX12_saves 64 = .ok (.iastore, 1) := by decide +kernel
theorem dX12_saves_65 : decode cX12_saves 65 = .ok (.aload_n 0, 1) := by decide +kernel
theorem dX12_saves_66 : decode cX12_saves 66 = .ok (.getfield 22, 3) := by decide +kernel
theorem dX12_saves_69 : decode cX12_saves 69 = .ok (.bipush 26, 2) := by decide +kernel
theorem dX12_saves_71 : decode cX12_saves 71 = .ok (.iload_n 1, 1) := by decide +kernel
theorem dX12_saves_72 : decode cX12_saves 72 = .ok (.imul, 1) := by decide +kernel
theorem dX12_saves_73 : decode cX12_saves 73 = .ok (.bipush 18, 2) := by decide +kernel
theorem dX12_saves_75 : decode cX12_saves 75 = .ok (.iadd, 1) := by decide +kernel
theorem dX12_saves_76 : decode cX12_saves 76 = .ok (.iload_n 2, 1) := by decide +kernel
theorem dX12_saves_77 : decode cX12_saves 77 = .ok (.iadd, 1) := by decide +kernel
theorem dX12_saves_78 : decode cX12_saves 78 = .ok (.aload_n 0, 1) := by decide +kernel
theorem dX12_saves_79 : decode cX12_saves 79 = .ok (.iload_n 2, 1) := by decide +kernel
theorem dX12_saves_80 : decode cX12_saves 80 = .ok (.iconst 5, 1) := by decide +kernel
theorem dX12_saves_81 : decode cX12_saves 81 = .ok (.invokevirtual 88, 3) := by decide +kernel
theorem dX12_saves_84 : decode cX12_saves 84 = .ok (.iastore, 1) := by decide +kernel
theorem dX12_saves_85 : decode cX12_saves 85 = .ok (.iinc 2 1, 3) := by decide +kernel
theorem dX12_saves_88 : decode cX12_saves 88 = .ok (.goto (-86), 3) := by decide +kernel
theorem dX12_saves_91 : decode cX12_saves 91 = .ok (.aload_n 0, 1) := by decide +kernel
theorem dX12_saves_92 : decode cX12_saves 92 = .ok (.getfield 22, 3) := by decide +kernel
theorem dX12_saves_95 : decode cX12_saves 95 = .ok (.bipush 26, 2) := by decide +kernel
theorem dX12_saves_97 : decode cX12_saves 97 = .ok (.iload_n 1, 1) := by decide +kernel
theorem dX12_saves_98 : decode cX12_saves 98 = .ok (.imul, 1) := by decide +kernel
theorem dX12_saves_99 : decode cX12_saves 99 = .ok (.bipush 24, 2) := by decide +kernel
theorem dX12_saves_101 : decode cX12_saves 101 = .ok (.iadd, 1) := by decide +kernel
theorem dX12_saves_102 : decode cX12_saves 102 = .ok (.aload_n 0, 1) := by decide +kernel
theorem dX12_saves_103 : decode cX12_saves 103 = .ok (.getfield 7, 3) := by decide +kernel
theorem dX12_saves_106 : decode cX12_saves 106 = .ok (.iconst 3, 1) := by decide +kernel
theorem dX12_saves_107 : decode cX12_saves 107 = .ok (.iaload, 1) := by decide +kernel
theorem dX12_saves_108 : decode cX12_saves 108 = .ok (.iastore, 1) := by decide +kernel
theorem dX12_saves_109 : decode cX12_saves 109 = .ok (.aload_n 0, 1) := by decide +kernel
theorem dX12_saves_110 : decode cX12_saves 110 = .ok (.getfield 22, 3) := by decide +kernel
theorem dX12_saves_113 : decode cX12_saves 113 = .ok (.bipush 26, 2) := by decide +kernel
theorem dX12_saves_115 : decode cX12_saves 115 = .ok (.iload_n 1, 1) := by decide +kernel
theorem dX12_saves_116 : decode cX12_saves 116 = .ok (.imul, 1) := by decide +kernel
theorem dX12_saves_117 : decode cX12_saves 117 = .ok (.bipush 25, 2) := by decide +kernel
theorem dX12_saves_119 : decode cX12_saves 119 = .ok (.iadd, 1) := by decide +kernel
theorem dX12_saves_120 : decode cX12_saves 120 = .ok (.aload_n 0, 1) := by decide +kernel
theorem dX12_saves_121 : decode cX12_saves 121 = .ok (.getfield 7, 3) := by decide +kernel
theorem dX12_saves_124 : decode cX12_saves 124 = .ok (.iconst 4, 1) := by decide +kernel
theorem dX12_saves_125 : decode cX12_saves 125 = .ok (.iaload, 1) := by decide +kernel
theorem dX12_saves_126 : decode cX12_saves 126 = .ok (.iastore, 1) := by decide +kernel
theorem dX12_saves_127 : decode cX12_saves 127 = .ok (.return_, 1) := by decide +kernel
theorem dX12_takesBack_0 : decode cX12_takesBack 0 = .ok (.iconst 0, 1) := by decide +kernel
theorem dX12_takesBack_1 : decode cX12_takesBack 1 = .ok (.istore_n 2, 1) := by decide +kernel
theorem dX12_takesBack_2 : decode cX12_takesBack 2 = .ok (.iload_n 2, 1) := by decide +kernel
theorem dX12_takesBack_3 : decode cX12_takesBack 3 = .ok (.bipush 6, 2) := by decide +kernel
theorem dX12_takesBack_5 : decode cX12_takesBack 5 = .ok (.if_icmp .ge 102, 3) := by decide +kernel
theorem dX12_takesBack_8 : decode cX12_takesBack 8 = .ok (.aload_n 0, 1) := by decide +kernel
theorem dX12_takesBack_9 : decode cX12_takesBack 9 = .ok (.getfield 7, 3) := by decide +kernel
theorem dX12_takesBack_12 : decode cX12_takesBack 12 = .ok (.iload_n 2, 1) := by decide +kernel
theorem dX12_takesBack_13 : decode cX12_takesBack 13 = .ok (.iconst 1, 1) := by decide +kernel
theorem dX12_takesBack_14 : decode cX12_takesBack 14 = .ok (.invokestatic 62, 3) := by decide +kernel
theorem dX12_takesBack_17 : decode cX12_takesBack 17 = .ok (.aload_n 0, 1) := by decide +kernel
theorem dX12_takesBack_18 : decode cX12_takesBack 18 = .ok (.getfield 22, 3) := by decide +kernel
theorem dX12_takesBack_21 : decode cX12_takesBack 21 = .ok (.bipush 26, 2) := by decide +kernel
theorem dX12_takesBack_23 : decode cX12_takesBack 23 = .ok (.iload_n 1, 1) := by decide +kernel
theorem dX12_takesBack_24 : decode cX12_takesBack 24 = .ok (.imul, 1) := by decide +kernel
theorem dX12_takesBack_25 : decode cX12_takesBack 25 = .ok (.iload_n 2, 1) := by decide +kernel
theorem dX12_takesBack_26 : decode cX12_takesBack 26 = .ok (.iadd, 1) := by decide +kernel
theorem dX12_takesBack_27 : decode cX12_takesBack 27 = .ok (.iaload, 1) := by decide +kernel
theorem dX12_takesBack_28 : decode cX12_takesBack 28 = .ok (.iastore, 1) := by decide +kernel
theorem dX12_takesBack_29 : decode cX12_takesBack 29 = .ok (.aload_n 0, 1) := by decide +kernel
theorem dX12_takesBack_30 : decode cX12_takesBack 30 = .ok (.getfield 7, 3) := by decide +kernel
theorem dX12_takesBack_33 : decode cX12_takesBack 33 = .ok (.iload_n 2, 1) := by decide +kernel
theorem dX12_takesBack_34 : decode cX12_takesBack 34 = .ok (.iconst 2, 1) := by decide +kernel
theorem dX12_takesBack_35 : decode cX12_takesBack 35 = .ok (.invokestatic 62, 3) := by decide +kernel
theorem dX12_takesBack_38 : decode cX12_takesBack 38 = .ok (.aload_n 0, 1) := by decide +kernel
theorem dX12_takesBack_39 : decode cX12_takesBack 39 = .ok (.getfield 22, 3) := by decide +kernel
theorem dX12_takesBack_42 : decode cX12_takesBack 42 = .ok (.bipush 26, 2) := by decide +kernel
theorem dX12_takesBack_44 : decode cX12_takesBack 44 = .ok (.iload_n 1, 1) := by decide +kernel
theorem dX12_takesBack_45 : decode cX12_takesBack 45 = .ok (.imul, 1) := by decide +kernel
theorem dX12_takesBack_46 : decode cX12_takesBack 46 = .ok (.bipush 6, 2) := by decide +kernel
theorem dX12_takesBack_48 : decode cX12_takesBack 48 = .ok (.iadd, 1) := by decide +kernel
theorem dX12_takesBack_49 : decode cX12_takesBack 49 = .ok (.iload_n 2, 1) := by decide +kernel
theorem dX12_takesBack_50 : decode cX12_takesBack 50 = .ok (.iadd, 1) := by decide +kernel
theorem dX12_takesBack_51 : decode cX12_takesBack 51 = .ok (.iaload, 1) := by decide +kernel
theorem dX12_takesBack_52 : decode cX12_takesBack 52 = .ok (.iastore, 1) := by decide +kernel
theorem dX12_takesBack_53 : decode cX12_takesBack 53 = .ok (.aload_n 0, 1) := by decide +kernel
theorem dX12_takesBack_54 : decode cX12_takesBack 54 = .ok (.getfield 7, 3) := by decide +kernel
theorem dX12_takesBack_57 : decode cX12_takesBack 57 = .ok (.iload_n 2, 1) := by decide +kernel
theorem dX12_takesBack_58 : decode cX12_takesBack 58 = .ok (.iconst 4, 1) := by decide +kernel
theorem dX12_takesBack_59 : decode cX12_takesBack 59 = .ok (.invokestatic 62, 3) := by decide +kernel
theorem dX12_takesBack_62 : decode cX12_takesBack 62 = .ok (.aload_n 0, 1) := by decide +kernel
theorem dX12_takesBack_63 : decode cX12_takesBack 63 = .ok (.getfield 22, 3) := by decide +kernel
theorem dX12_takesBack_66 : decode cX12_takesBack 66 = .ok (.bipush 26, 2) := by decide +kernel
theorem dX12_takesBack_68 : decode cX12_takesBack 68 = .ok (.iload_n 1, 1) := by decide +kernel
theorem dX12_takesBack_69 : decode cX12_takesBack 69 = .ok (.imul, 1) := by decide +kernel
theorem dX12_takesBack_70 : decode cX12_takesBack 70 = .ok (.bipush 12, 2) := by decide +kernel
theorem dX12_takesBack_72 : decode cX12_takesBack 72 = .ok (.iadd, 1) := by decide +kernel
theorem dX12_takesBack_73 : decode cX12_takesBack 73 = .ok (.iload_n 2, 1) := by decide +kernel
theorem dX12_takesBack_74 : decode cX12_takesBack 74 = .ok (.iadd, 1) := by decide +kernel
theorem dX12_takesBack_75 : decode cX12_takesBack 75 = .ok (.iaload, 1) := by decide +kernel
theorem dX12_takesBack_76 : decode cX12_takesBack 76 = .ok (.iastore, 1) := by decide +kernel
theorem dX12_takesBack_77 : decode cX12_takesBack 77 = .ok (.aload_n 0, 1) := by decide +kernel
theorem dX12_takesBack_78 : decode cX12_takesBack 78 = .ok (.getfield 7, 3) := by decide +kernel
theorem dX12_takesBack_81 : decode cX12_takesBack 81 = .ok (.iload_n 2, 1) := by decide +kernel
theorem dX12_takesBack_82 : decode cX12_takesBack 82 = .ok (.iconst 5, 1) := by decide +kernel
theorem dX12_takesBack_83 : decode cX12_takesBack 83 = .ok (.invokestatic 62, 3) := by decide +kernel
theorem dX12_takesBack_86 : decode cX12_takesBack 86 = .ok (.aload_n 0, 1) := by decide +kernel
theorem dX12_takesBack_87 : decode cX12_takesBack 87 = .ok (.getfield 22, 3) := by decide +kernel
theorem dX12_takesBack_90 : decode cX12_takesBack 90 = .ok (.bipush 26, 2) := by decide +kernel
theorem dX12_takesBack_92 : decode cX12_takesBack 92 = .ok (.iload_n 1, 1) := by decide +kernel
theorem dX12_takesBack_93 : decode cX12_takesBack 93 = .ok (.imul, 1) := by decide +kernel
theorem dX12_takesBack_94 : decode cX12_takesBack 94 = .ok (.bipush 18, 2) := by decide +kernel
theorem dX12_takesBack_96 : decode cX12_takesBack 96 = .ok (.iadd, 1) := by decide +kernel
theorem dX12_takesBack_97 : decode cX12_takesBack 97 = .ok (.iload_n 2, 1) := by decide +kernel
theorem dX12_takesBack_98 : decode cX12_takesBack 98 = .ok (.iadd, 1) := by decide +kernel
theorem dX12_takesBack_99 : decode cX12_takesBack 99 = .ok (.iaload, 1) := by decide +kernel
theorem dX12_takesBack_100 : decode cX12_takesBack 100 = .ok (.iastore, 1) := by decide +kernel
theorem dX12_takesBack_101 : decode cX12_takesBack 101 = .ok (.iinc 2 1, 3) := by decide +kernel
theorem dX12_takesBack_104 : decode cX12_takesBack 104 = .ok (.goto (-102), 3) := by decide +kernel
theorem dX12_takesBack_107 : decode cX12_takesBack 107 = .ok (.aload_n 0, 1) := by decide +kernel
theorem dX12_takesBack_108 : decode cX12_takesBack 108 = .ok (.getfield 7, 3) := by decide +kernel
theorem dX12_takesBack_111 : decode cX12_takesBack 111 = .ok (.iconst 3, 1) := by decide +kernel
theorem dX12_takesBack_112 : decode cX12_takesBack 112 = .ok (.aload_n 0, 1) := by decide +kernel
theorem dX12_takesBack_113 : decode cX12_takesBack 113 = .ok (.getfield 22, 3) := by decide +kernel
theorem dX12_takesBack_116 : decode cX12_takesBack 116 = .ok (.bipush 26, 2) := by decide +kernel
theorem dX12_takesBack_118 : decode cX12_takesBack 118 = .ok (.iload_n 1, 1) := by decide +kernel
theorem dX12_takesBack_119 : decode cX12_takesBack 119 = .ok (.imul, 1) := by decide +kernel
theorem dX12_takesBack_120 : decode cX12_takesBack 120 = .ok (.bipush 24, 2) := by decide +kernel
theorem dX12_takesBack_122 : decode cX12_takesBack 122 = .ok (.iadd, 1) := by decide +kernel
theorem dX12_takesBack_123 : decode cX12_takesBack 123 = .ok (.iaload, 1) := by decide +kernel
theorem dX12_takesBack_124 : decode cX12_takesBack 124 = .ok (.iastore, 1) := by decide +kernel
theorem dX12_takesBack_125 : decode cX12_takesBack 125 = .ok (.aload_n 0, 1) := by decide +kernel
theorem dX12_takesBack_126 : decode cX12_takesBack 126 = .ok (.getfield 7, 3) := by decide +kernel
theorem dX12_takesBack_129 : decode cX12_takesBack 129 = .ok (.iconst 4, 1) := by decide +kernel
theorem dX12_takesBack_130 : decode cX12_takesBack 130 = .ok (.aload_n 0, 1) := by decide +kernel
theorem dX12_takesBack_131 : decode cX12_takesBack 131 = .ok (.getfield 22, 3) := by decide +kernel
theorem dX12_takesBack_134 : decode cX12_takesBack 134 = .ok (.bipush 26, 2) := by decide +kernel
theorem dX12_takesBack_136 : decode cX12_takesBack 136 = .ok (.iload_n 1, 1) := by decide +kernel
theorem dX12_takesBack_137 : decode cX12_takesBack 137 = .ok (.imul, 1) := by decide +kernel
theorem dX12_takesBack_138 : decode cX12_takesBack 138 = .ok (.bipush 25, 2) := by decide +kernel
theorem dX12_takesBack_140 : decode cX12_takesBack 140 = .ok (.iadd, 1) := by decide +kernel
theorem dX12_takesBack_141 : decode cX12_takesBack 141 = .ok (.iaload, 1) := by decide +kernel
theorem dX12_takesBack_142 : decode cX12_takesBack 142 = .ok (.iastore, 1) := by decide +kernel
theorem dX12_takesBack_143 : decode cX12_takesBack 143 = .ok (.return_, 1) := by decide +kernel
theorem dX12_ended_0 : decode cX12_ended 0 = .ok (.iload_n 2, 1) := by decide +kernel
theorem dX12_ended_1 : decode cX12_ended 1 = .ok (.aload_n 0, 1) := by decide +kernel
theorem dX12_ended_2 : decode cX12_ended 2 = .ok (.getfield 198, 3) := by decide +kernel
theorem dX12_ended_5 : decode cX12_ended 5 = .ok (.if_icmp .le 43, 3) := by decide +kernel
theorem dX12_ended_8 : decode cX12_ended 8 = .ok (.aload_n 0, 1) := by decide +kernel
theorem dX12_ended_9 : decode cX12_ended 9 = .ok (.iload_n 2, 1) := by decide +kernel
theorem dX12_ended_10 : decode cX12_ended 10 = .ok (.putfield 198, 3) := by decide +kernel
theorem dX12_ended_13 : decode cX12_ended 13 = .ok (.aload_n 0, 1) := by decide +kernel
theorem dX12_ended_14 : decode cX12_ended 14 = .ok (.iconst 0, 1) := by decide +kernel
theorem dX12_ended_15 : decode cX12_ended 15 = .ok (.putfield 202, 3) := by decide +kernel
theorem dX12_ended_18 : decode cX12_ended 18 = .ok (.aload_n 0, 1) := by decide +kernel
theorem dX12_ended_19 : decode cX12_ended 19 = .ok (.iload_n 1, 1) := by decide +kernel
theorem dX12_ended_20 : decode cX12_ended 20 = .ok (.putfield 205, 3) := by decide +kernel
theorem dX12_ended_23 : decode cX12_ended 23 = .ok (.iconst 0, 1) := by decide +kernel
theorem dX12_ended_24 : decode cX12_ended 24 = .ok (.istore_n 3, 1) := by decide +kernel
theorem dX12_ended_25 : decode cX12_ended 25 = .ok (.iload_n 3, 1) := by decide +kernel
theorem dX12_ended_26 : decode cX12_ended 26 = .ok (.iload_n 1, 1) := by decide +kernel
theorem dX12_ended_27 : decode cX12_ended 27 = .ok (.if_icmp .ge 21, 3) := by decide +kernel
theorem dX12_ended_30 : decode cX12_ended 30 = .ok (.aload_n 0, 1) := by decide +kernel
theorem dX12_ended_31 : decode cX12_ended 31 = .ok (.getfield 28, 3) := by decide +kernel
theorem dX12_ended_34 : decode cX12_ended 34 = .ok (.iload_n 3, 1) := by decide +kernel
theorem dX12_ended_35 : decode cX12_ended 35 = .ok (.aload_n 0, 1) := by decide +kernel
theorem dX12_ended_36 : decode cX12_ended 36 = .ok (.getfield 25, 3) := by decide +kernel
theorem dX12_ended_39 : decode cX12_ended 39 = .ok (.iload_n 3, 1) := by decide +kernel
theorem dX12_ended_40 : decode cX12_ended 40 = .ok (.iaload, 1) := by decide +kernel
theorem dX12_ended_41 : decode cX12_ended 41 = .ok (.iastore, 1) := by decide +kernel
theorem dX12_ended_42 : decode cX12_ended 42 = .ok (.iinc 3 1, 3) := by decide +kernel
theorem dX12_ended_45 : decode cX12_ended 45 = .ok (.goto (-20), 3) := by decide +kernel
theorem dX12_ended_48 : decode cX12_ended 48 = .ok (.aload_n 0, 1) := by decide +kernel
theorem dX12_ended_49 : decode cX12_ended 49 = .ok (.dup, 1) := by decide +kernel
theorem dX12_ended_50 : decode cX12_ended 50 = .ok (.getfield 202, 3) := by decide +kernel
theorem dX12_ended_53 : decode cX12_ended 53 = .ok (.iload_n 2, 1) := by decide +kernel
theorem dX12_ended_54 : decode cX12_ended 54 = .ok (.aload_n 0, 1) := by decide +kernel
theorem dX12_ended_55 : decode cX12_ended 55 = .ok (.getfield 198, 3) := by decide +kernel
theorem dX12_ended_58 : decode cX12_ended 58 = .ok (.if_icmp .ne 7, 3) := by decide +kernel
theorem dX12_ended_61 : decode cX12_ended 61 = .ok (.iconst 1, 1) := by decide +kernel
theorem dX12_ended_62 : decode cX12_ended 62 = .ok (.goto 4, 3) := by decide +kernel
theorem dX12_ended_65 : decode cX12_ended 65 = .ok (.iconst 0, 1) := by decide +kernel
theorem dX12_ended_66 : decode cX12_ended 66 = .ok (.iadd, 1) := by decide +kernel
theorem dX12_ended_67 : decode cX12_ended 67 = .ok (.putfield 202, 3) := by decide +kernel
theorem dX12_ended_70 : decode cX12_ended 70 = .ok (.iconst 0, 1) := by decide +kernel
theorem dX12_ended_71 : decode cX12_ended 71 = .ok (.istore_n 3, 1) := by decide +kernel
theorem dX12_ended_72 : decode cX12_ended 72 = .ok (.iconst 0, 1) := by decide +kernel
theorem dX12_ended_73 : decode cX12_ended 73 = .ok (.istore 4, 2) := by decide +kernel
theorem dX12_ended_75 : decode cX12_ended 75 = .ok (.iload 4, 2) := by decide +kernel
theorem dX12_ended_77 : decode cX12_ended 77 = .ok (.iload_n 1, 1) := by decide +kernel
theorem dX12_ended_78 : decode cX12_ended 78 = .ok (.if_icmp .ge 27, 3) := by decide +kernel
theorem dX12_ended_81 : decode cX12_ended 81 = .ok (.iload_n 3, 1) := by decide +kernel
theorem dX12_ended_82 : decode cX12_ended 82 = .ok (.aload_n 0, 1) := by decide +kernel
theorem dX12_ended_83 : decode cX12_ended 83 = .ok (.getfield 25, 3) := by decide +kernel
theorem dX12_ended_86 : decode cX12_ended 86 = .ok (.iload 4, 2) := by decide +kernel
theorem dX12_ended_88 : decode cX12_ended 88 = .ok (.iaload, 1) := by decide +kernel
theorem dX12_ended_89 : decode cX12_ended 89 = .ok (.ifCond .le 7, 3) := by decide +kernel
theorem dX12_ended_92 : decode cX12_ended 92 = .ok (.iconst 1, 1) := by decide +kernel
theorem dX12_ended_93 : decode cX12_ended 93 = .ok (.goto 4, 3) := by decide +kernel
theorem dX12_ended_96 : decode cX12_ended 96 = .ok (.iconst 0, 1) := by decide +kernel
theorem dX12_ended_97 : decode cX12_ended 97 = .ok (.iadd, 1) := by decide +kernel
theorem dX12_ended_98 : decode cX12_ended 98 = .ok (.istore_n 3, 1) := by decide +kernel
theorem dX12_ended_99 : decode cX12_ended 99 = .ok (.iinc 4 1, 3) := by decide +kernel
theorem dX12_ended_102 : decode cX12_ended 102 = .ok (.goto (-27), 3) := by decide +kernel
theorem dX12_ended_105 : decode cX12_ended 105 = .ok (.aload_n 0, 1) := by decide +kernel
theorem dX12_ended_106 : decode cX12_ended 106 = .ok (.iconst 5, 1) := by decide +kernel
theorem dX12_ended_107 : decode cX12_ended 107 = .ok (.invokevirtual 137, 3) := by decide +kernel
theorem dX12_ended_110 : decode cX12_ended 110 = .ok (.istore 4, 2) := by decide +kernel
theorem dX12_ended_112 : decode cX12_ended 112 = .ok (.aload_n 0, 1) := by decide +kernel
theorem dX12_ended_113 : decode cX12_ended 113 = .ok (.dup, 1) := by decide +kernel
theorem dX12_ended_114 : decode cX12_ended 114 = .ok (.getfield 208, 3) := by decide +kernel
theorem dX12_ended_117 : decode cX12_ended 117 = .ok (.iload 4, 2) := by decide +kernel
theorem dX12_ended_119 : decode cX12_ended 119 = .ok (.ior, 1) := by decide +kernel
theorem dX12_ended_120 : decode cX12_ended 120 = .ok (.putfield 208, 3) := by decide +kernel
theorem dX12_ended_123 : decode cX12_ended 123 = .ok (.aload_n 0, 1) := by decide +kernel
theorem dX12_ended_124 : decode cX12_ended 124 = .ok (.aload_n 0, 1) := by decide +kernel
theorem dX12_ended_125 : decode cX12_ended 125 = .ok (.getfield 211, 3) := by decide +kernel
theorem dX12_ended_128 : decode cX12_ended 128 = .ok (.iload 4, 2) := by decide +kernel
theorem dX12_ended_130 : decode cX12_ended 130 = .ok (.iconst (-1), 1) := by decide +kernel
theorem dX12_ended_131 : decode cX12_ended 131 = .ok (.ixor, 1) := by decide +kernel
theorem dX12_ended_132 : decode cX12_ended 132 = .ok (.iand, 1) := by decide +kernel
theorem dX12_ended_133 : decode cX12_ended 133 = .ok (.ifCond .ne 15, 3) := by decide +kernel
theorem dX12_ended_136 : decode cX12_ended 136 = .ok (.iload_n 3, 1) := by decide +kernel
theorem dX12_ended_137 : decode cX12_ended 137 = .ok (.aload_n 0, 1) := by decide +kernel
theorem dX12_ended_138 : decode cX12_ended 138 = .ok (.getfield 214, 3) := by decide +kernel
theorem dX12_ended_141 : decode cX12_ended 141 = .ok (.if_icmp .ge 7, 3) := by decide +kernel
theorem dX12_ended_144 : decode cX12_ended 144 = .ok (.iload_n 3, 1) := by decide +kernel
theorem dX12_ended_145 : decode cX12_ended 145 = .ok (.goto 7, 3) := by decide +kernel
theorem dX12_ended_148 : decode cX12_ended 148 = .ok (.aload_n 0, 1) := by decide +kernel
theorem dX12_ended_149 : decode cX12_ended 149 = .ok (.getfield 214, 3) := by decide +kernel
theorem dX12_ended_152 : decode cX12_ended 152 = .ok (.putfield 214, 3) := by decide +kernel
theorem dX12_ended_155 : decode cX12_ended 155 = .ok (.return_, 1) := by decide +kernel
theorem dX12_plans_0 : decode cX12_plans 0 = .ok (.iload_n 1, 1) := by decide +kernel
theorem dX12_plans_1 : decode cX12_plans 1 = .ok (.iload_n 2, 1) := by decide +kernel
theorem dX12_plans_2 : decode cX12_plans 2 = .ok (.if_icmp .eq 10, 3) := by decide +kernel
theorem dX12_plans_5 : decode cX12_plans 5 = .ok (.aload_n 0, 1) := by decide +kernel
theorem dX12_plans_6 : decode cX12_plans 6 = .ok (.invokevirtual 133, 3) := by decide +kernel
theorem dX12_plans_9 : decode cX12_plans 9 = .ok (.ifCond .eq 10, 3) := by decide +kernel
theorem dX12_plans_12 : decode cX12_plans 12 = .ok (.aload_n 0, 1) := by decide +kernel
theorem dX12_plans_13 : decode cX12_plans 13 = .ok (.iload_n 1, 1) := by decide +kernel
theorem dX12_plans_14 : decode cX12_plans 14 = .ok (.iload_n 3, 1) := by decide +kernel
theorem dX12_plans_15 : decode cX12_plans 15 = .ok (.invokevirtual 217, 3) := by decide +kernel
theorem dX12_plans_18 : decode cX12_plans 18 = .ok (.return_, 1) := by decide +kernel
theorem dX12_plans_19 : decode cX12_plans 19 = .ok (.iconst 0, 1) := by decide +kernel
theorem dX12_plans_20 : decode cX12_plans 20 = .ok (.istore 4, 2) := by decide +kernel
theorem dX12_plans_22 : decode cX12_plans 22 = .ok (.iload 4, 2) := by decide +kernel
theorem dX12_plans_24 : decode cX12_plans 24 = .ok (.aload_n 0, 1) := by decide +kernel
theorem dX12_plans_25 : decode cX12_plans 25 = .ok (.getfield 7, 3) := by decide +kernel
theorem dX12_plans_28 : decode cX12_plans 28 = .ok (.iconst 0, 1) := by decide +kernel
theorem dX12_plans_29 : decode cX12_plans 29 = .ok (.iaload, 1) := by decide +kernel
theorem dX12_plans_30 : decode cX12_plans 30 = .ok (.if_icmp .gt 43, 3) := by decide +kernel
theorem dX12_plans_33 : decode cX12_plans 33 = .ok (.aload_n 0, 1) := by decide +kernel
theorem dX12_plans_34 : decode cX12_plans 34 = .ok (.iload_n 1, 1) := by decide +kernel
theorem dX12_plans_35 : decode cX12_plans 35 = .ok (.invokevirtual 221, 3) := by decide +kernel
theorem dX12_plans_38 : decode cX12_plans 38 = .ok (.aload_n 0, 1) := by decide +kernel
theorem dX12_plans_39 : decode cX12_plans 39 = .ok (.getfield 25, 3) := by decide +kernel
theorem dX12_plans_42 : decode cX12_plans 42 = .ok (.iload_n 1, 1) := by decide +kernel
theorem dX12_plans_43 : decode cX12_plans 43 = .ok (.iload 4, 2) := by decide +kernel
theorem dX12_plans_45 : decode cX12_plans 45 = .ok (.iastore, 1) := by decide +kernel
theorem dX12_plans_46 : decode cX12_plans 46 = .ok (.aload_n 0, 1) := by decide +kernel
theorem dX12_plans_47 : decode cX12_plans 47 = .ok (.iload_n 1, 1) := by decide +kernel
theorem dX12_plans_48 : decode cX12_plans 48 = .ok (.iconst 1, 1) := by decide +kernel
theorem dX12_plans_49 : decode cX12_plans 49 = .ok (.iadd, 1) := by decide +kernel
theorem dX12_plans_50 : decode cX12_plans 50 = .ok (.iload_n 2, 1) := by decide +kernel
theorem dX12_plans_51 : decode cX12_plans 51 = .ok (.iload_n 3, 1) := by decide +kernel
theorem dX12_plans_52 : decode cX12_plans 52 = .ok (.aload_n 0, 1) := by decide +kernel
theorem dX12_plans_53 : decode cX12_plans 53 = .ok (.iload 4, 2) := by decide +kernel
theorem dX12_plans_55 : decode cX12_plans 55 = .ok (.invokevirtual 171, 3) := by decide +kernel
theorem dX12_plans_58 : decode cX12_plans 58 = .ok (.iadd, 1) := by decide +kernel
theorem dX12_plans_59 : decode cX12_plans 59 = .ok (.invokevirtual 225, 3) := by decide +kernel
theorem dX12_plans_62 : decode cX12_plans 62 = .ok (.aload_n 0, 1) := by decide +kernel
theorem dX12_plans_63 : decode cX12_plans 63 = .ok (.iload_n 1, 1) := by decide +kernel
theorem dX12_plans_64 : decode cX12_plans 64 = .ok (.invokevirtual 229, 3) := by decide +kernel
theorem dX12_plans_67 : decode cX12_plans 67 = .ok (.iinc 4 1, 3) := by decide +kernel
theorem dX12_plans_70 : decode cX12_plans 70 = .ok (.goto (-48), 3) := by decide +kernel
theorem dX12_plans_73 : decode cX12_plans 73 = .ok (.return_, 1) := by decide +kernel
theorem dX12_plansOf_0 : decode cX12_plansOf 0 = .ok (.aload_n 0, 1) := by decide +kernel
theorem dX12_plansOf_1 : decode cX12_plansOf 1 = .ok (.iconst (-1), 1) := by decide +kernel
theorem dX12_plansOf_2 : decode cX12_plansOf 2 = .ok (.putfield 198, 3) := by decide +kernel
theorem dX12_plansOf_5 : decode cX12_plansOf 5 = .ok (.aload_n 0, 1) := by decide +kernel
theorem dX12_plansOf_6 : decode cX12_plansOf 6 = .ok (.iconst 0, 1) := by decide +kernel
theorem dX12_plansOf_7 : decode cX12_plansOf 7 = .ok (.putfield 202, 3) := by decide +kernel
theorem dX12_plansOf_10 : decode cX12_plansOf 10 = .ok (.aload_n 0, 1) := by decide +kernel
theorem dX12_plansOf_11 : decode cX12_plansOf 11 = .ok (.iconst 5, 1) := by decide +kernel
theorem dX12_plansOf_12 : decode cX12_plansOf 12 = .ok (.putfield 214, 3) := by decide +kernel
theorem dX12_plansOf_15 : decode cX12_plansOf 15 = .ok (.aload_n 0, 1) := by decide +kernel
theorem dX12_plansOf_16 : decode cX12_plansOf 16 = .ok (.iconst 0, 1) := by decide +kernel
theorem dX12_plansOf_17 : decode cX12_plansOf 17 = .ok (.putfield 208, 3) := by decide +kernel
theorem dX12_plansOf_20 : decode cX12_plansOf 20 = .ok (.aload_n 0, 1) := by decide +kernel
theorem dX12_plansOf_21 : decode cX12_plansOf 21 = .ok (.iload_n 2, 1) := by decide +kernel
theorem dX12_plansOf_22 : decode cX12_plansOf 22 = .ok (.putfield 211, 3) := by decide +kernel
theorem dX12_plansOf_25 : decode cX12_plansOf 25 = .ok (.aload_n 0, 1) := by decide +kernel
theorem dX12_plansOf_26 : decode cX12_plansOf 26 = .ok (.iconst 0, 1) := by decide +kernel
theorem dX12_plansOf_27 : decode cX12_plansOf 27 = .ok (.iload_n 1, 1) := by decide +kernel
theorem dX12_plansOf_28 : decode cX12_plansOf 28 = .ok (.iconst 0, 1) := by decide +kernel
theorem dX12_plansOf_29 : decode cX12_plansOf 29 = .ok (.invokevirtual 225, 3) := by decide +kernel
theorem dX12_plansOf_32 : decode cX12_plansOf 32 = .ok (.aload_n 0, 1) := by decide +kernel
theorem dX12_plansOf_33 : decode cX12_plansOf 33 = .ok (.getfield 205, 3) := by decide +kernel
theorem dX12_plansOf_36 : decode cX12_plansOf 36 = .ok (.ireturn, 1) := by decide +kernel
theorem dX12_isLong_0 : decode cX12_isLong 0 = .ok (.iload_n 0, 1) := by decide +kernel
theorem dX12_isLong_1 : decode cX12_isLong 1 = .ok (.i2l, 1) := by decide +kernel
theorem dX12_isLong_2 : decode cX12_isLong 2 = .ok (.lconst 0, 1) := by decide +kernel
theorem dX12_isLong_3 : decode cX12_isLong 3 = .ok (.ldc2_w 79, 3) := by decide +kernel
theorem dX12_isLong_6 : decode cX12_isLong 6 = .ok (.invokestatic 58, 3) := by decide +kernel
theorem dX12_isLong_9 : decode cX12_isLong 9 = .ok (.ireturn, 1) := by decide +kernel
theorem dX12_best_0 : decode cX12_best 0 = .ok (.iload_n 1, 1) := by decide +kernel
theorem dX12_best_1 : decode cX12_best 1 = .ok (.invokestatic 232, 3) := by decide +kernel
theorem dX12_best_4 : decode cX12_best 4 = .ok (.ifCond .ne 5, 3) := by decide +kernel
theorem dX12_best_7 : decode cX12_best 7 = .ok (.iconst (-1), 1) := by decide +kernel
theorem dX12_best_8 : decode cX12_best 8 = .ok (.ireturn, 1) := by decide +kernel
theorem dX12_best_9 : decode cX12_best 9 = .ok (.aload_n 0, 1) := by decide +kernel
theorem dX12_best_10 : decode cX12_best 10 = .ok (.iload_n 1, 1) := by decide +kernel
theorem dX12_best_11 : decode cX12_best 11 = .ok (.iconst 0, 1) := by decide +kernel
theorem dX12_best_12 : decode cX12_best 12 = .ok (.invokevirtual 235, 3) := by decide +kernel
theorem dX12_best_15 : decode cX12_best 15 = .ok (.istore_n 2, 1) := by decide +kernel
theorem dX12_best_16 : decode cX12_best 16 = .ok (.aload_n 0, 1) := by decide +kernel
theorem dX12_best_17 : decode cX12_best 17 = .ok (.getfield 198, 3) := by decide +kernel
theorem dX12_best_20 : decode cX12_best 20 = .ok (.ireturn, 1) := by decide +kernel
theorem dX12_ith_0 : decode cX12_ith 0 = .ok (.iload_n 1, 1) := by decide +kernel
theorem dX12_ith_1 : decode cX12_ith 1 = .ok (.invokestatic 232, 3) := by decide +kernel
theorem dX12_ith_4 : decode cX12_ith 4 = .ok (.ifCond .eq 15, 3) := by decide +kernel
theorem dX12_ith_7 : decode cX12_ith 7 = .ok (.iload_n 2, 1) := by decide +kernel
theorem dX12_ith_8 : decode cX12_ith 8 = .ok (.i2l, 1) := by decide +kernel
theorem dX12_ith_9 : decode cX12_ith 9 = .ok (.lconst 0, 1) := by decide +kernel
theorem dX12_ith_10 : decode cX12_ith 10 = .ok (.ldc2_w 238, 3) := by decide +kernel
theorem dX12_ith_13 : decode cX12_ith 13 = .ok (.invokestatic 58, 3) := by decide +kernel
theorem dX12_ith_16 : decode cX12_ith 16 = .ok (.ifCond .ne 5, 3) := by decide +kernel
theorem dX12_ith_19 : decode cX12_ith 19 = .ok (.iconst (-1), 1) := by decide +kernel
theorem dX12_ith_20 : decode cX12_ith 20 = .ok (.ireturn, 1) := by decide +kernel
theorem dX12_ith_21 : decode cX12_ith 21 = .ok (.iload_n 2, 1) := by decide +kernel
theorem dX12_ith_22 : decode cX12_ith 22 = .ok (.aload_n 0, 1) := by decide +kernel
theorem dX12_ith_23 : decode cX12_ith 23 = .ok (.iload_n 1, 1) := by decide +kernel
theorem dX12_ith_24 : decode cX12_ith 24 = .ok (.iconst 0, 1) := by decide +kernel
theorem dX12_ith_25 : decode cX12_ith 25 = .ok (.invokevirtual 235, 3) := by decide +kernel
theorem dX12_ith_28 : decode cX12_ith 28 = .ok (.if_icmp .ge 12, 3) := by decide +kernel
theorem dX12_ith_31 : decode cX12_ith 31 = .ok (.aload_n 0, 1) := by decide +kernel
theorem dX12_ith_32 : decode cX12_ith 32 = .ok (.getfield 28, 3) := by decide +kernel
theorem dX12_ith_35 : decode cX12_ith 35 = .ok (.iload_n 2, 1) := by decide +kernel
theorem dX12_ith_36 : decode cX12_ith 36 = .ok (.iaload, 1) := by decide +kernel
theorem dX12_ith_37 : decode cX12_ith 37 = .ok (.goto 5, 3) := by decide +kernel
theorem dX12_ith_40 : decode cX12_ith 40 = .ok (.bipush (-3), 2) := by decide +kernel
theorem dX12_ith_42 : decode cX12_ith 42 = .ok (.ireturn, 1) := by decide +kernel
theorem dX12_ways_0 : decode cX12_ways 0 = .ok (.iload_n 1, 1) := by decide +kernel
theorem dX12_ways_1 : decode cX12_ways 1 = .ok (.invokestatic 232, 3) := by decide +kernel
theorem dX12_ways_4 : decode cX12_ways 4 = .ok (.ifCond .ne 5, 3) := by decide +kernel
theorem dX12_ways_7 : decode cX12_ways 7 = .ok (.iconst (-1), 1) := by decide +kernel
theorem dX12_ways_8 : decode cX12_ways 8 = .ok (.ireturn, 1) := by decide +kernel
theorem dX12_ways_9 : decode cX12_ways 9 = .ok (.aload_n 0, 1) := by decide +kernel
theorem dX12_ways_10 : decode cX12_ways 10 = .ok (.iload_n 1, 1) := by decide +kernel
theorem dX12_ways_11 : decode cX12_ways 11 = .ok (.iconst 0, 1) := by decide +kernel
theorem dX12_ways_12 : decode cX12_ways 12 = .ok (.invokevirtual 235, 3) := by decide +kernel
theorem dX12_ways_15 : decode cX12_ways 15 = .ok (.istore_n 2, 1) := by decide +kernel
theorem dX12_ways_16 : decode cX12_ways 16 = .ok (.aload_n 0, 1) := by decide +kernel
theorem dX12_ways_17 : decode cX12_ways 17 = .ok (.getfield 202, 3) := by decide +kernel
theorem dX12_ways_20 : decode cX12_ways 20 = .ok (.ireturn, 1) := by decide +kernel
theorem dX12_writ_0 : decode cX12_writ 0 = .ok (.iload_n 1, 1) := by decide +kernel
theorem dX12_writ_1 : decode cX12_writ 1 = .ok (.invokestatic 232, 3) := by decide +kernel
theorem dX12_writ_4 : decode cX12_writ 4 = .ok (.ifCond .eq 11, 3) := by decide +kernel
theorem dX12_writ_7 : decode cX12_writ 7 = .ok (.aload_n 0, 1) := by decide +kernel
theorem dX12_writ_8 : decode cX12_writ 8 = .ok (.iload_n 2, 1) := by decide +kernel
theorem dX12_writ_9 : decode cX12_writ 9 = .ok (.invokevirtual 240, 3) := by decide +kernel
theorem dX12_writ_12 : decode cX12_writ 12 = .ok (.ifCond .ne 5, 3) := by decide +kernel
theorem dX12_writ_15 : decode cX12_writ 15 = .ok (.iconst (-1), 1) := by decide +kernel
theorem dX12_writ_16 : decode cX12_writ 16 = .ok (.ireturn, 1) := by decide +kernel
theorem dX12_writ_17 : decode cX12_writ 17 = .ok (.aload_n 0, 1) := by decide +kernel
theorem dX12_writ_18 : decode cX12_writ 18 = .ok (.iload_n 1, 1) := by decide +kernel
theorem dX12_writ_19 : decode cX12_writ 19 = .ok (.iload_n 2, 1) := by decide +kernel
theorem dX12_writ_20 : decode cX12_writ 20 = .ok (.invokevirtual 235, 3) := by decide +kernel
theorem dX12_writ_23 : decode cX12_writ 23 = .ok (.istore_n 3, 1) := by decide +kernel
theorem dX12_writ_24 : decode cX12_writ 24 = .ok (.aload_n 0, 1) := by decide +kernel
theorem dX12_writ_25 : decode cX12_writ 25 = .ok (.getfield 214, 3) := by decide +kernel
theorem dX12_writ_28 : decode cX12_writ 28 = .ok (.iconst 4, 1) := by decide +kernel
theorem dX12_writ_29 : decode cX12_writ 29 = .ok (.if_icmp .le 8, 3) := by decide +kernel
theorem dX12_writ_32 : decode cX12_writ 32 = .ok (.bipush (-3), 2) := by decide +kernel
theorem dX12_writ_34 : decode cX12_writ 34 = .ok (.goto 7, 3) := by decide +kernel
theorem dX12_writ_37 : decode cX12_writ 37 = .ok (.aload_n 0, 1) := by decide +kernel
theorem dX12_writ_38 : decode cX12_writ 38 = .ok (.getfield 214, 3) := by decide +kernel
theorem dX12_writ_41 : decode cX12_writ 41 = .ok (.ireturn, 1) := by decide +kernel
theorem dX12_bars_0 : decode cX12_bars 0 = .ok (.iload_n 1, 1) := by decide +kernel
theorem dX12_bars_1 : decode cX12_bars 1 = .ok (.invokestatic 232, 3) := by decide +kernel
theorem dX12_bars_4 : decode cX12_bars 4 = .ok (.ifCond .eq 11, 3) := by decide +kernel
theorem dX12_bars_7 : decode cX12_bars 7 = .ok (.aload_n 0, 1) := by decide +kernel
theorem dX12_bars_8 : decode cX12_bars 8 = .ok (.iload_n 2, 1) := by decide +kernel
theorem dX12_bars_9 : decode cX12_bars 9 = .ok (.invokevirtual 240, 3) := by decide +kernel
theorem dX12_bars_12 : decode cX12_bars 12 = .ok (.ifCond .ne 5, 3) := by decide +kernel
theorem dX12_bars_15 : decode cX12_bars 15 = .ok (.iconst (-1), 1) := by decide +kernel
theorem dX12_bars_16 : decode cX12_bars 16 = .ok (.ireturn, 1) := by decide +kernel
theorem dX12_bars_17 : decode cX12_bars 17 = .ok (.aload_n 0, 1) := by decide +kernel
theorem dX12_bars_18 : decode cX12_bars 18 = .ok (.iload_n 1, 1) := by decide +kernel
theorem dX12_bars_19 : decode cX12_bars 19 = .ok (.iload_n 2, 1) := by decide +kernel
theorem dX12_bars_20 : decode cX12_bars 20 = .ok (.invokevirtual 235, 3) := by decide +kernel
theorem dX12_bars_23 : decode cX12_bars 23 = .ok (.istore_n 3, 1) := by decide +kernel
theorem dX12_bars_24 : decode cX12_bars 24 = .ok (.iconst 0, 1) := by decide +kernel
theorem dX12_bars_25 : decode cX12_bars 25 = .ok (.istore 4, 2) := by decide +kernel
theorem dX12_bars_27 : decode cX12_bars 27 = .ok (.iload 4, 2) := by decide +kernel
theorem dX12_bars_29 : decode cX12_bars 29 = .ok (.aload_n 0, 1) := by decide +kernel
theorem dX12_bars_30 : decode cX12_bars 30 = .ok (.getfield 7, 3) := by decide +kernel
theorem dX12_bars_33 : decode cX12_bars 33 = .ok (.iconst 0, 1) := by decide +kernel
theorem dX12_bars_34 : decode cX12_bars 34 = .ok (.iaload, 1) := by decide +kernel
theorem dX12_bars_35 : decode cX12_bars 35 = .ok (.if_icmp .ge 29, 3) := by decide +kernel
theorem dX12_bars_38 : decode cX12_bars 38 = .ok (.iload_n 2, 1) := by decide +kernel
theorem dX12_bars_39 : decode cX12_bars 39 = .ok (.aload_n 0, 1) := by decide +kernel
theorem dX12_bars_40 : decode cX12_bars 40 = .ok (.getfield 208, 3) := by decide +kernel
theorem dX12_bars_43 : decode cX12_bars 43 = .ok (.iconst (-1), 1) := by decide +kernel
theorem dX12_bars_44 : decode cX12_bars 44 = .ok (.ixor, 1) := by decide +kernel
theorem dX12_bars_45 : decode cX12_bars 45 = .ok (.iand, 1) := by decide +kernel
theorem dX12_bars_46 : decode cX12_bars 46 = .ok (.iload 4, 2) := by decide +kernel
theorem dX12_bars_48 : decode cX12_bars 48 = .ok (.ishr, 1) := by decide +kernel
theorem dX12_bars_49 : decode cX12_bars 49 = .ok (.iconst 1, 1) := by decide +kernel
theorem dX12_bars_50 : decode cX12_bars 50 = .ok (.iand, 1) := by decide +kernel
theorem dX12_bars_51 : decode cX12_bars 51 = .ok (.iconst 1, 1) := by decide +kernel
theorem dX12_bars_52 : decode cX12_bars 52 = .ok (.if_icmp .ne 6, 3) := by decide +kernel
theorem dX12_bars_55 : decode cX12_bars 55 = .ok (.iload 4, 2) := by decide +kernel
theorem dX12_bars_57 : decode cX12_bars 57 = .ok (.ireturn, 1) := by decide +kernel
theorem dX12_bars_58 : decode cX12_bars 58 = .ok (.iinc 4 1, 3) := by decide +kernel
theorem dX12_bars_61 : decode cX12_bars 61 = .ok (.goto (-34), 3) := by decide +kernel
theorem dX12_bars_64 : decode cX12_bars 64 = .ok (.bipush (-3), 2) := by decide +kernel
theorem dX12_bars_66 : decode cX12_bars 66 = .ok (.ireturn, 1) := by decide +kernel
theorem dX12_played_0 : decode cX12_played 0 = .ok (.iload_n 1, 1) := by decide +kernel
theorem dX12_played_1 : decode cX12_played 1 = .ok (.iload_n 2, 1) := by decide +kernel
theorem dX12_played_2 : decode cX12_played 2 = .ok (.if_icmp .eq 10, 3) := by decide +kernel
theorem dX12_played_5 : decode cX12_played 5 = .ok (.aload_n 0, 1) := by decide +kernel
theorem dX12_played_6 : decode cX12_played 6 = .ok (.invokevirtual 133, 3) := by decide +kernel
theorem dX12_played_9 : decode cX12_played 9 = .ok (.ifCond .eq 5, 3) := by decide +kernel
theorem dX12_played_12 : decode cX12_played 12 = .ok (.iconst 0, 1) := by decide +kernel
theorem dX12_played_13 : decode cX12_played 13 = .ok (.ireturn, 1) := by decide +kernel
theorem dX12_played_14 : decode cX12_played 14 = .ok (.iconst 0, 1) := by decide +kernel
theorem dX12_played_15 : decode cX12_played 15 = .ok (.istore 4, 2) := by decide +kernel
theorem dX12_played_17 : decode cX12_played 17 = .ok (.iconst (-1), 1) := by decide +kernel
theorem dX12_played_18 : decode cX12_played 18 = .ok (.istore 5, 2) := by decide +kernel
theorem dX12_played_20 : decode cX12_played 20 = .ok (.iconst 0, 1) := by decide +kernel
theorem dX12_played_21 : decode cX12_played 21 = .ok (.istore 6, 2) := by decide +kernel
theorem dX12_played_23 : decode cX12_played 23 = .ok (.iload 6, 2) := by decide +kernel
theorem dX12_played_25 : decode cX12_played 25 = .ok (.aload_n 0, 1) := by decide +kernel
theorem dX12_played_26 : decode cX12_played 26 = .ok (.getfield 7, 3) := by decide +kernel
theorem dX12_played_29 : decode cX12_played 29 = .ok (.iconst 0, 1) := by decide +kernel
theorem dX12_played_30 : decode cX12_played 30 = .ok (.iaload, 1) := by decide +kernel
theorem dX12_played_31 : decode cX12_played 31 = .ok (.if_icmp .gt 110, 3) := by decide +kernel
theorem dX12_played_34 : decode cX12_played 34 = .ok (.aload_n 0, 1) := by decide +kernel
theorem dX12_played_35 : decode cX12_played 35 = .ok (.iload_n 1, 1) := by decide +kernel
theorem dX12_played_36 : decode cX12_played 36 = .ok (.invokevirtual 221, 3) := by decide +kernel
theorem dX12_played_39 : decode cX12_played 39 = .ok (.aload_n 0, 1) := by decide +kernel
theorem dX12_played_40 : decode cX12_played 40 = .ok (.iload 6, 2) := by decide +kernel
theorem dX12_played_42 : decode cX12_played 42 = .ok (.invokevirtual 171, 3) := by decide +kernel
theorem dX12_played_45 : decode cX12_played 45 = .ok (.istore 7, 2) := by decide +kernel
theorem dX12_played_47 : decode cX12_played 47 = .ok (.iload 7, 2) := by decide +kernel
theorem dX12_played_49 : decode cX12_played 49 = .ok (.aload_n 0, 1) := by decide +kernel
theorem dX12_played_50 : decode cX12_played 50 = .ok (.iload_n 1, 1) := by decide +kernel
theorem dX12_played_51 : decode cX12_played 51 = .ok (.iconst 1, 1) := by decide +kernel
theorem dX12_played_52 : decode cX12_played 52 = .ok (.iadd, 1) := by decide +kernel
theorem dX12_played_53 : decode cX12_played 53 = .ok (.iload_n 2, 1) := by decide +kernel
theorem dX12_played_54 : decode cX12_played 54 = .ok (.iload_n 3, 1) := by decide +kernel
theorem dX12_played_55 : decode cX12_played 55 = .ok (.ifCond .ne 7, 3) := by decide +kernel
theorem dX12_played_58 : decode cX12_played 58 = .ok (.iconst 1, 1) := by decide +kernel
theorem dX12_played_59 : decode cX12_played 59 = .ok (.goto 4, 3) := by decide +kernel
theorem dX12_played_62 : decode cX12_played 62 = .ok (.iconst 0, 1) := by decide +kernel
theorem dX12_played_63 : decode cX12_played 63 = .ok (.invokevirtual 243, 3) := by decide +kernel
theorem dX12_played_66 : decode cX12_played 66 = .ok (.iadd, 1) := by decide +kernel
theorem dX12_played_67 : decode cX12_played 67 = .ok (.istore 7, 2) := by decide +kernel
theorem dX12_played_69 : decode cX12_played 69 = .ok (.aload_n 0, 1) := by decide +kernel
theorem dX12_played_70 : decode cX12_played 70 = .ok (.iload_n 1, 1) := by decide +kernel
theorem dX12_played_71 : decode cX12_played 71 = .ok (.invokevirtual 229, 3) := by decide +kernel
theorem dX12_played_74 : decode cX12_played 74 = .ok (.iload 5, 2) := by decide +kernel
theorem dX12_played_76 : decode cX12_played 76 = .ok (.ifCond .lt 24, 3) := by decide +kernel
theorem dX12_played_79 : decode cX12_played 79 = .ok (.iload_n 3, 1) := by decide +kernel
theorem dX12_played_80 : decode cX12_played 80 = .ok (.ifCond .eq 13, 3) := by decide +kernel
theorem dX12_played_83 : decode cX12_played 83 = .ok (.iload 7, 2) := by decide +kernel
theorem dX12_played_85 : decode cX12_played 85 = .ok (.iload 4, 2) := by decide +kernel
theorem dX12_played_87 : decode cX12_played 87 = .ok (.if_icmp .le 17, 3) := by decide +kernel
theorem dX12_played_90 : decode cX12_played 90 = .ok (.goto 10, 3) := by decide +kernel
theorem dX12_played_93 : decode cX12_played 93 = .ok (.iload 7, 2) := by decide +kernel
theorem dX12_played_95 : decode cX12_played 95 = .ok (.iload 4, 2) := by decide +kernel
theorem dX12_played_97 : decode cX12_played 97 = .ok (.if_icmp .ge 7, 3) := by decide +kernel
theorem dX12_played_100 : decode cX12_played 100 = .ok (.iconst 1, 1) := by decide +kernel
theorem dX12_played_101 : decode cX12_played 101 = .ok (.goto 4, 3) := by decide +kernel
theorem dX12_played_104 : decode cX12_played 104 = .ok (.iconst 0, 1) := by decide +kernel
theorem dX12_played_105 : decode cX12_played 105 = .ok (.istore 8, 2) := by decide +kernel
theorem dX12_played_107 : decode cX12_played 107 = .ok (.iload 8, 2) := by decide +kernel
theorem dX12_played_109 : decode cX12_played 109 = .ok (.ifCond .eq 8, 3) := by decide +kernel
theorem dX12_played_112 : decode cX12_played 112 = .ok (.iload 7, 2) := by decide +kernel
theorem dX12_played_114 : decode cX12_played 114 = .ok (.goto 5, 3) := by decide +kernel
theorem dX12_played_117 : decode cX12_played 117 = .ok (.iload 4, 2) := by decide +kernel
theorem dX12_played_119 : decode cX12_played 119 = .ok (.istore 4, 2) := by decide +kernel
theorem dX12_played_121 : decode cX12_played 121 = .ok (.iload 8, 2) := by decide +kernel
theorem dX12_played_123 : decode cX12_played 123 = .ok (.ifCond .eq 8, 3) := by decide +kernel
theorem dX12_played_126 : decode cX12_played 126 = .ok (.iload 6, 2) := by decide +kernel
theorem dX12_played_128 : decode cX12_played 128 = .ok (.goto 5, 3) := by decide +kernel
theorem dX12_played_131 : decode cX12_played 131 = .ok (.iload 5, 2) := by decide +kernel
theorem dX12_played_133 : decode cX12_played 133 = .ok (.istore 5, 2) := by decide +kernel
theorem dX12_played_135 : decode cX12_played 135 = .ok (.iinc 6 1, 3) := by decide +kernel
theorem dX12_played_138 : decode cX12_played 138 = .ok (.goto (-115), 3) := by decide +kernel
theorem dX12_played_141 : decode cX12_played 141 = .ok (.aload_n 0, 1) := by decide +kernel
theorem dX12_played_142 : decode cX12_played 142 = .ok (.iload 5, 2) := by decide +kernel
theorem dX12_played_144 : decode cX12_played 144 = .ok (.putfield 247, 3) := by decide +kernel
theorem dX12_played_147 : decode cX12_played 147 = .ok (.iload 4, 2) := by decide +kernel
theorem dX12_played_149 : decode cX12_played 149 = .ok (.ireturn, 1) := by decide +kernel
