theorem dX0_init_0 : decode cX0_init 0 = .ok (.aload_n 0, 1) := by decide +kernel
theorem dX0_init_1 : decode cX0_init 1 = .ok (.aload_n 1, 1) := by decide +kernel
theorem dX0_init_2 : decode cX0_init 2 = .ok (.invokespecial 1, 3) := by decide +kernel
theorem dX0_init_5 : decode cX0_init 5 = .ok (.return_, 1) := by decide +kernel
theorem dX0_drifts_0 : decode cX0_drifts 0 = .ok (.iconst 1, 1) := by decide +kernel
theorem dX0_drifts_1 : decode cX0_drifts 1 = .ok (.aload_n 0, 1) := by decide +kernel
theorem dX0_drifts_2 : decode cX0_drifts 2 = .ok (.iload_n 1, 1) := by decide +kernel
theorem dX0_drifts_3 : decode cX0_drifts 3 = .ok (.iload_n 2, 1) := by decide +kernel
theorem dX0_drifts_4 : decode cX0_drifts 4 = .ok (.invokespecial 7, 3) := by decide +kernel
theorem dX0_drifts_7 : decode cX0_drifts 7 = .ok (.invokestatic 11, 3) := by decide +kernel
theorem dX0_drifts_10 : decode cX0_drifts 10 = .ok (.ireturn, 1) := by decide +kernel
theorem dX0_fee_0 : decode cX0_fee 0 = .ok (.aload_n 0, 1) := by decide +kernel
theorem dX0_fee_1 : decode cX0_fee 1 = .ok (.iload_n 1, 1) := by decide +kernel
theorem dX0_fee_2 : decode cX0_fee 2 = .ok (.invokespecial 16, 3) := by decide +kernel
theorem dX0_fee_5 : decode cX0_fee 5 = .ok (.iconst 1, 1) := by decide +kernel
theorem dX0_fee_6 : decode cX0_fee 6 = .ok (.isub, 1) := by decide +kernel
theorem dX0_fee_7 : decode cX0_fee 7 = .ok (.ireturn, 1) := by decide +kernel
theorem dX0_parts_0 : decode cX0_parts 0 = .ok (.aload_n 0, 1) := by decide +kernel
theorem dX0_parts_1 : decode cX0_parts 1 = .ok (.bipush 40, 2) := by decide +kernel
theorem dX0_parts_3 : decode cX0_parts 3 = .ok (.invokevirtual 20, 3) := by decide +kernel
theorem dX0_parts_6 : decode cX0_parts 6 = .ok (.iconst 0, 1) := by decide +kernel
theorem dX0_parts_7 : decode cX0_parts 7 = .ok (.aload_n 0, 1) := by decide +kernel
theorem dX0_parts_8 : decode cX0_parts 8 = .ok (.iload_n 1, 1) := by decide +kernel
theorem dX0_parts_9 : decode cX0_parts 9 = .ok (.invokespecial 26, 3) := by decide +kernel
theorem dX0_parts_12 : decode cX0_parts 12 = .ok (.isub, 1) := by decide +kernel
theorem dX0_parts_13 : decode cX0_parts 13 = .ok (.ireturn, 1) := by decide +kernel
theorem dX1_init_0 : decode cX1_init 0 = .ok (.aload_n 0, 1) := by decide +kernel
theorem dX1_init_1 : decode cX1_init 1 = .ok (.invokespecial 3, 3) := by decide +kernel
theorem dX1_init_4 : decode cX1_init 4 = .ok (.aload_n 0, 1) := by decide +kernel
theorem dX1_init_5 : decode cX1_init 5 = .ok (.iconst 0, 1) := by decide +kernel
theorem dX1_init_6 : decode cX1_init 6 = .ok (.putfield 9, 3) := by decide +kernel
theorem dX1_init_9 : decode cX1_init 9 = .ok (.aload_n 0, 1) := by decide +kernel
theorem dX1_init_10 : decode cX1_init 10 = .ok (.bipush 12, 2) := by decide +kernel
theorem dX1_init_12 : decode cX1_init 12 = .ok (.putfield 15, 3) := by decide +kernel
theorem dX1_init_15 : decode cX1_init 15 = .ok (.aload_n 0, 1) := by decide +kernel
theorem dX1_init_16 : decode cX1_init 16 = .ok (.iconst 1, 1) := by decide +kernel
theorem dX1_init_17 : decode cX1_init 17 = .ok (.putfield 18, 3) := by decide +kernel
theorem dX1_init_20 : decode cX1_init 20 = .ok (.aload_n 0, 1) := by decide +kernel
theorem dX1_init_21 : decode cX1_init 21 = .ok (.iconst 0, 1) := by decide +kernel
theorem dX1_init_22 : decode cX1_init 22 = .ok (.putfield 21, 3) := by decide +kernel
theorem dX1_init_25 : decode cX1_init 25 = .ok (.aload_n 0, 1) := by decide +kernel
theorem dX1_init_26 : decode cX1_init 26 = .ok (.bipush 6, 2) := by decide +kernel
theorem dX1_init_28 : decode cX1_init 28 = .ok (.newarray .int, 2) := by decide +kernel
theorem dX1_init_30 : decode cX1_init 30 = .ok (.putfield 24, 3) := by decide +kernel
theorem dX1_init_33 : decode cX1_init 33 = .ok (.aload_n 0, 1) := by decide +kernel
theorem dX1_init_34 : decode cX1_init 34 = .ok (.bipush 6, 2) := by decide +kernel
theorem dX1_init_36 : decode cX1_init 36 = .ok (.newarray .int, 2) := by decide +kernel
theorem dX1_init_38 : decode cX1_init 38 = .ok (.putfield 28, 3) := by decide +kernel
theorem dX1_init_41 : decode cX1_init 41 = .ok (.aload_n 0, 1) := by decide +kernel
theorem dX1_init_42 : decode cX1_init 42 = .ok (.bipush 16, 2) := by decide +kernel
theorem dX1_init_44 : decode cX1_init 44 = .ok (.newarray .int, 2) := by decide +kernel
theorem dX1_init_46 : decode cX1_init 46 = .ok (.putfield 31, 3) := by decide +kernel
theorem dX1_init_49 : decode cX1_init 49 = .ok (.aload_n 0, 1) := by decide +kernel
theorem dX1_init_50 : decode cX1_init 50 = .ok (.bipush 6, 2) := by decide +kernel
theorem dX1_init_52 : decode cX1_init 52 = .ok (.newarray .int, 2) := by decide +kernel
theorem dX1_init_54 : decode cX1_init 54 = .ok (.putfield 34, 3) := by decide +kernel
theorem dX1_init_57 : decode cX1_init 57 = .ok (.aload_n 0, 1) := by decide +kernel
theorem dX1_init_58 : decode cX1_init 58 = .ok (.bipush 6, 2) := by decide +kernel
theorem dX1_init_60 : decode cX1_init 60 = .ok (.newarray .int, 2) := by decide +kernel
theorem dX1_init_62 : decode cX1_init 62 = .ok (.putfield 37, 3) := by decide +kernel
theorem dX1_init_65 : decode cX1_init 65 = .ok (.aload_n 0, 1) := by decide +kernel
theorem dX1_init_66 : decode cX1_init 66 = .ok (.bipush 6, 2) := by decide +kernel
theorem dX1_init_68 : decode cX1_init 68 = .ok (.newarray .int, 2) := by decide +kernel
theorem dX1_init_70 : decode cX1_init 70 = .ok (.putfield 40, 3) := by decide +kernel
theorem dX1_init_73 : decode cX1_init 73 = .ok (.aload_n 0, 1) := by decide +kernel
theorem dX1_init_74 : decode cX1_init 74 = .ok (.bipush 6, 2) := by decide +kernel
theorem dX1_init_76 : decode cX1_init 76 = .ok (.newarray .int, 2) := by decide +kernel
theorem dX1_init_78 : decode cX1_init 78 = .ok (.putfield 43, 3) := by decide +kernel
theorem dX1_init_81 : decode cX1_init 81 = .ok (.aload_n 0, 1) := by decide +kernel
theorem dX1_init_82 : decode cX1_init 82 = .ok (.bipush 6, 2) := by decide +kernel
theorem dX1_init_84 : decode cX1_init 84 = .ok (.newarray .int, 2) := by decide +kernel
theorem dX1_init_86 : decode cX1_init 86 = .ok (.putfield 46, 3) := by decide +kernel
theorem dX1_init_89 : decode cX1_init 89 = .ok (.aload_n 0, 1) := by decide +kernel
theorem dX1_init_90 : decode cX1_init 90 = .ok (.bipush 6, 2) := by decide +kernel
theorem dX1_init_92 : decode cX1_init 92 = .ok (.newarray .int, 2) := by decide +kernel
theorem dX1_init_94 : decode cX1_init 94 = .ok (.putfield 49, 3) := by decide +kernel
theorem dX1_init_97 : decode cX1_init 97 = .ok (.aload_n 0, 1) := by decide +kernel
theorem dX1_init_98 : decode cX1_init 98 = .ok (.new 52, 3) := by decide +kernel
theorem dX1_init_101 : decode cX1_init 101 = .ok (.dup, 1) := by decide +kernel
theorem dX1_init_102 : decode cX1_init 102 = .ok (.invokespecial 54, 3) := by decide +kernel
theorem dX1_init_105 : decode cX1_init 105 = .ok (.putfield 55, 3) := by decide +kernel
theorem dX1_init_108 : decode cX1_init 108 = .ok (.aload_n 0, 1) := by decide +kernel
theorem dX1_init_109 : decode cX1_init 109 = .ok (.new 59, 3) := by decide +kernel
theorem dX1_init_112 : decode cX1_init 112 = .ok (.dup, 1) := by decide +kernel
theorem dX1_init_113 : decode cX1_init 113 = .ok (.invokespecial 61, 3) := by decide +kernel
theorem dX1_init_116 : decode cX1_init 116 = .ok (.putfield 62, 3) := by decide +kernel
theorem dX1_init_119 : decode cX1_init 119 = .ok (.aload_n 0, 1) := by decide +kernel
theorem dX1_init_120 : decode cX1_init 120 = .ok (.aload_n 1, 1) := by decide +kernel
theorem dX1_init_121 : decode cX1_init 121 = .ok (.putfield 66, 3) := by decide +kernel
theorem dX1_init_124 : decode cX1_init 124 = .ok (.aload_n 0, 1) := by decide +kernel
theorem dX1_init_125 : decode cX1_init 125 = .ok (.getfield 31, 3) := by decide +kernel
theorem dX1_init_128 : decode cX1_init 128 = .ok (.iconst 4, 1) := by decide +kernel
theorem dX1_init_129 : decode cX1_init 129 = .ok (.invokestatic 70, 3) := by decide +kernel
theorem dX1_init_132 : decode cX1_init 132 = .ok (.aload_n 0, 1) := by decide +kernel
theorem dX1_init_133 : decode cX1_init 133 = .ok (.getfield 37, 3) := by decide +kernel
theorem dX1_init_136 : decode cX1_init 136 = .ok (.iconst 3, 1) := by decide +kernel
theorem dX1_init_137 : decode cX1_init 137 = .ok (.invokestatic 70, 3) := by decide +kernel
theorem dX1_init_140 : decode cX1_init 140 = .ok (.return_, 1) := by decide +kernel
theorem dX1_copy_0 : decode cX1_copy 0 = .ok (.aload_n 0, 1) := by decide +kernel
theorem dX1_copy_1 : decode cX1_copy 1 = .ok (.aload_n 1, 1) := by decide +kernel
theorem dX1_copy_2 : decode cX1_copy 2 = .ok (.getfield 9, 3) := by decide +kernel
theorem dX1_copy_5 : decode cX1_copy 5 = .ok (.putfield 9, 3) := by decide +kernel
theorem dX1_copy_8 : decode cX1_copy 8 = .ok (.aload_n 0, 1) := by decide +kernel
theorem dX1_copy_9 : decode cX1_copy 9 = .ok (.aload_n 1, 1) := by decide +kernel
theorem dX1_copy_10 : decode cX1_copy 10 = .ok (.getfield 15, 3) := by decide +kernel
theorem dX1_copy_13 : decode cX1_copy 13 = .ok (.putfield 15, 3) := by decide +kernel
theorem dX1_copy_16 : decode cX1_copy 16 = .ok (.aload_n 0, 1) := by decide +kernel
theorem dX1_copy_17 : decode cX1_copy 17 = .ok (.aload_n 1, 1) := by decide +kernel
theorem dX1_copy_18 : decode cX1_copy 18 = .ok (.getfield 18, 3) := by decide +kernel
theorem dX1_copy_21 : decode cX1_copy 21 = .ok (.putfield 18, 3) := by decide +kernel
theorem dX1_copy_24 : decode cX1_copy 24 = .ok (.aload_n 0, 1) := by decide +kernel
theorem dX1_copy_25 : decode cX1_copy 25 = .ok (.aload_n 1, 1) := by decide +kernel
theorem dX1_copy_26 : decode cX1_copy 26 = .ok (.getfield 21, 3) := by decide +kernel
theorem dX1_copy_29 : decode cX1_copy 29 = .ok (.putfield 21, 3) := by decide +kernel
theorem dX1_copy_32 : decode cX1_copy 32 = .ok (.aload_n 1, 1) := by decide +kernel
theorem dX1_copy_33 : decode cX1_copy 33 = .ok (.getfield 24, 3) := by decide +kernel
theorem dX1_copy_36 : decode cX1_copy 36 = .ok (.iconst 0, 1) := by decide +kernel
theorem dX1_copy_37 : decode cX1_copy 37 = .ok (.aload_n 0, 1) := by decide +kernel
theorem dX1_copy_38 : decode cX1_copy 38 = .ok (.getfield 24, 3) := by decide +kernel
theorem dX1_copy_41 : decode cX1_copy 41 = .ok (.iconst 0, 1) := by decide +kernel
theorem dX1_copy_42 : decode cX1_copy 42 = .ok (.bipush 6, 2) := by decide +kernel
theorem dX1_copy_44 : decode cX1_copy 44 = .ok (.invokestatic 76, 3) := by decide +kernel
theorem dX1_copy_47 : decode cX1_copy 47 = .ok (.aload_n 1, 1) := by decide +kernel
theorem dX1_copy_48 : decode cX1_copy 48 = .ok (.getfield 28, 3) := by decide +kernel
theorem dX1_copy_51 : decode cX1_copy 51 = .ok (.iconst 0, 1) := by decide +kernel
theorem dX1_copy_52 : decode cX1_copy 52 = .ok (.aload_n 0, 1) := by decide +kernel
theorem dX1_copy_53 : decode cX1_copy 53 = .ok (.getfield 28, 3) := by decide +kernel
theorem dX1_copy_56 : decode cX1_copy 56 = .ok (.iconst 0, 1) := by decide +kernel
theorem dX1_copy_57 : decode cX1_copy 57 = .ok (.bipush 6, 2) := by decide +kernel
theorem dX1_copy_59 : decode cX1_copy 59 = .ok (.invokestatic 76, 3) := by decide +kernel
theorem dX1_copy_62 : decode cX1_copy 62 = .ok (.aload_n 1, 1) := by decide +kernel
theorem dX1_copy_63 : decode cX1_copy 63 = .ok (.getfield 31, 3) := by decide +kernel
theorem dX1_copy_66 : decode cX1_copy 66 = .ok (.iconst 0, 1) := by decide +kernel
theorem dX1_copy_67 : decode cX1_copy 67 = .ok (.aload_n 0, 1) := by decide +kernel
theorem dX1_copy_68 : decode cX1_copy 68 = .ok (.getfield 31, 3) := by decide +kernel
theorem dX1_copy_71 : decode cX1_copy 71 = .ok (.iconst 0, 1) := by decide +kernel
theorem dX1_copy_72 : decode cX1_copy 72 = .ok (.bipush 16, 2) := by decide +kernel
theorem dX1_copy_74 : decode cX1_copy 74 = .ok (.invokestatic 76, 3) := by decide +kernel
theorem dX1_copy_77 : decode cX1_copy 77 = .ok (.aload_n 1, 1) := by decide +kernel
theorem dX1_copy_78 : decode cX1_copy 78 = .ok (.getfield 34, 3) := by decide +kernel
theorem dX1_copy_81 : decode cX1_copy 81 = .ok (.iconst 0, 1) := by decide +kernel
theorem dX1_copy_82 : decode cX1_copy 82 = .ok (.aload_n 0, 1) := by decide +kernel
theorem dX1_copy_83 : decode cX1_copy 83 = .ok (.getfield 34, 3) := by decide +kernel
theorem dX1_copy_86 : decode cX1_copy 86 = .ok (.iconst 0, 1) := by decide +kernel
theorem dX1_copy_87 : decode cX1_copy 87 = .ok (.bipush 6, 2) := by decide +kernel
theorem dX1_copy_89 : decode cX1_copy 89 = .ok (.invokestatic 76, 3) := by decide +kernel
theorem dX1_copy_92 : decode cX1_copy 92 = .ok (.aload_n 1, 1) := by decide +kernel
theorem dX1_copy_93 : decode cX1_copy 93 = .ok (.getfield 37, 3) := by decide +kernel
theorem dX1_copy_96 : decode cX1_copy 96 = .ok (.iconst 0, 1) := by decide +kernel
theorem dX1_copy_97 : decode cX1_copy 97 = .ok (.aload_n 0, 1) := by decide +kernel
theorem dX1_copy_98 : decode cX1_copy 98 = .ok (.getfield 37, 3) := by decide +kernel
theorem dX1_copy_101 : decode cX1_copy 101 = .ok (.iconst 0, 1) := by decide +kernel
theorem dX1_copy_102 : decode cX1_copy 102 = .ok (.bipush 6, 2) := by decide +kernel
theorem dX1_copy_104 : decode cX1_copy 104 = .ok (.invokestatic 76, 3) := by decide +kernel
theorem dX1_copy_107 : decode cX1_copy 107 = .ok (.aload_n 1, 1) := by decide +kernel
theorem dX1_copy_108 : decode cX1_copy 108 = .ok (.getfield 40, 3) := by decide +kernel
theorem dX1_copy_111 : decode cX1_copy 111 = .ok (.iconst 0, 1) := by decide +kernel
theorem dX1_copy_112 : decode cX1_copy 112 = .ok (.aload_n 0, 1) := by decide +kernel
theorem dX1_copy_113 : decode cX1_copy 113 = .ok (.getfield 40, 3) := by decide +kernel
theorem dX1_copy_116 : decode cX1_copy 116 = .ok (.iconst 0, 1) := by decide +kernel
theorem dX1_copy_117 : decode cX1_copy 117 = .ok (.bipush 6, 2) := by decide +kernel
theorem dX1_copy_119 : decode cX1_copy 119 = .ok (.invokestatic 76, 3) := by decide +kernel
theorem dX1_copy_122 : decode cX1_copy 122 = .ok (.aload_n 1, 1) := by decide +kernel
theorem dX1_copy_123 : decode cX1_copy 123 = .ok (.getfield 43, 3) := by decide +kernel
theorem dX1_copy_126 : decode cX1_copy 126 = .ok (.iconst 0, 1) := by decide +kernel
theorem dX1_copy_127 : decode cX1_copy 127 = .ok (.aload_n 0, 1) := by decide +kernel
theorem dX1_copy_128 : decode cX1_copy 128 = .ok (.getfield 43, 3) := by decide +kernel
theorem dX1_copy_131 : decode cX1_copy 131 = .ok (.iconst 0, 1) := by decide +kernel
theorem dX1_copy_132 : decode cX1_copy 132 = .ok (.bipush 6, 2) := by decide +kernel
theorem dX1_copy_134 : decode cX1_copy 134 = .ok (.invokestatic 76, 3) := by decide +kernel
theorem dX1_copy_137 : decode cX1_copy 137 = .ok (.aload_n 1, 1) := by decide +kernel
theorem dX1_copy_138 : decode cX1_copy 138 = .ok (.getfield 46, 3) := by decide +kernel
theorem dX1_copy_141 : decode cX1_copy 141 = .ok (.iconst 0, 1) := by decide +kernel
theorem dX1_copy_142 : decode cX1_copy 142 = .ok (.aload_n 0, 1) := by decide +kernel
theorem dX1_copy_143 : decode cX1_copy 143 = .ok (.getfield 46, 3) := by decide +kernel
theorem dX1_copy_146 : decode cX1_copy 146 = .ok (.iconst 0, 1) := by decide +kernel
theorem dX1_copy_147 : decode cX1_copy 147 = .ok (.bipush 6, 2) := by decide +kernel
theorem dX1_copy_149 : decode cX1_copy 149 = .ok (.invokestatic 76, 3) := by decide +kernel
theorem dX1_copy_152 : decode cX1_copy 152 = .ok (.aload_n 1, 1) := by decide +kernel
theorem dX1_copy_153 : decode cX1_copy 153 = .ok (.getfield 49, 3) := by decide +kernel
theorem dX1_copy_156 : decode cX1_copy 156 = .ok (.iconst 0, 1) := by decide +kernel
theorem dX1_copy_157 : decode cX1_copy 157 = .ok (.aload_n 0, 1) := by decide +kernel
theorem dX1_copy_158 : decode cX1_copy 158 = .ok (.getfield 49, 3) := by decide +kernel
theorem dX1_copy_161 : decode cX1_copy 161 = .ok (.iconst 0, 1) := by decide +kernel
theorem dX1_copy_162 : decode cX1_copy 162 = .ok (.bipush 6, 2) := by decide +kernel
theorem dX1_copy_164 : decode cX1_copy 164 = .ok (.invokestatic 76, 3) := by decide +kernel
theorem dX1_copy_167 : decode cX1_copy 167 = .ok (.aload_n 0, 1) := by decide +kernel
theorem dX1_copy_168 : decode cX1_copy 168 = .ok (.getfield 55, 3) := by decide +kernel
theorem dX1_copy_171 : decode cX1_copy 171 = .ok (.aload_n 1, 1) := by decide +kernel
theorem dX1_copy_172 : decode cX1_copy 172 = .ok (.getfield 55, 3) := by decide +kernel
theorem dX1_copy_175 : decode cX1_copy 175 = .ok (.invokevirtual 82, 3) := by decide +kernel
theorem dX1_copy_178 : decode cX1_copy 178 = .ok (.aload_n 0, 1) := by decide +kernel
theorem dX1_copy_179 : decode cX1_copy 179 = .ok (.getfield 62, 3) := by decide +kernel
theorem dX1_copy_182 : decode cX1_copy 182 = .ok (.aload_n 1, 1) := by decide +kernel
theorem dX1_copy_183 : decode cX1_copy 183 = .ok (.getfield 62, 3) := by decide +kernel
theorem dX1_copy_186 : decode cX1_copy 186 = .ok (.invokevirtual 86, 3) := by decide +kernel
theorem dX1_copy_189 : decode cX1_copy 189 = .ok (.return_, 1) := by decide +kernel
theorem dX1_addKite_0 : decode cX1_addKite 0 = .ok (.aload_n 0, 1) := by decide +kernel
theorem dX1_addKite_1 : decode cX1_addKite 1 = .ok (.getfield 9, 3) := by decide +kernel
theorem dX1_addKite_4 : decode cX1_addKite 4 = .ok (.istore 5, 2) := by decide +kernel
theorem dX1_addKite_6 : decode cX1_addKite 6 = .ok (.aload_n 0, 1) := by decide +kernel
theorem dX1_addKite_7 : decode cX1_addKite 7 = .ok (.dup, 1) := by decide +kernel
theorem dX1_addKite_8 : decode cX1_addKite 8 = .ok (.getfield 9, 3) := by decide +kernel
theorem dX1_addKite_11 : decode cX1_addKite 11 = .ok (.iconst 1, 1) := by decide +kernel
theorem dX1_addKite_12 : decode cX1_addKite 12 = .ok (.iadd, 1) := by decide +kernel
theorem dX1_addKite_13 : decode cX1_addKite 13 = .ok (.putfield 9, 3) := by decide +kernel
theorem dX1_addKite_16 : decode cX1_addKite 16 = .ok (.aload_n 0, 1) := by decide +kernel
theorem dX1_addKite_17 : decode cX1_addKite 17 = .ok (.getfield 24, 3) := by decide +kernel
theorem dX1_addKite_20 : decode cX1_addKite 20 = .ok (.iload 5, 2) := by decide +kernel
theorem dX1_addKite_22 : decode cX1_addKite 22 = .ok (.iload_n 1, 1) := by decide +kernel
theorem dX1_addKite_23 : decode cX1_addKite 23 = .ok (.iastore, 1) := by decide +kernel
theorem dX1_addKite_24 : decode cX1_addKite 24 = .ok (.aload_n 0, 1) := by decide +kernel
theorem dX1_addKite_25 : decode cX1_addKite 25 = .ok (.getfield 28, 3) := by decide +kernel
theorem dX1_addKite_28 : decode cX1_addKite 28 = .ok (.iload 5, 2) := by decide +kernel
theorem dX1_addKite_30 : decode cX1_addKite 30 = .ok (.iload 4, 2) := by decide +kernel
theorem dX1_addKite_32 : decode cX1_addKite 32 = .ok (.iastore, 1) := by decide +kernel
theorem dX1_addKite_33 : decode cX1_addKite 33 = .ok (.aload_n 0, 1) := by decide +kernel
theorem dX1_addKite_34 : decode cX1_addKite 34 = .ok (.getfield 62, 3) := by decide +kernel
theorem dX1_addKite_37 : decode cX1_addKite 37 = .ok (.getfield 89, 3) := by decide +kernel
theorem dX1_addKite_40 : decode cX1_addKite 40 = .ok (.iload 5, 2) := by decide +kernel
theorem dX1_addKite_42 : decode cX1_addKite 42 = .ok (.iload_n 2, 1) := by decide +kernel
theorem dX1_addKite_43 : decode cX1_addKite 43 = .ok (.iastore, 1) := by decide +kernel
theorem dX1_addKite_44 : decode cX1_addKite 44 = .ok (.aload_n 0, 1) := by decide +kernel
theorem dX1_addKite_45 : decode cX1_addKite 45 = .ok (.getfield 62, 3) := by decide +kernel
theorem dX1_addKite_48 : decode cX1_addKite 48 = .ok (.getfield 92, 3) := by decide +kernel
theorem dX1_addKite_51 : decode cX1_addKite 51 = .ok (.iload 5, 2) := by decide +kernel
theorem dX1_addKite_53 : decode cX1_addKite 53 = .ok (.iload_n 3, 1) := by decide +kernel
theorem dX1_addKite_54 : decode cX1_addKite 54 = .ok (.iastore, 1) := by decide +kernel
theorem dX1_addKite_55 : decode cX1_addKite 55 = .ok (.aload_n 0, 1) := by decide +kernel
theorem dX1_addKite_56 : decode cX1_addKite 56 = .ok (.getfield 62, 3) := by decide +kernel
theorem dX1_addKite_59 : decode cX1_addKite 59 = .ok (.aload_n 0, 1) := by decide +kernel
theorem dX1_addKite_60 : decode cX1_addKite 60 = .ok (.getfield 62, 3) := by decide +kernel
theorem dX1_addKite_63 : decode cX1_addKite 63 = .ok (.getfield 95, 3) := by decide +kernel
theorem dX1_addKite_66 : decode cX1_addKite 66 = .ok (.iload 5, 2) := by decide +kernel
theorem dX1_addKite_68 : decode cX1_addKite 68 = .ok (.iconst 1, 1) := by decide +kernel
theorem dX1_addKite_69 : decode cX1_addKite 69 = .ok (.invokestatic 98, 3) := by decide +kernel
theorem dX1_addKite_72 : decode cX1_addKite 72 = .ok (.putfield 95, 3) := by decide +kernel
theorem dX1_addKite_75 : decode cX1_addKite 75 = .ok (.aload_n 0, 1) := by decide +kernel
theorem dX1_addKite_76 : decode cX1_addKite 76 = .ok (.getfield 62, 3) := by decide +kernel
theorem dX1_addKite_79 : decode cX1_addKite 79 = .ok (.aload_n 0, 1) := by decide +kernel
theorem dX1_addKite_80 : decode cX1_addKite 80 = .ok (.getfield 62, 3) := by decide +kernel
theorem dX1_addKite_83 : decode cX1_addKite 83 = .ok (.getfield 102, 3) := by decide +kernel
theorem dX1_addKite_86 : decode cX1_addKite 86 = .ok (.iload 5, 2) := by decide +kernel
theorem dX1_addKite_88 : decode cX1_addKite 88 = .ok (.iconst 0, 1) := by decide +kernel
theorem dX1_addKite_89 : decode cX1_addKite 89 = .ok (.invokestatic 98, 3) := by decide +kernel
theorem dX1_addKite_92 : decode cX1_addKite 92 = .ok (.putfield 102, 3) := by decide +kernel
theorem dX1_addKite_95 : decode cX1_addKite 95 = .ok (.iload 5, 2) := by decide +kernel
theorem dX1_addKite_97 : decode cX1_addKite 97 = .ok (.ireturn, 1) := by decide +kernel
theorem dX1_addReport_0 : decode cX1_addReport 0 = .ok (.aload_n 0, 1) := by decide +kernel
theorem dX1_addReport_1 : decode cX1_addReport 1 = .ok (.getfield 21, 3) := by decide +kernel
theorem dX1_addReport_4 : decode cX1_addReport 4 = .ok (.istore 5, 2) := by decide +kernel
theorem dX1_addReport_6 : decode cX1_addReport 6 = .ok (.aload_n 0, 1) := by decide +kernel
theorem dX1_addReport_7 : decode cX1_addReport 7 = .ok (.dup, 1) := by decide +kernel
theorem dX1_addReport_8 : decode cX1_addReport 8 = .ok (.getfield 21, 3) := by decide +kernel
theorem dX1_addReport_11 : decode cX1_addReport 11 = .ok (.iconst 1, 1) := by decide +kernel
theorem dX1_addReport_12 : decode cX1_addReport 12 = .ok (.iadd, 1) := by decide +kernel
theorem dX1_addReport_13 : decode cX1_addReport 13 = .ok (.putfield 21, 3) := by decide +kernel
theorem dX1_addReport_16 : decode cX1_addReport 16 = .ok (.aload_n 0, 1) := by decide +kernel
theorem dX1_addReport_17 : decode cX1_addReport 17 = .ok (.getfield 40, 3) := by decide +kernel
theorem dX1_addReport_20 : decode cX1_addReport 20 = .ok (.iload 5, 2) := by decide +kernel
theorem dX1_addReport_22 : decode cX1_addReport 22 = .ok (.iload_n 1, 1) := by decide +kernel
theorem dX1_addReport_23 : decode cX1_addReport 23 = .ok (.iastore, 1) := by decide +kernel
theorem dX1_addReport_24 : decode cX1_addReport 24 = .ok (.aload_n 0, 1) := by decide +kernel
theorem dX1_addReport_25 : decode cX1_addReport 25 = .ok (.getfield 43, 3) := by decide +kernel
theorem dX1_addReport_28 : decode cX1_addReport 28 = .ok (.iload 5, 2) := by decide +kernel
theorem dX1_addReport_30 : decode cX1_addReport 30 = .ok (.iload_n 2, 1) := by decide +kernel
theorem dX1_addReport_31 : decode cX1_addReport 31 = .ok (.iastore, 1) := by decide +kernel
theorem dX1_addReport_32 : decode cX1_addReport 32 = .ok (.aload_n 0, 1) := by decide +kernel
theorem dX1_addReport_33 : decode cX1_addReport 33 = .ok (.getfield 46, 3) := by decide +kernel
theorem dX1_addReport_36 : decode cX1_addReport 36 = .ok (.iload 5, 2) := by decide +kernel
theorem dX1_addReport_38 : decode cX1_addReport 38 = .ok (.iload_n 3, 1) := by decide +kernel
theorem dX1_addReport_39 : decode cX1_addReport 39 = .ok (.iastore, 1) := by decide +kernel
theorem dX1_addReport_40 : decode cX1_addReport 40 = .ok (.aload_n 0, 1) := by decide +kernel
theorem dX1_addReport_41 : decode cX1_addReport 41 = .ok (.getfield 49, 3) := by decide +kernel
theorem dX1_addReport_44 : decode cX1_addReport 44 = .ok (.iload 5, 2) := by decide +kernel
theorem dX1_addReport_46 : decode cX1_addReport 46 = .ok (.iload 4, 2) := by decide +kernel
theorem dX1_addReport_48 : decode cX1_addReport 48 = .ok (.iastore, 1) := by decide +kernel
theorem dX1_addReport_49 : decode cX1_addReport 49 = .ok (.iload 5, 2) := by decide +kernel
theorem dX1_addReport_51 : decode cX1_addReport 51 = .ok (.ireturn, 1) := by decide +kernel
theorem dX1_allKites_0 : decode cX1_allKites 0 = .ok (.iconst 1, 1) := by decide +kernel
theorem dX1_allKites_1 : decode cX1_allKites 1 = .ok (.aload_n 0, 1) := by decide +kernel
theorem dX1_allKites_2 : decode cX1_allKites 2 = .ok (.getfield 9, 3) := by decide +kernel
theorem dX1_allKites_5 : decode cX1_allKites 5 = .ok (.ishl, 1) := by decide +kernel
theorem dX1_allKites_6 : decode cX1_allKites 6 = .ok (.iconst 1, 1) := by decide +kernel
theorem dX1_allKites_7 : decode cX1_allKites 7 = .ok (.isub, 1) := by decide +kernel
theorem dX1_allKites_8 : decode cX1_allKites 8 = .ok (.ireturn, 1) := by decide +kernel
theorem dX1_isOver_0 : decode cX1_isOver 0 = .ok (.aload_n 1, 1) := by decide +kernel
theorem dX1_isOver_1 : decode cX1_isOver 1 = .ok (.getfield 105, 3) := by decide +kernel
theorem dX1_isOver_4 : decode cX1_isOver 4 = .ok (.aload_n 0, 1) := by decide +kernel
theorem dX1_isOver_5 : decode cX1_isOver 5 = .ok (.getfield 15, 3) := by decide +kernel
theorem dX1_isOver_8 : decode cX1_isOver 8 = .ok (.if_icmp .lt 7, 3) := by decide +kernel
theorem dX1_isOver_11 : decode cX1_isOver 11 = .ok (.iconst 1, 1) := by decide +kernel
theorem dX1_isOver_12 : decode cX1_isOver 12 = .ok (.goto 4, 3) := by decide +kernel
theorem dX1_isOver_15 : decode cX1_isOver 15 = .ok (.iconst 0, 1) := by decide +kernel
theorem dX1_isOver_16 : decode cX1_isOver 16 = .ok (.ireturn, 1) := by decide +kernel
theorem dX1_windOf_0 : decode cX1_windOf 0 = .ok (.iload_n 1, 1) := by decide +kernel
theorem dX1_windOf_1 : decode cX1_windOf 1 = .ok (.iconst 0, 1) := by decide +kernel
theorem dX1_windOf_2 : decode cX1_windOf 2 = .ok (.bipush 15, 2) := by decide +kernel
theorem dX1_windOf_4 : decode cX1_windOf 4 = .ok (.invokestatic 108, 3) := by decide +kernel
theorem dX1_windOf_7 : decode cX1_windOf 7 = .ok (.ifCond .eq 12, 3) := by decide +kernel
theorem dX1_windOf_10 : decode cX1_windOf 10 = .ok (.aload_n 0, 1) := by decide +kernel
theorem dX1_windOf_11 : decode cX1_windOf 11 = .ok (.getfield 31, 3) := by decide +kernel
theorem dX1_windOf_14 : decode cX1_windOf 14 = .ok (.iload_n 1, 1) := by decide +kernel
theorem dX1_windOf_15 : decode cX1_windOf 15 = .ok (.iaload, 1) := by decide +kernel
theorem dX1_windOf_16 : decode cX1_windOf 16 = .ok (.goto 4, 3) := by decide +kernel
theorem dX1_windOf_19 : decode cX1_windOf 19 = .ok (.iconst 0, 1) := by decide +kernel
theorem dX1_windOf_20 : decode cX1_windOf 20 = .ok (.ireturn, 1) := by decide +kernel
theorem dX1_driftsNow_0 : decode cX1_driftsNow 0 = .ok (.aload_n 0, 1) := by decide +kernel
theorem dX1_driftsNow_1 : decode cX1_driftsNow 1 = .ok (.getfield 62, 3) := by decide +kernel
theorem dX1_driftsNow_4 : decode cX1_driftsNow 4 = .ok (.getfield 105, 3) := by decide +kernel
theorem dX1_driftsNow_7 : decode cX1_driftsNow 7 = .ok (.istore_n 2, 1) := by decide +kernel
theorem dX1_driftsNow_8 : decode cX1_driftsNow 8 = .ok (.iload_n 2, 1) := by decide +kernel
theorem dX1_driftsNow_9 : decode cX1_driftsNow 9 = .ok (.bipush 16, 2) := by decide +kernel
theorem dX1_driftsNow_11 : decode cX1_driftsNow 11 = .ok (.if_icmp .ge 28, 3) := by decide +kernel
theorem dX1_driftsNow_14 : decode cX1_driftsNow 14 = .ok (.aload_n 0, 1) := by decide +kernel
theorem dX1_driftsNow_15 : decode cX1_driftsNow 15 = .ok (.getfield 66, 3) := by decide +kernel
theorem dX1_driftsNow_18 : decode cX1_driftsNow 18 = .ok (.aload_n 0, 1) := by decide +kernel
theorem dX1_driftsNow_19 : decode cX1_driftsNow 19 = .ok (.getfield 24, 3) := by decide +kernel
theorem dX1_driftsNow_22 : decode cX1_driftsNow 22 = .ok (.iload_n 1, 1) := by decide +kernel
theorem dX1_driftsNow_23 : decode cX1_driftsNow 23 = .ok (.iaload, 1) := by decide +kernel
theorem dX1_driftsNow_24 : decode cX1_driftsNow 24 = .ok (.aaload, 1) := by decide +kernel
theorem dX1_driftsNow_25 : decode cX1_driftsNow 25 = .ok (.aload_n 0, 1) := by decide +kernel
theorem dX1_driftsNow_26 : decode cX1_driftsNow 26 = .ok (.iload_n 2, 1) := by decide +kernel
theorem dX1_driftsNow_27 : decode cX1_driftsNow 27 = .ok (.invokevirtual 112, 3) := by decide +kernel
theorem dX1_driftsNow_30 : decode cX1_driftsNow 30 = .ok (.iconst 4, 1) := by decide +kernel
theorem dX1_driftsNow_31 : decode cX1_driftsNow 31 = .ok (.idiv, 1) := by decide +kernel
theorem dX1_driftsNow_32 : decode cX1_driftsNow 32 = .ok (.iload_n 2, 1) := by decide +kernel
theorem dX1_driftsNow_33 : decode cX1_driftsNow 33 = .ok (.invokevirtual 116, 3) := by decide +kernel
theorem dX1_driftsNow_36 : decode cX1_driftsNow 36 = .ok (.goto 4, 3) := by decide +kernel
theorem dX1_driftsNow_39 : decode cX1_driftsNow 39 = .ok (.iconst 0, 1) := by decide +kernel
theorem dX1_driftsNow_40 : decode cX1_driftsNow 40 = .ok (.ireturn, 1) := by decide +kernel
theorem dX1_feeOf_0 : decode cX1_feeOf 0 = .ok (.aload_n 0, 1) := by decide +kernel
theorem dX1_feeOf_1 : decode cX1_feeOf 1 = .ok (.getfield 66, 3) := by decide +kernel
theorem dX1_feeOf_4 : decode cX1_feeOf 4 = .ok (.aload_n 0, 1) := by decide +kernel
theorem dX1_feeOf_5 : decode cX1_feeOf 5 = .ok (.getfield 24, 3) := by decide +kernel
theorem dX1_feeOf_8 : decode cX1_feeOf 8 = .ok (.iload_n 1, 1) := by decide +kernel
theorem dX1_feeOf_9 : decode cX1_feeOf 9 = .ok (.iaload, 1) := by decide +kernel
theorem dX1_feeOf_10 : decode cX1_feeOf 10 = .ok (.aaload, 1) := by decide +kernel
theorem dX1_feeOf_11 : decode cX1_feeOf 11 = .ok (.iload_n 1, 1) := by decide +kernel
theorem dX1_feeOf_12 : decode cX1_feeOf 12 = .ok (.invokevirtual 122, 3) := by decide +kernel
theorem dX1_feeOf_15 : decode cX1_feeOf 15 = .ok (.ireturn, 1) := by decide +kernel
theorem dX1_farFromFarm_0 : decode cX1_farFromFarm 0 = .ok (.aload_n 1, 1) := by decide +kernel
theorem dX1_farFromFarm_1 : decode cX1_farFromFarm 1 = .ok (.getfield 89, 3) := by decide +kernel
theorem dX1_farFromFarm_4 : decode cX1_farFromFarm 4 = .ok (.iload_n 2, 1) := by decide +kernel
theorem dX1_farFromFarm_5 : decode cX1_farFromFarm 5 = .ok (.iaload, 1) := by decide +kernel
theorem dX1_farFromFarm_6 : decode cX1_farFromFarm 6 = .ok (.aload_n 0, 1) := by decide +kernel
theorem dX1_farFromFarm_7 : decode cX1_farFromFarm 7 = .ok (.getfield 34, 3) := by decide +kernel
theorem dX1_farFromFarm_10 : decode cX1_farFromFarm 10 = .ok (.aload_n 0, 1) := by decide +kernel
theorem dX1_farFromFarm_11 : decode cX1_farFromFarm 11 = .ok (.getfield 28, 3) := by decide +kernel
theorem dX1_farFromFarm_14 : decode cX1_farFromFarm 14 = .ok (.iload_n 2, 1) := by decide +kernel
theorem dX1_farFromFarm_15 : decode cX1_farFromFarm 15 = .ok (.iaload, 1) := by decide +kernel
theorem dX1_farFromFarm_16 : decode cX1_farFromFarm 16 = .ok (.iaload, 1) := by decide +kernel
theorem dX1_farFromFarm_17 : decode cX1_farFromFarm 17 = .ok (.invokestatic 125, 3) := by decide +kernel
theorem dX1_farFromFarm_20 : decode cX1_farFromFarm 20 = .ok (.ireturn, 1) := by decide +kernel
theorem dX1_willOf_0 : decode cX1_willOf 0 = .ok (.aload_n 0, 1) := by decide +kernel
theorem dX1_willOf_1 : decode cX1_willOf 1 = .ok (.aload_n 1, 1) := by decide +kernel
theorem dX1_willOf_2 : decode cX1_willOf 2 = .ok (.iload_n 2, 1) := by decide +kernel
theorem dX1_willOf_3 : decode cX1_willOf 3 = .ok (.aload_n 0, 1) := by decide +kernel
theorem dX1_willOf_4 : decode cX1_willOf 4 = .ok (.aload_n 1, 1) := by decide +kernel
theorem dX1_willOf_5 : decode cX1_willOf 5 = .ok (.iload_n 2, 1) := by decide +kernel
theorem dX1_willOf_6 : decode cX1_willOf 6 = .ok (.invokevirtual 128, 3) := by decide +kernel
theorem dX1_willOf_9 : decode cX1_willOf 9 = .ok (.invokevirtual 132, 3) := by decide +kernel
theorem dX1_willOf_12 : decode cX1_willOf 12 = .ok (.aload_n 0, 1) := by decide +kernel
theorem dX1_willOf_13 : decode cX1_willOf 13 = .ok (.getfield 55, 3) := by decide +kernel
theorem dX1_willOf_16 : decode cX1_willOf 16 = .ok (.aload_n 0, 1) := by decide +kernel
theorem dX1_willOf_17 : decode cX1_willOf 17 = .ok (.getfield 24, 3) := by decide +kernel
theorem dX1_willOf_20 : decode cX1_willOf 20 = .ok (.iload_n 2, 1) := by decide +kernel
theorem dX1_willOf_21 : decode cX1_willOf 21 = .ok (.iaload, 1) := by decide +kernel
theorem dX1_willOf_22 : decode cX1_willOf 22 = .ok (.invokevirtual 136, 3) := by decide +kernel
theorem dX1_willOf_25 : decode cX1_willOf 25 = .ok (.ireturn, 1) := by decide +kernel
theorem dX1_layFacts_0 : decode cX1_layFacts 0 = .ok (.aload_n 0, 1) := by decide +kernel
theorem dX1_layFacts_1 : decode cX1_layFacts 1 = .ok (.getfield 55, 3) := by decide +kernel
theorem dX1_layFacts_4 : decode cX1_layFacts 4 = .ok (.getfield 139, 3) := by decide +kernel
theorem dX1_layFacts_7 : decode cX1_layFacts 7 = .ok (.astore 4, 2) := by decide +kernel
theorem dX1_layFacts_9 : decode cX1_layFacts 9 = .ok (.aload 4, 2) := by decide +kernel
theorem dX1_layFacts_11 : decode cX1_layFacts 11 = .ok (.iconst 0, 1) := by decide +kernel
theorem dX1_layFacts_12 : decode cX1_layFacts 12 = .ok (.aload_n 1, 1) := by decide +kernel
theorem dX1_layFacts_13 : decode cX1_layFacts 13 = .ok (.getfield 105, 3) := by decide +kernel
theorem dX1_layFacts_16 : decode cX1_layFacts 16 = .ok (.iastore, 1) := by decide +kernel
theorem dX1_layFacts_17 : decode cX1_layFacts 17 = .ok (.aload 4, 2) := by decide +kernel
theorem dX1_layFacts_19 : decode cX1_layFacts 19 = .ok (.iconst 1, 1) := by decide +kernel
theorem dX1_layFacts_20 : decode cX1_layFacts 20 = .ok (.aload_n 1, 1) := by decide +kernel
theorem dX1_layFacts_21 : decode cX1_layFacts 21 = .ok (.getfield 92, 3) := by decide +kernel
theorem dX1_layFacts_24 : decode cX1_layFacts 24 = .ok (.iload_n 2, 1) := by decide +kernel
theorem dX1_layFacts_25 : decode cX1_layFacts 25 = .ok (.iaload, 1) := by decide +kernel
theorem dX1_layFacts_26 : decode cX1_layFacts 26 = .ok (.iastore, 1) := by decide +kernel
theorem dX1_layFacts_27 : decode cX1_layFacts 27 = .ok (.aload 4, 2) := by decide +kernel
theorem dX1_layFacts_29 : decode cX1_layFacts 29 = .ok (.iconst 2, 1) := by decide +kernel
theorem dX1_layFacts_30 : decode cX1_layFacts 30 = .ok (.iload_n 3, 1) := by decide +kernel
theorem dX1_layFacts_31 : decode cX1_layFacts 31 = .ok (.iastore, 1) := by decide +kernel
theorem dX1_layFacts_32 : decode cX1_layFacts 32 = .ok (.aload 4, 2) := by decide +kernel
theorem dX1_layFacts_34 : decode cX1_layFacts 34 = .ok (.iconst 3, 1) := by decide +kernel
theorem dX1_layFacts_35 : decode cX1_layFacts 35 = .ok (.aload_n 0, 1) := by decide +kernel
theorem dX1_layFacts_36 : decode cX1_layFacts 36 = .ok (.getfield 28, 3) := by decide +kernel
theorem dX1_layFacts_39 : decode cX1_layFacts 39 = .ok (.iload_n 2, 1) := by decide +kernel
theorem dX1_layFacts_40 : decode cX1_layFacts 40 = .ok (.iaload, 1) := by decide +kernel
theorem dX1_layFacts_41 : decode cX1_layFacts 41 = .ok (.iastore, 1) := by decide +kernel
theorem dX1_layFacts_42 : decode cX1_layFacts 42 = .ok (.aload 4, 2) := by decide +kernel
theorem dX1_layFacts_44 : decode cX1_layFacts 44 = .ok (.iconst 4, 1) := by decide +kernel
theorem dX1_layFacts_45 : decode cX1_layFacts 45 = .ok (.iload_n 2, 1) := by decide +kernel
theorem dX1_layFacts_46 : decode cX1_layFacts 46 = .ok (.iastore, 1) := by decide +kernel
theorem dX1_layFacts_47 : decode cX1_layFacts 47 = .ok (.return_, 1) := by decide +kernel
theorem dX1_actOfLot_0 : decode cX1_actOfLot 0 = .ok (.iload_n 1, 1) := by decide +kernel
theorem dX1_actOfLot_1 : decode cX1_actOfLot 1 = .ok (.bipush 16, 2) := by decide +kernel
theorem dX1_actOfLot_3 : decode cX1_actOfLot 3 = .ok (.iushr, 1) := by decide +kernel
theorem dX1_actOfLot_4 : decode cX1_actOfLot 4 = .ok (.aload_n 0, 1) := by decide +kernel
theorem dX1_actOfLot_5 : decode cX1_actOfLot 5 = .ok (.getfield 9, 3) := by decide +kernel
theorem dX1_actOfLot_8 : decode cX1_actOfLot 8 = .ok (.iconst 1, 1) := by decide +kernel
theorem dX1_actOfLot_9 : decode cX1_actOfLot 9 = .ok (.iadd, 1) := by decide +kernel
theorem dX1_actOfLot_10 : decode cX1_actOfLot 10 = .ok (.irem, 1) := by decide +kernel
theorem dX1_actOfLot_11 : decode cX1_actOfLot 11 = .ok (.ireturn, 1) := by decide +kernel
theorem dX1_goByAct_0 : decode cX1_goByAct 0 = .ok (.aload_n 0, 1) := by decide +kernel
theorem dX1_goByAct_1 : decode cX1_goByAct 1 = .ok (.aload_n 1, 1) := by decide +kernel
theorem dX1_goByAct_2 : decode cX1_goByAct 2 = .ok (.invokevirtual 142, 3) := by decide +kernel
theorem dX1_goByAct_5 : decode cX1_goByAct 5 = .ok (.aload_n 0, 1) := by decide +kernel
theorem dX1_goByAct_6 : decode cX1_goByAct 6 = .ok (.aload_n 1, 1) := by decide +kernel
theorem dX1_goByAct_7 : decode cX1_goByAct 7 = .ok (.iload_n 2, 1) := by decide +kernel
theorem dX1_goByAct_8 : decode cX1_goByAct 8 = .ok (.iconst 1, 1) := by decide +kernel
theorem dX1_goByAct_9 : decode cX1_goByAct 9 = .ok (.isub, 1) := by decide +kernel
theorem dX1_goByAct_10 : decode cX1_goByAct 10 = .ok (.invokevirtual 145, 3) := by decide +kernel
theorem dX1_goByAct_13 : decode cX1_goByAct 13 = .ok (.ireturn, 1) := by decide +kernel
theorem dX1_goByRest_0 : decode cX1_goByRest 0 = .ok (.aload_n 0, 1) := by decide +kernel
theorem dX1_goByRest_1 : decode cX1_goByRest 1 = .ok (.aload_n 1, 1) := by decide +kernel
theorem dX1_goByRest_2 : decode cX1_goByRest 2 = .ok (.invokevirtual 142, 3) := by decide +kernel
theorem dX1_goByRest_5 : decode cX1_goByRest 5 = .ok (.aload_n 0, 1) := by decide +kernel
theorem dX1_goByRest_6 : decode cX1_goByRest 6 = .ok (.aload_n 1, 1) := by decide +kernel
theorem dX1_goByRest_7 : decode cX1_goByRest 7 = .ok (.aload_n 0, 1) := by decide +kernel
theorem dX1_goByRest_8 : decode cX1_goByRest 8 = .ok (.aload_n 1, 1) := by decide +kernel
theorem dX1_goByRest_9 : decode cX1_goByRest 9 = .ok (.invokevirtual 148, 3) := by decide +kernel
theorem dX1_goByRest_12 : decode cX1_goByRest 12 = .ok (.invokevirtual 145, 3) := by decide +kernel
theorem dX1_goByRest_15 : decode cX1_goByRest 15 = .ok (.ireturn, 1) := by decide +kernel
theorem dX1_drift_0 : decode cX1_drift 0 = .ok (.aload_n 0, 1) := by decide +kernel
theorem dX1_drift_1 : decode cX1_drift 1 = .ok (.aload_n 1, 1) := by decide +kernel
theorem dX1_drift_2 : decode cX1_drift 2 = .ok (.getfield 105, 3) := by decide +kernel
theorem dX1_drift_5 : decode cX1_drift 5 = .ok (.invokevirtual 112, 3) := by decide +kernel
theorem dX1_drift_8 : decode cX1_drift 8 = .ok (.iconst 4, 1) := by decide +kernel
theorem dX1_drift_9 : decode cX1_drift 9 = .ok (.idiv, 1) := by decide +kernel
theorem dX1_drift_10 : decode cX1_drift 10 = .ok (.istore_n 2, 1) := by decide +kernel
theorem dX1_drift_11 : decode cX1_drift 11 = .ok (.aload_n 0, 1) := by decide +kernel
theorem dX1_drift_12 : decode cX1_drift 12 = .ok (.aload_n 1, 1) := by decide +kernel
theorem dX1_drift_13 : decode cX1_drift 13 = .ok (.getfield 105, 3) := by decide +kernel
theorem dX1_drift_16 : decode cX1_drift 16 = .ok (.invokevirtual 112, 3) := by decide +kernel
theorem dX1_drift_19 : decode cX1_drift 19 = .ok (.iconst 4, 1) := by decide +kernel
theorem dX1_drift_20 : decode cX1_drift 20 = .ok (.irem, 1) := by decide +kernel
theorem dX1_drift_21 : decode cX1_drift 21 = .ok (.istore_n 3, 1) := by decide +kernel
theorem dX1_drift_22 : decode cX1_drift 22 = .ok (.iconst 0, 1) := by decide +kernel
theorem dX1_drift_23 : decode cX1_drift 23 = .ok (.istore 4, 2) := by decide +kernel
theorem dX1_drift_25 : decode cX1_drift 25 = .ok (.iload 4, 2) := by decide +kernel
theorem dX1_drift_27 : decode cX1_drift 27 = .ok (.aload_n 0, 1) := by decide +kernel
theorem dX1_drift_28 : decode cX1_drift 28 = .ok (.getfield 9, 3) := by decide +kernel
theorem dX1_drift_31 : decode cX1_drift 31 = .ok (.if_icmp .ge 100, 3) := by decide +kernel
theorem dX1_drift_34 : decode cX1_drift 34 = .ok (.aload_n 1, 1) := by decide +kernel
theorem dX1_drift_35 : decode cX1_drift 35 = .ok (.getfield 95, 3) := by decide +kernel
theorem dX1_drift_38 : decode cX1_drift 38 = .ok (.iload 4, 2) := by decide +kernel
theorem dX1_drift_40 : decode cX1_drift 40 = .ok (.invokestatic 152, 3) := by decide +kernel
theorem dX1_drift_43 : decode cX1_drift 43 = .ok (.ifCond .eq 82, 3) := by decide +kernel
theorem dX1_drift_46 : decode cX1_drift 46 = .ok (.aload_n 0, 1) := by decide +kernel
theorem dX1_drift_47 : decode cX1_drift 47 = .ok (.getfield 66, 3) := by decide +kernel
theorem dX1_drift_50 : decode cX1_drift 50 = .ok (.aload_n 0, 1) := by decide +kernel
theorem dX1_drift_51 : decode cX1_drift 51 = .ok (.getfield 24, 3) := by decide +kernel
theorem dX1_drift_54 : decode cX1_drift 54 = .ok (.iload 4, 2) := by decide +kernel
theorem dX1_drift_56 : decode cX1_drift 56 = .ok (.iaload, 1) := by decide +kernel
theorem dX1_drift_57 : decode cX1_drift 57 = .ok (.aaload, 1) := by decide +kernel
theorem dX1_drift_58 : decode cX1_drift 58 = .ok (.iload_n 2, 1) := by decide +kernel
theorem dX1_drift_59 : decode cX1_drift 59 = .ok (.aload_n 1, 1) := by decide +kernel
theorem dX1_drift_60 : decode cX1_drift 60 = .ok (.getfield 105, 3) := by decide +kernel
theorem dX1_drift_63 : decode cX1_drift 63 = .ok (.invokevirtual 116, 3) := by decide +kernel
theorem dX1_drift_66 : decode cX1_drift 66 = .ok (.istore 5, 2) := by decide +kernel
theorem dX1_drift_68 : decode cX1_drift 68 = .ok (.iload 5, 2) := by decide +kernel
theorem dX1_drift_70 : decode cX1_drift 70 = .ok (.aload_n 1, 1) := by decide +kernel
theorem dX1_drift_71 : decode cX1_drift 71 = .ok (.getfield 92, 3) := by decide +kernel
theorem dX1_drift_74 : decode cX1_drift 74 = .ok (.iload 4, 2) := by decide +kernel
theorem dX1_drift_76 : decode cX1_drift 76 = .ok (.iaload, 1) := by decide +kernel
theorem dX1_drift_77 : decode cX1_drift 77 = .ok (.invokestatic 156, 3) := by decide +kernel
theorem dX1_drift_80 : decode cX1_drift 80 = .ok (.aload_n 1, 1) := by decide +kernel
theorem dX1_drift_81 : decode cX1_drift 81 = .ok (.getfield 89, 3) := by decide +kernel
theorem dX1_drift_84 : decode cX1_drift 84 = .ok (.iload 4, 2) := by decide +kernel
theorem dX1_drift_86 : decode cX1_drift 86 = .ok (.iaload, 1) := by decide +kernel
theorem dX1_drift_87 : decode cX1_drift 87 = .ok (.iload_n 3, 1) := by decide +kernel
theorem dX1_drift_88 : decode cX1_drift 88 = .ok (.invokestatic 161, 3) := by decide +kernel
theorem dX1_drift_91 : decode cX1_drift 91 = .ok (.invokestatic 156, 3) := by decide +kernel
theorem dX1_drift_94 : decode cX1_drift 94 = .ok (.istore 6, 2) := by decide +kernel
theorem dX1_drift_96 : decode cX1_drift 96 = .ok (.aload_n 1, 1) := by decide +kernel
theorem dX1_drift_97 : decode cX1_drift 97 = .ok (.getfield 89, 3) := by decide +kernel
theorem dX1_drift_100 : decode cX1_drift 100 = .ok (.iload 4, 2) := by decide +kernel
theorem dX1_drift_102 : decode cX1_drift 102 = .ok (.dup2, 1) := by decide +kernel
theorem dX1_drift_103 : decode cX1_drift 103 = .ok (.iaload, 1) := by decide +kernel
theorem dX1_drift_104 : decode cX1_drift 104 = .ok (.iload 6, 2) := by decide +kernel
theorem dX1_drift_106 : decode cX1_drift 106 = .ok (.iload_n 3, 1) := by decide +kernel
theorem dX1_drift_107 : decode cX1_drift 107 = .ok (.invokestatic 164, 3) := by decide +kernel
theorem dX1_drift_110 : decode cX1_drift 110 = .ok (.imul, 1) := by decide +kernel
theorem dX1_drift_111 : decode cX1_drift 111 = .ok (.iadd, 1) := by decide +kernel
theorem dX1_drift_112 : decode cX1_drift 112 = .ok (.iastore, 1) := by decide +kernel
theorem dX1_drift_113 : decode cX1_drift 113 = .ok (.aload_n 1, 1) := by decide +kernel
theorem dX1_drift_114 : decode cX1_drift 114 = .ok (.getfield 92, 3) := by decide +kernel
theorem dX1_drift_117 : decode cX1_drift 117 = .ok (.iload 4, 2) := by decide +kernel
theorem dX1_drift_119 : decode cX1_drift 119 = .ok (.dup2, 1) := by decide +kernel
theorem dX1_drift_120 : decode cX1_drift 120 = .ok (.iaload, 1) := by decide +kernel
theorem dX1_drift_121 : decode cX1_drift 121 = .ok (.iload 6, 2) := by decide +kernel
theorem dX1_drift_123 : decode cX1_drift 123 = .ok (.isub, 1) := by decide +kernel
theorem dX1_drift_124 : decode cX1_drift 124 = .ok (.iastore, 1) := by decide +kernel
theorem dX1_drift_125 : decode cX1_drift 125 = .ok (.iinc 4 1, 3) := by decide +kernel
theorem dX1_drift_128 : decode cX1_drift 128 = .ok (.goto (-103), 3) := by decide +kernel
theorem dX1_drift_131 : decode cX1_drift 131 = .ok (.return_, 1) := by decide +kernel
theorem dX1_firstInReach_0 : decode cX1_firstInReach 0 = .ok (.iconst 0, 1) := by decide +kernel
theorem dX1_firstInReach_1 : decode cX1_firstInReach 1 = .ok (.istore_n 2, 1) := by decide +kernel
theorem dX1_firstInReach_2 : decode cX1_firstInReach 2 = .ok (.iload_n 2, 1) := by decide +kernel
theorem dX1_firstInReach_3 : decode cX1_firstInReach 3 = .ok (.aload_n 0, 1) := by decide +kernel
theorem dX1_firstInReach_4 : decode cX1_firstInReach 4 = .ok (.getfield 9, 3) := by decide +kernel
theorem dX1_firstInReach_7 : decode cX1_firstInReach 7 = .ok (.if_icmp .ge 42, 3) := by decide +kernel
theorem dX1_firstInReach_10 : decode cX1_firstInReach 10 = .ok (.aload_n 1, 1) := by decide +kernel
theorem dX1_firstInReach_11 : decode cX1_firstInReach 11 = .ok (.getfield 95, 3) := by decide +kernel
theorem dX1_firstInReach_14 : decode cX1_firstInReach 14 = .ok (.iload_n 2, 1) := by decide +kernel
theorem dX1_firstInReach_15 : decode cX1_firstInReach 15 = .ok (.invokestatic 152, 3) := by decide +kernel
theorem dX1_firstInReach_18 : decode cX1_firstInReach 18 = .ok (.ifCond .eq 25, 3) := by decide +kernel
theorem dX1_firstInReach_21 : decode cX1_firstInReach 21 = .ok (.aload_n 0, 1) := by decide +kernel
theorem dX1_firstInReach_22 : decode cX1_firstInReach 22 = .ok (.aload_n 1, 1) := by decide +kernel
theorem dX1_firstInReach_23 : decode cX1_firstInReach 23 = .ok (.iload_n 2, 1) := by decide +kernel
theorem dX1_firstInReach_24 : decode cX1_firstInReach 24 = .ok (.invokevirtual 128, 3) := by decide +kernel
theorem dX1_firstInReach_27 : decode cX1_firstInReach 27 = .ok (.aload_n 0, 1) := by decide +kernel
theorem dX1_firstInReach_28 : decode cX1_firstInReach 28 = .ok (.getfield 37, 3) := by decide +kernel
theorem dX1_firstInReach_31 : decode cX1_firstInReach 31 = .ok (.aload_n 0, 1) := by decide +kernel
theorem dX1_firstInReach_32 : decode cX1_firstInReach 32 = .ok (.getfield 28, 3) := by decide +kernel
theorem dX1_firstInReach_35 : decode cX1_firstInReach 35 = .ok (.iload_n 2, 1) := by decide +kernel
theorem dX1_firstInReach_36 : decode cX1_firstInReach 36 = .ok (.iaload, 1) := by decide +kernel
theorem dX1_firstInReach_37 : decode cX1_firstInReach 37 = .ok (.iaload, 1) := by decide +kernel
theorem dX1_firstInReach_38 : decode cX1_firstInReach 38 = .ok (.if_icmp .gt 5, 3) := by decide +kernel
theorem dX1_firstInReach_41 : decode cX1_firstInReach 41 = .ok (.iload_n 2, 1) := by decide +kernel
theorem dX1_firstInReach_42 : decode cX1_firstInReach 42 = .ok (.ireturn, 1) := by decide +kernel
theorem dX1_firstInReach_43 : decode cX1_firstInReach 43 = .ok (.iinc 2 1, 3) := by decide +kernel
theorem dX1_firstInReach_46 : decode cX1_firstInReach 46 = .ok (.goto (-44), 3) := by decide +kernel
theorem dX1_firstInReach_49 : decode cX1_firstInReach 49 = .ok (.iconst (-1), 1) := by decide +kernel
theorem dX1_firstInReach_50 : decode cX1_firstInReach 50 = .ok (.ireturn, 1) := by decide +kernel
theorem dX1_tell_0 : decode cX1_tell 0 = .ok (.iconst 0, 1) := by decide +kernel
theorem dX1_tell_1 : decode cX1_tell 1 = .ok (.istore_n 3, 1) := by decide +kernel
theorem dX1_tell_2 : decode cX1_tell 2 = .ok (.iload_n 2, 1) := by decide +kernel
theorem dX1_tell_3 : decode cX1_tell 3 = .ok (.iconst (-1), 1) := by decide +kernel
theorem dX1_tell_4 : decode cX1_tell 4 = .ok (.if_icmp .eq 135, 3) := by decide +kernel
theorem dX1_tell_7 : decode cX1_tell 7 = .ok (.aload_n 1, 1) := by decide +kernel
theorem dX1_tell_8 : decode cX1_tell 8 = .ok (.getfield 95, 3) := by decide +kernel
theorem dX1_tell_11 : decode cX1_tell 11 = .ok (.iload_n 2, 1) := by decide +kernel
theorem dX1_tell_12 : decode cX1_tell 12 = .ok (.invokestatic 152, 3) := by decide +kernel
theorem dX1_tell_15 : decode cX1_tell 15 = .ok (.ifCond .eq 124, 3) := by decide +kernel
theorem dX1_tell_18 : decode cX1_tell 18 = .ok (.aload_n 0, 1) := by decide +kernel
theorem dX1_tell_19 : decode cX1_tell 19 = .ok (.aload_n 1, 1) := by decide +kernel
theorem dX1_tell_20 : decode cX1_tell 20 = .ok (.iload_n 2, 1) := by decide +kernel
theorem dX1_tell_21 : decode cX1_tell 21 = .ok (.invokevirtual 128, 3) := by decide +kernel
theorem dX1_tell_24 : decode cX1_tell 24 = .ok (.istore 4, 2) := by decide +kernel
theorem dX1_tell_26 : decode cX1_tell 26 = .ok (.aload_n 0, 1) := by decide +kernel
theorem dX1_tell_27 : decode cX1_tell 27 = .ok (.aload_n 1, 1) := by decide +kernel
theorem dX1_tell_28 : decode cX1_tell 28 = .ok (.iload_n 2, 1) := by decide +kernel
theorem dX1_tell_29 : decode cX1_tell 29 = .ok (.iload 4, 2) := by decide +kernel
theorem dX1_tell_31 : decode cX1_tell 31 = .ok (.invokevirtual 132, 3) := by decide +kernel
theorem dX1_tell_34 : decode cX1_tell 34 = .ok (.aload_n 0, 1) := by decide +kernel
theorem dX1_tell_35 : decode cX1_tell 35 = .ok (.getfield 55, 3) := by decide +kernel
theorem dX1_tell_38 : decode cX1_tell 38 = .ok (.aload_n 0, 1) := by decide +kernel
theorem dX1_tell_39 : decode cX1_tell 39 = .ok (.getfield 24, 3) := by decide +kernel
theorem dX1_tell_42 : decode cX1_tell 42 = .ok (.iload_n 2, 1) := by decide +kernel
theorem dX1_tell_43 : decode cX1_tell 43 = .ok (.iaload, 1) := by decide +kernel
theorem dX1_tell_44 : decode cX1_tell 44 = .ok (.invokevirtual 136, 3) := by decide +kernel
theorem dX1_tell_47 : decode cX1_tell 47 = .ok (.istore 5, 2) := by decide +kernel
theorem dX1_tell_49 : decode cX1_tell 49 = .ok (.iload 5, 2) := by decide +kernel
theorem dX1_tell_51 : decode cX1_tell 51 = .ok (.iconst 1, 1) := by decide +kernel
theorem dX1_tell_52 : decode cX1_tell 52 = .ok (.if_icmp .eq 16, 3) := by decide +kernel
theorem dX1_tell_55 : decode cX1_tell 55 = .ok (.aload_n 1, 1) := by decide +kernel
theorem dX1_tell_56 : decode cX1_tell 56 = .ok (.aload_n 1, 1) := by decide +kernel
theorem dX1_tell_57 : decode cX1_tell 57 = .ok (.getfield 95, 3) := by decide +kernel
theorem dX1_tell_60 : decode cX1_tell 60 = .ok (.iload_n 2, 1) := by decide +kernel
theorem dX1_tell_61 : decode cX1_tell 61 = .ok (.iconst 0, 1) := by decide +kernel
theorem dX1_tell_62 : decode cX1_tell 62 = .ok (.invokestatic 98, 3) := by decide +kernel
theorem dX1_tell_65 : decode cX1_tell 65 = .ok (.putfield 95, 3) := by decide +kernel
theorem dX1_tell_68 : decode cX1_tell 68 = .ok (.iload 5, 2) := by decide +kernel
theorem dX1_tell_70 : decode cX1_tell 70 = .ok (.iconst 2, 1) := by decide +kernel
theorem dX1_tell_71 : decode cX1_tell 71 = .ok (.if_icmp .ne 8, 3) := by decide +kernel
theorem dX1_tell_74 : decode cX1_tell 74 = .ok (.iconst 1, 1) := by decide +kernel
theorem dX1_tell_75 : decode cX1_tell 75 = .ok (.istore_n 3, 1) := by decide +kernel
theorem dX1_tell_76 : decode cX1_tell 76 = .ok (.goto 63, 3) := by decide +kernel
theorem dX1_tell_79 : decode cX1_tell 79 = .ok (.iload 5, 2) := by decide +kernel
theorem dX1_tell_81 : decode cX1_tell 81 = .ok (.ifCond .ne 58, 3) := by decide +kernel
theorem dX1_tell_84 : decode cX1_tell 84 = .ok (.iload 4, 2) := by decide +kernel
theorem dX1_tell_86 : decode cX1_tell 86 = .ok (.aload_n 0, 1) := by decide +kernel
theorem dX1_tell_87 : decode cX1_tell 87 = .ok (.getfield 37, 3) := by decide +kernel
theorem dX1_tell_90 : decode cX1_tell 90 = .ok (.aload_n 0, 1) := by decide +kernel
theorem dX1_tell_91 : decode cX1_tell 91 = .ok (.getfield 28, 3) := by decide +kernel
theorem dX1_tell_94 : decode cX1_tell 94 = .ok (.iload_n 2, 1) := by decide +kernel
theorem dX1_tell_95 : decode cX1_tell 95 = .ok (.iaload, 1) := by decide +kernel
theorem dX1_tell_96 : decode cX1_tell 96 = .ok (.iaload, 1) := by decide +kernel
theorem dX1_tell_97 : decode cX1_tell 97 = .ok (.if_icmp .gt 42, 3) := by decide +kernel
theorem dX1_tell_100 : decode cX1_tell 100 = .ok (.aload_n 1, 1) := by decide +kernel
theorem dX1_tell_101 : decode cX1_tell 101 = .ok (.aload_n 1, 1) := by decide +kernel
theorem dX1_tell_102 : decode cX1_tell 102 = .ok (.getfield 102, 3) := by decide +kernel
theorem dX1_tell_105 : decode cX1_tell 105 = .ok (.iload_n 2, 1) := by decide +kernel
theorem dX1_tell_106 : decode cX1_tell 106 = .ok (.iconst 1, 1) := by decide +kernel
theorem dX1_tell_107 : decode cX1_tell 107 = .ok (.invokestatic 98, 3) := by decide +kernel
theorem dX1_tell_110 : decode cX1_tell 110 = .ok (.putfield 102, 3) := by decide +kernel
theorem dX1_tell_113 : decode cX1_tell 113 = .ok (.aload_n 0, 1) := by decide +kernel
theorem dX1_tell_114 : decode cX1_tell 114 = .ok (.getfield 66, 3) := by decide +kernel
theorem dX1_tell_117 : decode cX1_tell 117 = .ok (.aload_n 0, 1) := by decide +kernel
theorem dX1_tell_118 : decode cX1_tell 118 = .ok (.getfield 24, 3) := by decide +kernel
theorem dX1_tell_121 : decode cX1_tell 121 = .ok (.iload_n 2, 1) := by decide +kernel
theorem dX1_tell_122 : decode cX1_tell 122 = .ok (.iaload, 1) := by decide +kernel
theorem dX1_tell_123 : decode cX1_tell 123 = .ok (.aaload, 1) := by decide +kernel
theorem dX1_tell_124 : decode cX1_tell 124 = .ok (.iload_n 2, 1) := by decide +kernel
theorem dX1_tell_125 : decode cX1_tell 125 = .ok (.invokevirtual 122, 3) := by decide +kernel
theorem dX1_tell_128 : decode cX1_tell 128 = .ok (.iconst 0, 1) := by decide +kernel
theorem dX1_tell_129 : decode cX1_tell 129 = .ok (.bipush 9, 2) := by decide +kernel
theorem dX1_tell_131 : decode cX1_tell 131 = .ok (.iload 4, 2) := by decide +kernel
theorem dX1_tell_133 : decode cX1_tell 133 = .ok (.isub, 1) := by decide +kernel
theorem dX1_tell_134 : decode cX1_tell 134 = .ok (.invokestatic 167, 3) := by decide +kernel
theorem dX1_tell_137 : decode cX1_tell 137 = .ok (.iadd, 1) := by decide +kernel
theorem dX1_tell_138 : decode cX1_tell 138 = .ok (.istore_n 3, 1) := by decide +kernel
theorem dX1_tell_139 : decode cX1_tell 139 = .ok (.aload_n 1, 1) := by decide +kernel
theorem dX1_tell_140 : decode cX1_tell 140 = .ok (.dup, 1) := by decide +kernel
theorem dX1_tell_141 : decode cX1_tell 141 = .ok (.getfield 170, 3) := by decide +kernel
theorem dX1_tell_144 : decode cX1_tell 144 = .ok (.iload_n 3, 1) := by decide +kernel
theorem dX1_tell_145 : decode cX1_tell 145 = .ok (.iadd, 1) := by decide +kernel
theorem dX1_tell_146 : decode cX1_tell 146 = .ok (.putfield 170, 3) := by decide +kernel
theorem dX1_tell_149 : decode cX1_tell 149 = .ok (.aload_n 1, 1) := by decide +kernel
theorem dX1_tell_150 : decode cX1_tell 150 = .ok (.dup, 1) := by decide +kernel
theorem dX1_tell_151 : decode cX1_tell 151 = .ok (.getfield 105, 3) := by decide +kernel
theorem dX1_tell_154 : decode cX1_tell 154 = .ok (.iconst 1, 1) := by decide +kernel
theorem dX1_tell_155 : decode cX1_tell 155 = .ok (.iadd, 1) := by decide +kernel
theorem dX1_tell_156 : decode cX1_tell 156 = .ok (.putfield 105, 3) := by decide +kernel
theorem dX1_tell_159 : decode cX1_tell 159 = .ok (.iload_n 3, 1) := by decide +kernel
theorem dX1_tell_160 : decode cX1_tell 160 = .ok (.ireturn, 1) := by decide +kernel
theorem dX1_isSomeAloftAt_0 : decode cX1_isSomeAloftAt 0 = .ok (.iconst 0, 1) := by decide +kernel
theorem dX1_isSomeAloftAt_1 : decode cX1_isSomeAloftAt 1 = .ok (.istore_n 3, 1) := by decide +kernel
theorem dX1_isSomeAloftAt_2 : decode cX1_isSomeAloftAt 2 = .ok (.iload_n 3, 1) := by decide +kernel
theorem dX1_isSomeAloftAt_3 : decode cX1_isSomeAloftAt 3 = .ok (.aload_n 0, 1) := by decide +kernel
theorem dX1_isSomeAloftAt_4 : decode cX1_isSomeAloftAt 4 = .ok (.getfield 9, 3) := by decide +kernel
theorem dX1_isSomeAloftAt_7 : decode cX1_isSomeAloftAt 7 = .ok (.if_icmp .ge 32, 3) := by decide +kernel
theorem dX1_isSomeAloftAt_10 : decode cX1_isSomeAloftAt 10 = .ok (.aload_n 1, 1) := by decide +kernel
theorem dX1_isSomeAloftAt_11 : decode cX1_isSomeAloftAt 11 = .ok (.getfield 95, 3) := by decide +kernel
theorem dX1_isSomeAloftAt_14 : decode cX1_isSomeAloftAt 14 = .ok (.iload_n 3, 1) := by decide +kernel
theorem dX1_isSomeAloftAt_15 : decode cX1_isSomeAloftAt 15 = .ok (.invokestatic 152, 3) := by decide +kernel
theorem dX1_isSomeAloftAt_18 : decode cX1_isSomeAloftAt 18 = .ok (.ifCond .eq 15, 3) := by decide +kernel
theorem dX1_isSomeAloftAt_21 : decode cX1_isSomeAloftAt 21 = .ok (.aload_n 1, 1) := by decide +kernel
theorem dX1_isSomeAloftAt_22 : decode cX1_isSomeAloftAt 22 = .ok (.getfield 89, 3) := by decide +kernel
theorem dX1_isSomeAloftAt_25 : decode cX1_isSomeAloftAt 25 = .ok (.iload_n 3, 1) := by decide +kernel
theorem dX1_isSomeAloftAt_26 : decode cX1_isSomeAloftAt 26 = .ok (.iaload, 1) := by decide +kernel
theorem dX1_isSomeAloftAt_27 : decode cX1_isSomeAloftAt 27 = .ok (.iload_n 2, 1) := by decide +kernel
theorem dX1_isSomeAloftAt_28 : decode cX1_isSomeAloftAt 28 = .ok (.if_icmp .ne 5, 3) := by decide +kernel
theorem dX1_isSomeAloftAt_31 : decode cX1_isSomeAloftAt 31 = .ok (.iconst 1, 1) := by decide +kernel
theorem dX1_isSomeAloftAt_32 : decode cX1_isSomeAloftAt 32 = .ok (.ireturn, 1) := by decide +kernel
theorem dX1_isSomeAloftAt_33 : decode cX1_isSomeAloftAt 33 = .ok (.iinc 3 1, 3) := by decide +kernel
theorem dX1_isSomeAloftAt_36 : decode cX1_isSomeAloftAt 36 = .ok (.goto (-34), 3) := by decide +kernel
theorem dX1_isSomeAloftAt_39 : decode cX1_isSomeAloftAt 39 = .ok (.iconst 0, 1) := by decide +kernel
theorem dX1_isSomeAloftAt_40 : decode cX1_isSomeAloftAt 40 = .ok (.ireturn, 1) := by decide +kernel
theorem dX1_countCases_0 : decode cX1_countCases 0 = .ok (.iconst 0, 1) := by decide +kernel
theorem dX1_countCases_1 : decode cX1_countCases 1 = .ok (.istore_n 1, 1) := by decide +kernel
theorem dX1_countCases_2 : decode cX1_countCases 2 = .ok (.iconst 0, 1) := by decide +kernel
theorem dX1_countCases_3 : decode cX1_countCases 3 = .ok (.istore_n 2, 1) := by decide +kernel
theorem dX1_countCases_4 : decode cX1_countCases 4 = .ok (.iconst 0, 1) := by decide +kernel
theorem dX1_countCases_5 : decode cX1_countCases 5 = .ok (.istore_n 3, 1) := by decide +kernel
theorem dX1_countCases_6 : decode cX1_countCases 6 = .ok (.iload_n 3, 1) := by decide +kernel
theorem dX1_countCases_7 : decode cX1_countCases 7 = .ok (.aload_n 0, 1) := by decide +kernel
theorem dX1_countCases_8 : decode cX1_countCases 8 = .ok (.getfield 9, 3) := by decide +kernel
theorem dX1_countCases_11 : decode cX1_countCases 11 = .ok (.if_icmp .ge 42, 3) := by decide +kernel
theorem dX1_countCases_14 : decode cX1_countCases 14 = .ok (.aload_n 0, 1) := by decide +kernel
theorem dX1_countCases_15 : decode cX1_countCases 15 = .ok (.getfield 62, 3) := by decide +kernel
theorem dX1_countCases_18 : decode cX1_countCases 18 = .ok (.getfield 95, 3) := by decide +kernel
theorem dX1_countCases_21 : decode cX1_countCases 21 = .ok (.iload_n 3, 1) := by decide +kernel
theorem dX1_countCases_22 : decode cX1_countCases 22 = .ok (.invokestatic 152, 3) := by decide +kernel
theorem dX1_countCases_25 : decode cX1_countCases 25 = .ok (.ifCond .eq 22, 3) := by decide +kernel
theorem dX1_countCases_28 : decode cX1_countCases 28 = .ok (.iload_n 2, 1) := by decide +kernel
theorem dX1_countCases_29 : decode cX1_countCases 29 = .ok (.iload_n 3, 1) := by decide +kernel
theorem dX1_countCases_30 : decode cX1_countCases 30 = .ok (.invokestatic 152, 3) := by decide +kernel
theorem dX1_countCases_33 : decode cX1_countCases 33 = .ok (.ifCond .ne 14, 3) := by decide +kernel
theorem dX1_countCases_36 : decode cX1_countCases 36 = .ok (.iinc 1 1, 3) := by decide +kernel
theorem dX1_countCases_39 : decode cX1_countCases 39 = .ok (.iload_n 2, 1) := by decide +kernel
theorem dX1_countCases_40 : decode cX1_countCases 40 = .ok (.aload_n 0, 1) := by decide +kernel
theorem dX1_countCases_41 : decode cX1_countCases 41 = .ok (.iload_n 3, 1) := by decide +kernel
theorem dX1_countCases_42 : decode cX1_countCases 42 = .ok (.invokevirtual 173, 3) := by decide +kernel
theorem dX1_countCases_45 : decode cX1_countCases 45 = .ok (.ior, 1) := by decide +kernel
theorem dX1_countCases_46 : decode cX1_countCases 46 = .ok (.istore_n 2, 1) := by decide +kernel
theorem dX1_countCases_47 : decode cX1_countCases 47 = .ok (.iinc 3 1, 3) := by decide +kernel
theorem dX1_countCases_50 : decode cX1_countCases 50 = .ok (.goto (-44), 3) := by decide +kernel
theorem dX1_countCases_53 : decode cX1_countCases 53 = .ok (.iload_n 1, 1) := by decide +kernel
theorem dX1_countCases_54 : decode cX1_countCases 54 = .ok (.ireturn, 1) := by decide +kernel
theorem dX1_caseOf_0 : decode cX1_caseOf 0 = .ok (.aload_n 0, 1) := by decide +kernel
theorem dX1_caseOf_1 : decode cX1_caseOf 1 = .ok (.getfield 62, 3) := by decide +kernel
theorem dX1_caseOf_4 : decode cX1_caseOf 4 = .ok (.getfield 95, 3) := by decide +kernel
theorem dX1_caseOf_7 : decode cX1_caseOf 7 = .ok (.iconst 1, 1) := by decide +kernel
theorem dX1_caseOf_8 : decode cX1_caseOf 8 = .ok (.iload_n 1, 1) := by decide +kernel
theorem dX1_caseOf_9 : decode cX1_caseOf 9 = .ok (.ishl, 1) := by decide +kernel
theorem dX1_caseOf_10 : decode cX1_caseOf 10 = .ok (.iand, 1) := by decide +kernel
theorem dX1_caseOf_11 : decode cX1_caseOf 11 = .ok (.istore_n 2, 1) := by decide +kernel
theorem dX1_caseOf_12 : decode cX1_caseOf 12 = .ok (.iconst 0, 1) := by decide +kernel
theorem dX1_caseOf_13 : decode cX1_caseOf 13 = .ok (.istore_n 3, 1) := by decide +kernel
theorem dX1_caseOf_14 : decode cX1_caseOf 14 = .ok (.iload_n 3, 1) := by decide +kernel
theorem dX1_caseOf_15 : decode cX1_caseOf 15 = .ok (.aload_n 0, 1) := by decide +kernel
theorem dX1_caseOf_16 : decode cX1_caseOf 16 = .ok (.getfield 9, 3) := by decide +kernel
theorem dX1_caseOf_19 : decode cX1_caseOf 19 = .ok (.if_icmp .ge 60, 3) := by decide +kernel
theorem dX1_caseOf_22 : decode cX1_caseOf 22 = .ok (.iconst 0, 1) := by decide +kernel
theorem dX1_caseOf_23 : decode cX1_caseOf 23 = .ok (.istore 4, 2) := by decide +kernel
theorem dX1_caseOf_25 : decode cX1_caseOf 25 = .ok (.iload 4, 2) := by decide +kernel
theorem dX1_caseOf_27 : decode cX1_caseOf 27 = .ok (.aload_n 0, 1) := by decide +kernel
theorem dX1_caseOf_28 : decode cX1_caseOf 28 = .ok (.getfield 9, 3) := by decide +kernel
theorem dX1_caseOf_31 : decode cX1_caseOf 31 = .ok (.if_icmp .ge 42, 3) := by decide +kernel
theorem dX1_caseOf_34 : decode cX1_caseOf 34 = .ok (.aload_n 0, 1) := by decide +kernel
theorem dX1_caseOf_35 : decode cX1_caseOf 35 = .ok (.getfield 62, 3) := by decide +kernel
theorem dX1_caseOf_38 : decode cX1_caseOf 38 = .ok (.getfield 95, 3) := by decide +kernel
theorem dX1_caseOf_41 : decode cX1_caseOf 41 = .ok (.iload 4, 2) := by decide +kernel
theorem dX1_caseOf_43 : decode cX1_caseOf 43 = .ok (.invokestatic 152, 3) := by decide +kernel
theorem dX1_caseOf_46 : decode cX1_caseOf 46 = .ok (.ifCond .eq 21, 3) := by decide +kernel
theorem dX1_caseOf_49 : decode cX1_caseOf 49 = .ok (.aload_n 0, 1) := by decide +kernel
theorem dX1_caseOf_50 : decode cX1_caseOf 50 = .ok (.iload 4, 2) := by decide +kernel
theorem dX1_caseOf_52 : decode cX1_caseOf 52 = .ok (.iload_n 2, 1) := by decide +kernel
theorem dX1_caseOf_53 : decode cX1_caseOf 53 = .ok (.invokevirtual 176, 3) := by decide +kernel
theorem dX1_caseOf_56 : decode cX1_caseOf 56 = .ok (.ifCond .eq 11, 3) := by decide +kernel
theorem dX1_caseOf_59 : decode cX1_caseOf 59 = .ok (.iload_n 2, 1) := by decide +kernel
theorem dX1_caseOf_60 : decode cX1_caseOf 60 = .ok (.iload 4, 2) := by decide +kernel
theorem dX1_caseOf_62 : decode cX1_caseOf 62 = .ok (.iconst 1, 1) := by decide +kernel
theorem dX1_caseOf_63 : decode cX1_caseOf 63 = .ok (.invokestatic 98, 3) := by decide +kernel
theorem dX1_caseOf_66 : decode cX1_caseOf 66 = .ok (.istore_n 2, 1) := by decide +kernel
theorem dX1_caseOf_67 : decode cX1_caseOf 67 = .ok (.iinc 4 1, 3) := by decide +kernel
theorem dX1_caseOf_70 : decode cX1_caseOf 70 = .ok (.goto (-45), 3) := by decide +kernel
theorem dX1_caseOf_73 : decode cX1_caseOf 73 = .ok (.iinc 3 1, 3) := by decide +kernel
theorem dX1_caseOf_76 : decode cX1_caseOf 76 = .ok (.goto (-62), 3) := by decide +kernel
theorem dX1_caseOf_79 : decode cX1_caseOf 79 = .ok (.iload_n 2, 1) := by decide +kernel
theorem dX1_caseOf_80 : decode cX1_caseOf 80 = .ok (.ireturn, 1) := by decide +kernel
theorem dX1_isTangledWithSome_0 : decode cX1_isTangledWithSome 0 = .ok (.aload_n 0, 1) := by decide +kernel
theorem dX1_isTangledWithSome_1 : decode cX1_isTangledWithSome 1 = .ok (.getfield 62, 3) := by decide +kernel
theorem dX1_isTangledWithSome_4 : decode cX1_isTangledWithSome 4 = .ok (.getfield 89, 3) := by decide +kernel
theorem dX1_isTangledWithSome_7 : decode cX1_isTangledWithSome 7 = .ok (.iload_n 1, 1) := by decide +kernel
theorem dX1_isTangledWithSome_8 : decode cX1_isTangledWithSome 8 = .ok (.iaload, 1) := by decide +kernel
theorem dX1_isTangledWithSome_9 : decode cX1_isTangledWithSome 9 = .ok (.istore_n 3, 1) := by decide +kernel
theorem dX1_isTangledWithSome_10 : decode cX1_isTangledWithSome 10 = .ok (.iconst 0, 1) := by decide +kernel
theorem dX1_isTangledWithSome_11 : decode cX1_isTangledWithSome 11 = .ok (.istore 4, 2) := by decide +kernel
theorem dX1_isTangledWithSome_13 : decode cX1_isTangledWithSome 13 = .ok (.iload 4, 2) := by decide +kernel
theorem dX1_isTangledWithSome_15 : decode cX1_isTangledWithSome 15 = .ok (.aload_n 0, 1) := by decide +kernel
theorem dX1_isTangledWithSome_16 : decode cX1_isTangledWithSome 16 = .ok (.getfield 9, 3) := by decide +kernel
theorem dX1_isTangledWithSome_19 : decode cX1_isTangledWithSome 19 = .ok (.if_icmp .ge 64, 3) := by decide +kernel
theorem dX1_isTangledWithSome_22 : decode cX1_isTangledWithSome 22 = .ok (.aload_n 0, 1) := by decide +kernel
theorem dX1_isTangledWithSome_23 : decode cX1_isTangledWithSome 23 = .ok (.getfield 62, 3) := by decide +kernel
theorem dX1_isTangledWithSome_26 : decode cX1_isTangledWithSome 26 = .ok (.getfield 89, 3) := by decide +kernel
theorem dX1_isTangledWithSome_29 : decode cX1_isTangledWithSome 29 = .ok (.iload 4, 2) := by decide +kernel
theorem dX1_isTangledWithSome_31 : decode cX1_isTangledWithSome 31 = .ok (.iaload, 1) := by decide +kernel
theorem dX1_isTangledWithSome_32 : decode cX1_isTangledWithSome 32 = .ok (.istore 5, 2) := by decide +kernel
theorem dX1_isTangledWithSome_34 : decode cX1_isTangledWithSome 34 = .ok (.iload_n 2, 1) := by decide +kernel
theorem dX1_isTangledWithSome_35 : decode cX1_isTangledWithSome 35 = .ok (.iload 4, 2) := by decide +kernel
theorem dX1_isTangledWithSome_37 : decode cX1_isTangledWithSome 37 = .ok (.invokestatic 152, 3) := by decide +kernel
theorem dX1_isTangledWithSome_40 : decode cX1_isTangledWithSome 40 = .ok (.ifCond .eq 37, 3) := by decide +kernel
theorem dX1_isTangledWithSome_43 : decode cX1_isTangledWithSome 43 = .ok (.iload_n 3, 1) := by decide +kernel
theorem dX1_isTangledWithSome_44 : decode cX1_isTangledWithSome 44 = .ok (.bipush 7, 2) := by decide +kernel
theorem dX1_isTangledWithSome_46 : decode cX1_isTangledWithSome 46 = .ok (.iand, 1) := by decide +kernel
theorem dX1_isTangledWithSome_47 : decode cX1_isTangledWithSome 47 = .ok (.iload 5, 2) := by decide +kernel
theorem dX1_isTangledWithSome_49 : decode cX1_isTangledWithSome 49 = .ok (.bipush 7, 2) := by decide +kernel
theorem dX1_isTangledWithSome_51 : decode cX1_isTangledWithSome 51 = .ok (.iand, 1) := by decide +kernel
theorem dX1_isTangledWithSome_52 : decode cX1_isTangledWithSome 52 = .ok (.isub, 1) := by decide +kernel
theorem dX1_isTangledWithSome_53 : decode cX1_isTangledWithSome 53 = .ok (.invokestatic 179, 3) := by decide +kernel
theorem dX1_isTangledWithSome_56 : decode cX1_isTangledWithSome 56 = .ok (.iconst 1, 1) := by decide +kernel
theorem dX1_isTangledWithSome_57 : decode cX1_isTangledWithSome 57 = .ok (.if_icmp .gt 20, 3) := by decide +kernel
theorem dX1_isTangledWithSome_60 : decode cX1_isTangledWithSome 60 = .ok (.iload_n 3, 1) := by decide +kernel
theorem dX1_isTangledWithSome_61 : decode cX1_isTangledWithSome 61 = .ok (.iconst 3, 1) := by decide +kernel
theorem dX1_isTangledWithSome_62 : decode cX1_isTangledWithSome 62 = .ok (.ishr, 1) := by decide +kernel
theorem dX1_isTangledWithSome_63 : decode cX1_isTangledWithSome 63 = .ok (.iload 5, 2) := by decide +kernel
theorem dX1_isTangledWithSome_65 : decode cX1_isTangledWithSome 65 = .ok (.iconst 3, 1) := by decide +kernel
theorem dX1_isTangledWithSome_66 : decode cX1_isTangledWithSome 66 = .ok (.ishr, 1) := by decide +kernel
theorem dX1_isTangledWithSome_67 : decode cX1_isTangledWithSome 67 = .ok (.isub, 1) := by decide +kernel
theorem dX1_isTangledWithSome_68 : decode cX1_isTangledWithSome 68 = .ok (.invokestatic 179, 3) := by decide +kernel
theorem dX1_isTangledWithSome_71 : decode cX1_isTangledWithSome 71 = .ok (.iconst 1, 1) := by decide +kernel
theorem dX1_isTangledWithSome_72 : decode cX1_isTangledWithSome 72 = .ok (.if_icmp .gt 5, 3) := by decide +kernel
theorem dX1_isTangledWithSome_75 : decode cX1_isTangledWithSome 75 = .ok (.iconst 1, 1) := by decide +kernel
theorem dX1_isTangledWithSome_76 : decode cX1_isTangledWithSome 76 = .ok (.ireturn, 1) := by decide +kernel
theorem dX1_isTangledWithSome_77 : decode cX1_isTangledWithSome 77 = .ok (.iinc 4 1, 3) := by decide +kernel
theorem dX1_isTangledWithSome_80 : decode cX1_isTangledWithSome 80 = .ok (.goto (-67), 3) := by decide +kernel
theorem dX1_isTangledWithSome_83 : decode cX1_isTangledWithSome 83 = .ok (.iconst 0, 1) := by decide +kernel
theorem dX1_isTangledWithSome_84 : decode cX1_isTangledWithSome 84 = .ok (.ireturn, 1) := by decide +kernel
theorem dX1_countFitting_0 : decode cX1_countFitting 0 = .ok (.iconst 0, 1) := by decide +kernel
theorem dX1_countFitting_1 : decode cX1_countFitting 1 = .ok (.istore_n 1, 1) := by decide +kernel
theorem dX1_countFitting_2 : decode cX1_countFitting 2 = .ok (.iconst 1, 1) := by decide +kernel
theorem dX1_countFitting_3 : decode cX1_countFitting 3 = .ok (.istore_n 2, 1) := by decide +kernel
theorem dX1_countFitting_4 : decode cX1_countFitting 4 = .ok (.iload_n 2, 1) := by decide +kernel
theorem dX1_countFitting_5 : decode cX1_countFitting 5 = .ok (.iconst 5, 1) := by decide +kernel
theorem dX1_countFitting_6 : decode cX1_countFitting 6 = .ok (.if_icmp .gt 37, 3) := by decide +kernel
theorem dX1_countFitting_9 : decode cX1_countFitting 9 = .ok (.iconst 0, 1) := by decide +kernel
theorem dX1_countFitting_10 : decode cX1_countFitting 10 = .ok (.istore_n 3, 1) := by decide +kernel
theorem dX1_countFitting_11 : decode cX1_countFitting 11 = .ok (.iload_n 3, 1) := by decide +kernel
theorem dX1_countFitting_12 : decode cX1_countFitting 12 = .ok (.bipush 63, 2) := by decide +kernel
theorem dX1_countFitting_14 : decode cX1_countFitting 14 = .ok (.if_icmp .gt 23, 3) := by decide +kernel
theorem dX1_countFitting_17 : decode cX1_countFitting 17 = .ok (.aload_n 0, 1) := by decide +kernel
theorem dX1_countFitting_18 : decode cX1_countFitting 18 = .ok (.iload_n 2, 1) := by decide +kernel
theorem dX1_countFitting_19 : decode cX1_countFitting 19 = .ok (.iload_n 3, 1) := by decide +kernel
theorem dX1_countFitting_20 : decode cX1_countFitting 20 = .ok (.bipush (-3), 2) := by decide +kernel
theorem dX1_countFitting_22 : decode cX1_countFitting 22 = .ok (.invokevirtual 182, 3) := by decide +kernel
theorem dX1_countFitting_25 : decode cX1_countFitting 25 = .ok (.ifCond .eq 6, 3) := by decide +kernel
theorem dX1_countFitting_28 : decode cX1_countFitting 28 = .ok (.iinc 1 1, 3) := by decide +kernel
theorem dX1_countFitting_31 : decode cX1_countFitting 31 = .ok (.iinc 3 1, 3) := by decide +kernel
theorem dX1_countFitting_34 : decode cX1_countFitting 34 = .ok (.goto (-23), 3) := by decide +kernel
theorem dX1_countFitting_37 : decode cX1_countFitting 37 = .ok (.iinc 2 1, 3) := by decide +kernel
theorem dX1_countFitting_40 : decode cX1_countFitting 40 = .ok (.goto (-36), 3) := by decide +kernel
theorem dX1_countFitting_43 : decode cX1_countFitting 43 = .ok (.iload_n 1, 1) := by decide +kernel
theorem dX1_countFitting_44 : decode cX1_countFitting 44 = .ok (.ireturn, 1) := by decide +kernel
theorem dX1_firstFitting_0 : decode cX1_firstFitting 0 = .ok (.iconst 1, 1) := by decide +kernel
theorem dX1_firstFitting_1 : decode cX1_firstFitting 1 = .ok (.istore_n 2, 1) := by decide +kernel
theorem dX1_firstFitting_2 : decode cX1_firstFitting 2 = .ok (.iload_n 2, 1) := by decide +kernel
theorem dX1_firstFitting_3 : decode cX1_firstFitting 3 = .ok (.iconst 5, 1) := by decide +kernel
theorem dX1_firstFitting_4 : decode cX1_firstFitting 4 = .ok (.if_icmp .gt 40, 3) := by decide +kernel
theorem dX1_firstFitting_7 : decode cX1_firstFitting 7 = .ok (.iconst 0, 1) := by decide +kernel
theorem dX1_firstFitting_8 : decode cX1_firstFitting 8 = .ok (.istore_n 3, 1) := by decide +kernel
theorem dX1_firstFitting_9 : decode cX1_firstFitting 9 = .ok (.iload_n 3, 1) := by decide +kernel
theorem dX1_firstFitting_10 : decode cX1_firstFitting 10 = .ok (.bipush 63, 2) := by decide +kernel
theorem dX1_firstFitting_12 : decode cX1_firstFitting 12 = .ok (.if_icmp .gt 26, 3) := by decide +kernel
theorem dX1_firstFitting_15 : decode cX1_firstFitting 15 = .ok (.aload_n 0, 1) := by decide +kernel
theorem dX1_firstFitting_16 : decode cX1_firstFitting 16 = .ok (.iload_n 2, 1) := by decide +kernel
theorem dX1_firstFitting_17 : decode cX1_firstFitting 17 = .ok (.iload_n 3, 1) := by decide +kernel
theorem dX1_firstFitting_18 : decode cX1_firstFitting 18 = .ok (.iload_n 1, 1) := by decide +kernel
theorem dX1_firstFitting_19 : decode cX1_firstFitting 19 = .ok (.invokevirtual 182, 3) := by decide +kernel
theorem dX1_firstFitting_22 : decode cX1_firstFitting 22 = .ok (.ifCond .eq 10, 3) := by decide +kernel
theorem dX1_firstFitting_25 : decode cX1_firstFitting 25 = .ok (.iload_n 2, 1) := by decide +kernel
theorem dX1_firstFitting_26 : decode cX1_firstFitting 26 = .ok (.bipush 64, 2) := by decide +kernel
theorem dX1_firstFitting_28 : decode cX1_firstFitting 28 = .ok (.imul, 1) := by decide +kernel
theorem dX1_firstFitting_29 : decode cX1_firstFitting 29 = .ok (.iload_n 3, 1) := by decide +kernel
theorem dX1_firstFitting_30 : decode cX1_firstFitting 30 = .ok (.iadd, 1) := by decide +kernel
theorem dX1_firstFitting_31 : decode cX1_firstFitting 31 = .ok (.ireturn, 1) := by decide +kernel
theorem dX1_firstFitting_32 : decode cX1_firstFitting 32 = .ok (.iinc 3 1, 3) := by decide +kernel
theorem dX1_firstFitting_35 : decode cX1_firstFitting 35 = .ok (.goto (-26), 3) := by decide +kernel
theorem dX1_firstFitting_38 : decode cX1_firstFitting 38 = .ok (.iinc 2 1, 3) := by decide +kernel
theorem dX1_firstFitting_41 : decode cX1_firstFitting 41 = .ok (.goto (-39), 3) := by decide +kernel
theorem dX1_firstFitting_44 : decode cX1_firstFitting 44 = .ok (.bipush (-3), 2) := by decide +kernel
theorem dX1_firstFitting_46 : decode cX1_firstFitting 46 = .ok (.ireturn, 1) := by decide +kernel
theorem dX1_fits_0 : decode cX1_fits 0 = .ok (.iload_n 2, 1) := by decide +kernel
theorem dX1_fits_1 : decode cX1_fits 1 = .ok (.istore 4, 2) := by decide +kernel
theorem dX1_fits_3 : decode cX1_fits 3 = .ok (.bipush 9, 2) := by decide +kernel
theorem dX1_fits_5 : decode cX1_fits 5 = .ok (.istore 5, 2) := by decide +kernel
theorem dX1_fits_7 : decode cX1_fits 7 = .ok (.iconst 0, 1) := by decide +kernel
theorem dX1_fits_8 : decode cX1_fits 8 = .ok (.istore 6, 2) := by decide +kernel
theorem dX1_fits_10 : decode cX1_fits 10 = .ok (.iload 6, 2) := by decide +kernel
theorem dX1_fits_12 : decode cX1_fits 12 = .ok (.bipush 16, 2) := by decide +kernel
theorem dX1_fits_14 : decode cX1_fits 14 = .ok (.if_icmp .ge 95, 3) := by decide +kernel
theorem dX1_fits_17 : decode cX1_fits 17 = .ok (.aload_n 0, 1) := by decide +kernel
theorem dX1_fits_18 : decode cX1_fits 18 = .ok (.iload 6, 2) := by decide +kernel
theorem dX1_fits_20 : decode cX1_fits 20 = .ok (.iload 4, 2) := by decide +kernel
theorem dX1_fits_22 : decode cX1_fits 22 = .ok (.iload_n 3, 1) := by decide +kernel
theorem dX1_fits_23 : decode cX1_fits 23 = .ok (.invokevirtual 185, 3) := by decide +kernel
theorem dX1_fits_26 : decode cX1_fits 26 = .ok (.ifCond .ne 5, 3) := by decide +kernel
theorem dX1_fits_29 : decode cX1_fits 29 = .ok (.iconst 0, 1) := by decide +kernel
theorem dX1_fits_30 : decode cX1_fits 30 = .ok (.ireturn, 1) := by decide +kernel
theorem dX1_fits_31 : decode cX1_fits 31 = .ok (.aload_n 0, 1) := by decide +kernel
theorem dX1_fits_32 : decode cX1_fits 32 = .ok (.getfield 31, 3) := by decide +kernel
theorem dX1_fits_35 : decode cX1_fits 35 = .ok (.iload 6, 2) := by decide +kernel
theorem dX1_fits_37 : decode cX1_fits 37 = .ok (.iaload, 1) := by decide +kernel
theorem dX1_fits_38 : decode cX1_fits 38 = .ok (.iconst 4, 1) := by decide +kernel
theorem dX1_fits_39 : decode cX1_fits 39 = .ok (.irem, 1) := by decide +kernel
theorem dX1_fits_40 : decode cX1_fits 40 = .ok (.istore 7, 2) := by decide +kernel
theorem dX1_fits_42 : decode cX1_fits 42 = .ok (.aload_n 0, 1) := by decide +kernel
theorem dX1_fits_43 : decode cX1_fits 43 = .ok (.getfield 66, 3) := by decide +kernel
theorem dX1_fits_46 : decode cX1_fits 46 = .ok (.iload_n 1, 1) := by decide +kernel
theorem dX1_fits_47 : decode cX1_fits 47 = .ok (.aaload, 1) := by decide +kernel
theorem dX1_fits_48 : decode cX1_fits 48 = .ok (.aload_n 0, 1) := by decide +kernel
theorem dX1_fits_49 : decode cX1_fits 49 = .ok (.getfield 31, 3) := by decide +kernel
theorem dX1_fits_52 : decode cX1_fits 52 = .ok (.iload 6, 2) := by decide +kernel
theorem dX1_fits_54 : decode cX1_fits 54 = .ok (.iaload, 1) := by decide +kernel
theorem dX1_fits_55 : decode cX1_fits 55 = .ok (.iconst 4, 1) := by decide +kernel
theorem dX1_fits_56 : decode cX1_fits 56 = .ok (.idiv, 1) := by decide +kernel
theorem dX1_fits_57 : decode cX1_fits 57 = .ok (.iload 6, 2) := by decide +kernel
theorem dX1_fits_59 : decode cX1_fits 59 = .ok (.invokevirtual 116, 3) := by decide +kernel
theorem dX1_fits_62 : decode cX1_fits 62 = .ok (.istore 8, 2) := by decide +kernel
theorem dX1_fits_64 : decode cX1_fits 64 = .ok (.iload 8, 2) := by decide +kernel
theorem dX1_fits_66 : decode cX1_fits 66 = .ok (.iload 5, 2) := by decide +kernel
theorem dX1_fits_68 : decode cX1_fits 68 = .ok (.invokestatic 156, 3) := by decide +kernel
theorem dX1_fits_71 : decode cX1_fits 71 = .ok (.iload 4, 2) := by decide +kernel
theorem dX1_fits_73 : decode cX1_fits 73 = .ok (.iload 7, 2) := by decide +kernel
theorem dX1_fits_75 : decode cX1_fits 75 = .ok (.invokestatic 161, 3) := by decide +kernel
theorem dX1_fits_78 : decode cX1_fits 78 = .ok (.invokestatic 156, 3) := by decide +kernel
theorem dX1_fits_81 : decode cX1_fits 81 = .ok (.istore 9, 2) := by decide +kernel
theorem dX1_fits_83 : decode cX1_fits 83 = .ok (.iload 4, 2) := by decide +kernel
theorem dX1_fits_85 : decode cX1_fits 85 = .ok (.iload 9, 2) := by decide +kernel
theorem dX1_fits_87 : decode cX1_fits 87 = .ok (.iload 7, 2) := by decide +kernel
theorem dX1_fits_89 : decode cX1_fits 89 = .ok (.invokestatic 164, 3) := by decide +kernel
theorem dX1_fits_92 : decode cX1_fits 92 = .ok (.imul, 1) := by decide +kernel
theorem dX1_fits_93 : decode cX1_fits 93 = .ok (.iadd, 1) := by decide +kernel
theorem dX1_fits_94 : decode cX1_fits 94 = .ok (.istore 4, 2) := by decide +kernel
theorem dX1_fits_96 : decode cX1_fits 96 = .ok (.iload 5, 2) := by decide +kernel
theorem dX1_fits_98 : decode cX1_fits 98 = .ok (.iload 9, 2) := by decide +kernel
theorem dX1_fits_100 : decode cX1_fits 100 = .ok (.isub, 1) := by decide +kernel
theorem dX1_fits_101 : decode cX1_fits 101 = .ok (.istore 5, 2) := by decide +kernel
theorem dX1_fits_103 : decode cX1_fits 103 = .ok (.iinc 6 1, 3) := by decide +kernel
theorem dX1_fits_106 : decode cX1_fits 106 = .ok (.goto (-96), 3) := by decide +kernel
theorem dX1_fits_109 : decode cX1_fits 109 = .ok (.iconst 1, 1) := by decide +kernel
theorem dX1_fits_110 : decode cX1_fits 110 = .ok (.ireturn, 1) := by decide +kernel
theorem dX1_isAsReported_0 : decode cX1_isAsReported 0 = .ok (.iconst 0, 1) := by decide +kernel
theorem dX1_isAsReported_1 : decode cX1_isAsReported 1 = .ok (.istore 4, 2) := by decide +kernel
theorem dX1_isAsReported_3 : decode cX1_isAsReported 3 = .ok (.iload 4, 2) := by decide +kernel
theorem dX1_isAsReported_5 : decode cX1_isAsReported 5 = .ok (.aload_n 0, 1) := by decide +kernel
theorem dX1_isAsReported_6 : decode cX1_isAsReported 6 = .ok (.getfield 21, 3) := by decide +kernel
theorem dX1_isAsReported_9 : decode cX1_isAsReported 9 = .ok (.if_icmp .ge 72, 3) := by decide +kernel
theorem dX1_isAsReported_12 : decode cX1_isAsReported 12 = .ok (.iload 4, 2) := by decide +kernel
theorem dX1_isAsReported_14 : decode cX1_isAsReported 14 = .ok (.iload_n 3, 1) := by decide +kernel
theorem dX1_isAsReported_15 : decode cX1_isAsReported 15 = .ok (.if_icmp .eq 60, 3) := by decide +kernel
theorem dX1_isAsReported_18 : decode cX1_isAsReported 18 = .ok (.aload_n 0, 1) := by decide +kernel
theorem dX1_isAsReported_19 : decode cX1_isAsReported 19 = .ok (.getfield 40, 3) := by decide +kernel
theorem dX1_isAsReported_22 : decode cX1_isAsReported 22 = .ok (.iload 4, 2) := by decide +kernel
theorem dX1_isAsReported_24 : decode cX1_isAsReported 24 = .ok (.iaload, 1) := by decide +kernel
theorem dX1_isAsReported_25 : decode cX1_isAsReported 25 = .ok (.iload_n 1, 1) := by decide +kernel
theorem dX1_isAsReported_26 : decode cX1_isAsReported 26 = .ok (.if_icmp .ne 49, 3) := by decide +kernel
theorem dX1_isAsReported_29 : decode cX1_isAsReported 29 = .ok (.aload_n 0, 1) := by decide +kernel
theorem dX1_isAsReported_30 : decode cX1_isAsReported 30 = .ok (.getfield 43, 3) := by decide +kernel
theorem dX1_isAsReported_33 : decode cX1_isAsReported 33 = .ok (.iload 4, 2) := by decide +kernel
theorem dX1_isAsReported_35 : decode cX1_isAsReported 35 = .ok (.iaload, 1) := by decide +kernel
theorem dX1_isAsReported_36 : decode cX1_isAsReported 36 = .ok (.ifCond .ne 10, 3) := by decide +kernel
theorem dX1_isAsReported_39 : decode cX1_isAsReported 39 = .ok (.iload_n 2, 1) := by decide +kernel
theorem dX1_isAsReported_40 : decode cX1_isAsReported 40 = .ok (.bipush 7, 2) := by decide +kernel
theorem dX1_isAsReported_42 : decode cX1_isAsReported 42 = .ok (.iand, 1) := by decide +kernel
theorem dX1_isAsReported_43 : decode cX1_isAsReported 43 = .ok (.goto 6, 3) := by decide +kernel
theorem dX1_isAsReported_46 : decode cX1_isAsReported 46 = .ok (.iload_n 2, 1) := by decide +kernel
theorem dX1_isAsReported_47 : decode cX1_isAsReported 47 = .ok (.iconst 3, 1) := by decide +kernel
theorem dX1_isAsReported_48 : decode cX1_isAsReported 48 = .ok (.ishr, 1) := by decide +kernel
theorem dX1_isAsReported_49 : decode cX1_isAsReported 49 = .ok (.istore 5, 2) := by decide +kernel
theorem dX1_isAsReported_51 : decode cX1_isAsReported 51 = .ok (.iload 5, 2) := by decide +kernel
theorem dX1_isAsReported_53 : decode cX1_isAsReported 53 = .ok (.aload_n 0, 1) := by decide +kernel
theorem dX1_isAsReported_54 : decode cX1_isAsReported 54 = .ok (.getfield 46, 3) := by decide +kernel
theorem dX1_isAsReported_57 : decode cX1_isAsReported 57 = .ok (.iload 4, 2) := by decide +kernel
theorem dX1_isAsReported_59 : decode cX1_isAsReported 59 = .ok (.iaload, 1) := by decide +kernel
theorem dX1_isAsReported_60 : decode cX1_isAsReported 60 = .ok (.aload_n 0, 1) := by decide +kernel
theorem dX1_isAsReported_61 : decode cX1_isAsReported 61 = .ok (.getfield 49, 3) := by decide +kernel
theorem dX1_isAsReported_64 : decode cX1_isAsReported 64 = .ok (.iload 4, 2) := by decide +kernel
theorem dX1_isAsReported_66 : decode cX1_isAsReported 66 = .ok (.iaload, 1) := by decide +kernel
theorem dX1_isAsReported_67 : decode cX1_isAsReported 67 = .ok (.invokestatic 108, 3) := by decide +kernel
theorem dX1_isAsReported_70 : decode cX1_isAsReported 70 = .ok (.ifCond .ne 5, 3) := by decide +kernel
theorem dX1_isAsReported_73 : decode cX1_isAsReported 73 = .ok (.iconst 0, 1) := by decide +kernel
theorem dX1_isAsReported_74 : decode cX1_isAsReported 74 = .ok (.ireturn, 1) := by decide +kernel
theorem dX1_isAsReported_75 : decode cX1_isAsReported 75 = .ok (.iinc 4 1, 3) := by decide +kernel
theorem dX1_isAsReported_78 : decode cX1_isAsReported 78 = .ok (.goto (-75), 3) := by decide +kernel
theorem dX1_isAsReported_81 : decode cX1_isAsReported 81 = .ok (.iconst 1, 1) := by decide +kernel
theorem dX1_isAsReported_82 : decode cX1_isAsReported 82 = .ok (.ireturn, 1) := by decide +kernel
theorem dX2_init_0 : decode cX2_init 0 = .ok (.aload_n 0, 1) := by decide +kernel
theorem dX2_init_1 : decode cX2_init 1 = .ok (.aload_n 1, 1) := by decide +kernel
theorem dX2_init_2 : decode cX2_init 2 = .ok (.invokespecial 1, 3) := by decide +kernel
theorem dX2_init_5 : decode cX2_init 5 = .ok (.return_, 1) := by decide +kernel
theorem dX2_drifts_0 : decode cX2_drifts 0 = .ok (.iconst 0, 1) := by decide +kernel
theorem dX2_drifts_1 : decode cX2_drifts 1 = .ok (.aload_n 0, 1) := by decide +kernel
theorem dX2_drifts_2 : decode cX2_drifts 2 = .ok (.iload_n 1, 1) := by decide +kernel
theorem dX2_drifts_3 : decode cX2_drifts 3 = .ok (.iload_n 2, 1) := by decide +kernel
theorem dX2_drifts_4 : decode cX2_drifts 4 = .ok (.invokespecial 7, 3) := by decide +kernel
theorem dX2_drifts_7 : decode cX2_drifts 7 = .ok (.iconst 1, 1) := by decide +kernel
theorem dX2_drifts_8 : decode cX2_drifts 8 = .ok (.isub, 1) := by decide +kernel
theorem dX2_drifts_9 : decode cX2_drifts 9 = .ok (.invokestatic 11, 3) := by decide +kernel
theorem dX2_drifts_12 : decode cX2_drifts 12 = .ok (.ireturn, 1) := by decide +kernel
theorem dX2_fee_0 : decode cX2_fee 0 = .ok (.aload_n 0, 1) := by decide +kernel
theorem dX2_fee_1 : decode cX2_fee 1 = .ok (.iload_n 1, 1) := by decide +kernel
theorem dX2_fee_2 : decode cX2_fee 2 = .ok (.invokespecial 16, 3) := by decide +kernel
theorem dX2_fee_5 : decode cX2_fee 5 = .ok (.iload_n 1, 1) := by decide +kernel
theorem dX2_fee_6 : decode cX2_fee 6 = .ok (.iadd, 1) := by decide +kernel
theorem dX2_fee_7 : decode cX2_fee 7 = .ok (.ireturn, 1) := by decide +kernel
theorem dX2_reads_0 : decode cX2_reads 0 = .ok (.aload_n 0, 1) := by decide +kernel
theorem dX2_reads_1 : decode cX2_reads 1 = .ok (.bipush 30, 2) := by decide +kernel
theorem dX2_reads_3 : decode cX2_reads 3 = .ok (.invokevirtual 20, 3) := by decide +kernel
theorem dX2_reads_6 : decode cX2_reads 6 = .ok (.aload_n 0, 1) := by decide +kernel
theorem dX2_reads_7 : decode cX2_reads 7 = .ok (.iload_n 1, 1) := by decide +kernel
theorem dX2_reads_8 : decode cX2_reads 8 = .ok (.aload_n 0, 1) := by decide +kernel
theorem dX2_reads_9 : decode cX2_reads 9 = .ok (.getfield 26, 3) := by decide +kernel
theorem dX2_reads_12 : decode cX2_reads 12 = .ok (.iadd, 1) := by decide +kernel
theorem dX2_reads_13 : decode cX2_reads 13 = .ok (.invokespecial 30, 3) := by decide +kernel
theorem dX2_reads_16 : decode cX2_reads 16 = .ok (.ireturn, 1) := by decide +kernel
theorem dX3_init_0 : decode cX3_init 0 = .ok (.aload_n 0, 1) := by decide +kernel
theorem dX3_init_1 : decode cX3_init 1 = .ok (.aload_n 1, 1) := by decide +kernel
theorem dX3_init_2 : decode cX3_init 2 = .ok (.invokespecial 1, 3) := by decide +kernel
theorem dX3_init_5 : decode cX3_init 5 = .ok (.return_, 1) := by decide +kernel
theorem dX3_drifts_0 : decode cX3_drifts 0 = .ok (.aload_n 0, 1) := by decide +kernel
theorem dX3_drifts_1 : decode cX3_drifts 1 = .ok (.iload_n 1, 1) := by decide +kernel
theorem dX3_drifts_2 : decode cX3_drifts 2 = .ok (.iload_n 2, 1) := by decide +kernel
theorem dX3_drifts_3 : decode cX3_drifts 3 = .ok (.invokespecial 7, 3) := by decide +kernel
theorem dX3_drifts_6 : decode cX3_drifts 6 = .ok (.iload_n 2, 1) := by decide +kernel
theorem dX3_drifts_7 : decode cX3_drifts 7 = .ok (.iconst 2, 1) := by decide +kernel
theorem dX3_drifts_8 : decode cX3_drifts 8 = .ok (.irem, 1) := by decide +kernel
theorem dX3_drifts_9 : decode cX3_drifts 9 = .ok (.ifCond .ne 7, 3) := by decide +kernel
theorem dX3_drifts_12 : decode cX3_drifts 12 = .ok (.iconst 1, 1) := by decide +kernel
theorem dX3_drifts_13 : decode cX3_drifts 13 = .ok (.goto 4, 3) := by decide +kernel
theorem dX3_drifts_16 : decode cX3_drifts 16 = .ok (.iconst 0, 1) := by decide +kernel
theorem dX3_drifts_17 : decode cX3_drifts 17 = .ok (.iadd, 1) := by decide +kernel
theorem dX3_drifts_18 : decode cX3_drifts 18 = .ok (.ireturn, 1) := by decide +kernel
theorem dX3_fee_0 : decode cX3_fee 0 = .ok (.aload_n 0, 1) := by decide +kernel
theorem dX3_fee_1 : decode cX3_fee 1 = .ok (.iload_n 1, 1) := by decide +kernel
theorem dX3_fee_2 : decode cX3_fee 2 = .ok (.invokespecial 11, 3) := by decide +kernel
theorem dX3_fee_5 : decode cX3_fee 5 = .ok (.iconst 2, 1) := by decide +kernel
theorem dX3_fee_6 : decode cX3_fee 6 = .ok (.imul, 1) := by decide +kernel
theorem dX3_fee_7 : decode cX3_fee 7 = .ok (.ireturn, 1) := by decide +kernel
theorem dX3_flies_0 : decode cX3_flies 0 = .ok (.aload_n 0, 1) := by decide +kernel
theorem dX3_flies_1 : decode cX3_flies 1 = .ok (.bipush 50, 2) := by decide +kernel
theorem dX3_flies_3 : decode cX3_flies 3 = .ok (.invokevirtual 15, 3) := by decide +kernel
theorem dX3_flies_6 : decode cX3_flies 6 = .ok (.aload_n 0, 1) := by decide +kernel
theorem dX3_flies_7 : decode cX3_flies 7 = .ok (.iload_n 1, 1) := by decide +kernel
theorem dX3_flies_8 : decode cX3_flies 8 = .ok (.invokespecial 21, 3) := by decide +kernel
theorem dX3_flies_11 : decode cX3_flies 11 = .ok (.bipush 6, 2) := by decide +kernel
theorem dX3_flies_13 : decode cX3_flies 13 = .ok (.ixor, 1) := by decide +kernel
theorem dX3_flies_14 : decode cX3_flies 14 = .ok (.ireturn, 1) := by decide +kernel
theorem dX3_calls_0 : decode cX3_calls 0 = .ok (.aload_n 0, 1) := by decide +kernel
theorem dX3_calls_1 : decode cX3_calls 1 = .ok (.bipush 51, 2) := by decide +kernel
theorem dX3_calls_3 : decode cX3_calls 3 = .ok (.invokevirtual 15, 3) := by decide +kernel
theorem dX3_calls_6 : decode cX3_calls 6 = .ok (.aload_n 0, 1) := by decide +kernel
theorem dX3_calls_7 : decode cX3_calls 7 = .ok (.iload_n 1, 1) := by decide +kernel
theorem dX3_calls_8 : decode cX3_calls 8 = .ok (.invokespecial 24, 3) := by decide +kernel
theorem dX3_calls_11 : decode cX3_calls 11 = .ok (.istore_n 2, 1) := by decide +kernel
theorem dX3_calls_12 : decode cX3_calls 12 = .ok (.iload_n 2, 1) := by decide +kernel
theorem dX3_calls_13 : decode cX3_calls 13 = .ok (.aload_n 0, 1) := by decide +kernel
theorem dX3_calls_14 : decode cX3_calls 14 = .ok (.aload_n 0, 1) := by decide +kernel
theorem dX3_calls_15 : decode cX3_calls 15 = .ok (.getfield 27, 3) := by decide +kernel
theorem dX3_calls_18 : decode cX3_calls 18 = .ok (.invokevirtual 31, 3) := by decide +kernel
theorem dX3_calls_21 : decode cX3_calls 21 = .ok (.isub, 1) := by decide +kernel
theorem dX3_calls_22 : decode cX3_calls 22 = .ok (.ireturn, 1) := by decide +kernel
theorem dX4_init_0 : decode cX4_init 0 = .ok (.aload_n 0, 1) := by decide +kernel
theorem dX4_init_1 : decode cX4_init 1 = .ok (.invokespecial 1, 3) := by decide +kernel
theorem dX4_init_4 : decode cX4_init 4 = .ok (.aload_n 0, 1) := by decide +kernel
theorem dX4_init_5 : decode cX4_init 5 = .ok (.iconst 0, 1) := by decide +kernel
theorem dX4_init_6 : decode cX4_init 6 = .ok (.putfield 7, 3) := by decide +kernel
theorem dX4_init_9 : decode cX4_init 9 = .ok (.aload_n 0, 1) := by decide +kernel
theorem dX4_init_10 : decode cX4_init 10 = .ok (.iconst 0, 1) := by decide +kernel
theorem dX4_init_11 : decode cX4_init 11 = .ok (.putfield 13, 3) := by decide +kernel
theorem dX4_init_14 : decode cX4_init 14 = .ok (.aload_n 0, 1) := by decide +kernel
theorem dX4_init_15 : decode cX4_init 15 = .ok (.iconst 0, 1) := by decide +kernel
theorem dX4_init_16 : decode cX4_init 16 = .ok (.putfield 16, 3) := by decide +kernel
theorem dX4_init_19 : decode cX4_init 19 = .ok (.aload_n 0, 1) := by decide +kernel
theorem dX4_init_20 : decode cX4_init 20 = .ok (.iconst 0, 1) := by decide +kernel
theorem dX4_init_21 : decode cX4_init 21 = .ok (.putfield 19, 3) := by decide +kernel
theorem dX4_init_24 : decode cX4_init 24 = .ok (.aload_n 0, 1) := by decide +kernel
theorem dX4_init_25 : decode cX4_init 25 = .ok (.aload_n 1, 1) := by decide +kernel
theorem dX4_init_26 : decode cX4_init 26 = .ok (.putfield 23, 3) := by decide +kernel
theorem dX4_init_29 : decode cX4_init 29 = .ok (.return_, 1) := by decide +kernel
theorem dX4_drifts_0 : decode cX4_drifts 0 = .ok (.iload_n 1, 1) := by decide +kernel
theorem dX4_drifts_1 : decode cX4_drifts 1 = .ok (.ireturn, 1) := by decide +kernel
theorem dX4_fee_0 : decode cX4_fee 0 = .ok (.iconst 4, 1) := by decide +kernel
theorem dX4_fee_1 : decode cX4_fee 1 = .ok (.ireturn, 1) := by decide +kernel
theorem dX4_become_0 : decode cX4_become 0 = .ok (.aload_n 0, 1) := by decide +kernel
theorem dX4_become_1 : decode cX4_become 1 = .ok (.iload_n 1, 1) := by decide +kernel
theorem dX4_become_2 : decode cX4_become 2 = .ok (.putfield 7, 3) := by decide +kernel
theorem dX4_become_5 : decode cX4_become 5 = .ok (.aload_n 0, 1) := by decide +kernel
theorem dX4_become_6 : decode cX4_become 6 = .ok (.iload_n 2, 1) := by decide +kernel
theorem dX4_become_7 : decode cX4_become 7 = .ok (.putfield 13, 3) := by decide +kernel
theorem dX4_become_10 : decode cX4_become 10 = .ok (.aload_n 0, 1) := by decide +kernel
theorem dX4_become_11 : decode cX4_become 11 = .ok (.iconst 0, 1) := by decide +kernel
theorem dX4_become_12 : decode cX4_become 12 = .ok (.putfield 16, 3) := by decide +kernel
theorem dX4_become_15 : decode cX4_become 15 = .ok (.aload_n 0, 1) := by decide +kernel
theorem dX4_become_16 : decode cX4_become 16 = .ok (.iconst 0, 1) := by decide +kernel
theorem dX4_become_17 : decode cX4_become 17 = .ok (.putfield 19, 3) := by decide +kernel
theorem dX4_become_20 : decode cX4_become 20 = .ok (.return_, 1) := by decide +kernel
theorem dX4_begin_0 : decode cX4_begin 0 = .ok (.aload_n 0, 1) := by decide +kernel
theorem dX4_begin_1 : decode cX4_begin 1 = .ok (.getfield 19, 3) := by decide +kernel
theorem dX4_begin_4 : decode cX4_begin 4 = .ok (.ifCond .ne 35, 3) := by decide +kernel
theorem dX4_begin_7 : decode cX4_begin 7 = .ok (.aload_n 0, 1) := by decide +kernel
theorem dX4_begin_8 : decode cX4_begin 8 = .ok (.getfield 16, 3) := by decide +kernel
theorem dX4_begin_11 : decode cX4_begin 11 = .ok (.aload_n 0, 1) := by decide +kernel
theorem dX4_begin_12 : decode cX4_begin 12 = .ok (.getfield 23, 3) := by decide +kernel
theorem dX4_begin_15 : decode cX4_begin 15 = .ok (.arraylength, 1) := by decide +kernel
theorem dX4_begin_16 : decode cX4_begin 16 = .ok (.if_icmp .ge 23, 3) := by decide +kernel
theorem dX4_begin_19 : decode cX4_begin 19 = .ok (.aload_n 0, 1) := by decide +kernel
theorem dX4_begin_20 : decode cX4_begin 20 = .ok (.getfield 23, 3) := by decide +kernel
theorem dX4_begin_23 : decode cX4_begin 23 = .ok (.aload_n 0, 1) := by decide +kernel
theorem dX4_begin_24 : decode cX4_begin 24 = .ok (.getfield 16, 3) := by decide +kernel
theorem dX4_begin_27 : decode cX4_begin 27 = .ok (.iload_n 1, 1) := by decide +kernel
theorem dX4_begin_28 : decode cX4_begin 28 = .ok (.iastore, 1) := by decide +kernel
theorem dX4_begin_29 : decode cX4_begin 29 = .ok (.aload_n 0, 1) := by decide +kernel
theorem dX4_begin_30 : decode cX4_begin 30 = .ok (.dup, 1) := by decide +kernel
theorem dX4_begin_31 : decode cX4_begin 31 = .ok (.getfield 16, 3) := by decide +kernel
theorem dX4_begin_34 : decode cX4_begin 34 = .ok (.iconst 1, 1) := by decide +kernel
theorem dX4_begin_35 : decode cX4_begin 35 = .ok (.iadd, 1) := by decide +kernel
theorem dX4_begin_36 : decode cX4_begin 36 = .ok (.putfield 16, 3) := by decide +kernel
theorem dX4_begin_39 : decode cX4_begin 39 = .ok (.return_, 1) := by decide +kernel
theorem dX4_flies_0 : decode cX4_flies 0 = .ok (.aload_n 0, 1) := by decide +kernel
theorem dX4_flies_1 : decode cX4_flies 1 = .ok (.bipush 10, 2) := by decide +kernel
theorem dX4_flies_3 : decode cX4_flies 3 = .ok (.invokevirtual 27, 3) := by decide +kernel
theorem dX4_flies_6 : decode cX4_flies 6 = .ok (.iload_n 1, 1) := by decide +kernel
theorem dX4_flies_7 : decode cX4_flies 7 = .ok (.iconst 5, 1) := by decide +kernel
theorem dX4_flies_8 : decode cX4_flies 8 = .ok (.imul, 1) := by decide +kernel
theorem dX4_flies_9 : decode cX4_flies 9 = .ok (.aload_n 0, 1) := by decide +kernel
theorem dX4_flies_10 : decode cX4_flies 10 = .ok (.getfield 7, 3) := by decide +kernel
theorem dX4_flies_13 : decode cX4_flies 13 = .ok (.iadd, 1) := by decide +kernel
theorem dX4_flies_14 : decode cX4_flies 14 = .ok (.ireturn, 1) := by decide +kernel
theorem dX4_reads_0 : decode cX4_reads 0 = .ok (.aload_n 0, 1) := by decide +kernel
theorem dX4_reads_1 : decode cX4_reads 1 = .ok (.bipush 11, 2) := by decide +kernel
theorem dX4_reads_3 : decode cX4_reads 3 = .ok (.invokevirtual 27, 3) := by decide +kernel
theorem dX4_reads_6 : decode cX4_reads 6 = .ok (.aload_n 0, 1) := by decide +kernel
theorem dX4_reads_7 : decode cX4_reads 7 = .ok (.iload_n 1, 1) := by decide +kernel
theorem dX4_reads_8 : decode cX4_reads 8 = .ok (.invokevirtual 31, 3) := by decide +kernel
theorem dX4_reads_11 : decode cX4_reads 11 = .ok (.aload_n 0, 1) := by decide +kernel
theorem dX4_reads_12 : decode cX4_reads 12 = .ok (.getfield 13, 3) := by decide +kernel
theorem dX4_reads_15 : decode cX4_reads 15 = .ok (.ixor, 1) := by decide +kernel
theorem dX4_reads_16 : decode cX4_reads 16 = .ok (.ireturn, 1) := by decide +kernel
theorem dX4_parts_0 : decode cX4_parts 0 = .ok (.aload_n 0, 1) := by decide +kernel
theorem dX4_parts_1 : decode cX4_parts 1 = .ok (.bipush 12, 2) := by decide +kernel
theorem dX4_parts_3 : decode cX4_parts 3 = .ok (.invokevirtual 27, 3) := by decide +kernel
theorem dX4_parts_6 : decode cX4_parts 6 = .ok (.aload_n 0, 1) := by decide +kernel
theorem dX4_parts_7 : decode cX4_parts 7 = .ok (.getfield 7, 3) := by decide +kernel
theorem dX4_parts_10 : decode cX4_parts 10 = .ok (.aload_n 0, 1) := by decide +kernel
theorem dX4_parts_11 : decode cX4_parts 11 = .ok (.getfield 13, 3) := by decide +kernel
theorem dX4_parts_14 : decode cX4_parts 14 = .ok (.isub, 1) := by decide +kernel
theorem dX4_parts_15 : decode cX4_parts 15 = .ok (.istore_n 2, 1) := by decide +kernel
theorem dX4_parts_16 : decode cX4_parts 16 = .ok (.iload_n 2, 1) := by decide +kernel
theorem dX4_parts_17 : decode cX4_parts 17 = .ok (.ifCond .ne 10, 3) := by decide +kernel
theorem dX4_parts_20 : decode cX4_parts 20 = .ok (.aload_n 0, 1) := by decide +kernel
theorem dX4_parts_21 : decode cX4_parts 21 = .ok (.iconst 1, 1) := by decide +kernel
theorem dX4_parts_22 : decode cX4_parts 22 = .ok (.putfield 19, 3) := by decide +kernel
theorem dX4_parts_25 : decode cX4_parts 25 = .ok (.iconst 0, 1) := by decide +kernel
theorem dX4_parts_26 : decode cX4_parts 26 = .ok (.ireturn, 1) := by decide +kernel
theorem dX4_parts_27 : decode cX4_parts 27 = .ok (.iload_n 1, 1) := by decide +kernel
theorem dX4_parts_28 : decode cX4_parts 28 = .ok (.iload_n 2, 1) := by decide +kernel
theorem dX4_parts_29 : decode cX4_parts 29 = .ok (.irem, 1) := by decide +kernel
theorem dX4_parts_30 : decode cX4_parts 30 = .ok (.ireturn, 1) := by decide +kernel
theorem dX4_calls_0 : decode cX4_calls 0 = .ok (.aload_n 0, 1) := by decide +kernel
theorem dX4_calls_1 : decode cX4_calls 1 = .ok (.bipush 13, 2) := by decide +kernel
theorem dX4_calls_3 : decode cX4_calls 3 = .ok (.invokevirtual 27, 3) := by decide +kernel
theorem dX4_calls_6 : decode cX4_calls 6 = .ok (.aload_n 0, 1) := by decide +kernel
theorem dX4_calls_7 : decode cX4_calls 7 = .ok (.iload_n 1, 1) := by decide +kernel
theorem dX4_calls_8 : decode cX4_calls 8 = .ok (.invokevirtual 35, 3) := by decide +kernel
theorem dX4_calls_11 : decode cX4_calls 11 = .ok (.istore_n 2, 1) := by decide +kernel
theorem dX4_calls_12 : decode cX4_calls 12 = .ok (.iload_n 2, 1) := by decide +kernel
theorem dX4_calls_13 : decode cX4_calls 13 = .ok (.aload_n 0, 1) := by decide +kernel
theorem dX4_calls_14 : decode cX4_calls 14 = .ok (.iload_n 1, 1) := by decide +kernel
theorem dX4_calls_15 : decode cX4_calls 15 = .ok (.invokevirtual 38, 3) := by decide +kernel
theorem dX4_calls_18 : decode cX4_calls 18 = .ok (.iconst 2, 1) := by decide +kernel
theorem dX4_calls_19 : decode cX4_calls 19 = .ok (.imul, 1) := by decide +kernel
theorem dX4_calls_20 : decode cX4_calls 20 = .ok (.iadd, 1) := by decide +kernel
theorem dX4_calls_21 : decode cX4_calls 21 = .ok (.ireturn, 1) := by decide +kernel
theorem dX5_init_0 : decode cX5_init 0 = .ok (.aload_n 0, 1) := by decide +kernel
theorem dX5_init_1 : decode cX5_init 1 = .ok (.aload_n 1, 1) := by decide +kernel
theorem dX5_init_2 : decode cX5_init 2 = .ok (.invokespecial 1, 3) := by decide +kernel
theorem dX5_init_5 : decode cX5_init 5 = .ok (.return_, 1) := by decide +kernel
theorem dX5_drifts_0 : decode cX5_drifts 0 = .ok (.iload_n 2, 1) := by decide +kernel
theorem dX5_drifts_1 : decode cX5_drifts 1 = .ok (.iconst 2, 1) := by decide +kernel
theorem dX5_drifts_2 : decode cX5_drifts 2 = .ok (.irem, 1) := by decide +kernel
theorem dX5_drifts_3 : decode cX5_drifts 3 = .ok (.ifCond .ne 12, 3) := by decide +kernel
theorem dX5_drifts_6 : decode cX5_drifts 6 = .ok (.aload_n 0, 1) := by decide +kernel
theorem dX5_drifts_7 : decode cX5_drifts 7 = .ok (.iload_n 1, 1) := by decide +kernel
theorem dX5_drifts_8 : decode cX5_drifts 8 = .ok (.iload_n 2, 1) := by decide +kernel
theorem dX5_drifts_9 : decode cX5_drifts 9 = .ok (.invokespecial 7, 3) := by decide +kernel
theorem dX5_drifts_12 : decode cX5_drifts 12 = .ok (.goto 4, 3) := by decide +kernel
theorem dX5_drifts_15 : decode cX5_drifts 15 = .ok (.iconst 0, 1) := by decide +kernel
theorem dX5_drifts_16 : decode cX5_drifts 16 = .ok (.ireturn, 1) := by decide +kernel
theorem dX5_fee_0 : decode cX5_fee 0 = .ok (.aload_n 0, 1) := by decide +kernel
theorem dX5_fee_1 : decode cX5_fee 1 = .ok (.iload_n 1, 1) := by decide +kernel
theorem dX5_fee_2 : decode cX5_fee 2 = .ok (.invokespecial 11, 3) := by decide +kernel
theorem dX5_fee_5 : decode cX5_fee 5 = .ok (.iconst 2, 1) := by decide +kernel
theorem dX5_fee_6 : decode cX5_fee 6 = .ok (.idiv, 1) := by decide +kernel
theorem dX5_fee_7 : decode cX5_fee 7 = .ok (.ireturn, 1) := by decide +kernel
theorem dX5_reads_0 : decode cX5_reads 0 = .ok (.aload_n 0, 1) := by decide +kernel
theorem dX5_reads_1 : decode cX5_reads 1 = .ok (.bipush 60, 2) := by decide +kernel
theorem dX5_reads_3 : decode cX5_reads 3 = .ok (.invokevirtual 15, 3) := by decide +kernel
theorem dX5_reads_6 : decode cX5_reads 6 = .ok (.aload_n 0, 1) := by decide +kernel
theorem dX5_reads_7 : decode cX5_reads 7 = .ok (.iload_n 1, 1) := by decide +kernel
theorem dX5_reads_8 : decode cX5_reads 8 = .ok (.invokespecial 21, 3) := by decide +kernel
theorem dX5_reads_11 : decode cX5_reads 11 = .ok (.aload_n 0, 1) := by decide +kernel
theorem dX5_reads_12 : decode cX5_reads 12 = .ok (.getfield 24, 3) := by decide +kernel
theorem dX5_reads_15 : decode cX5_reads 15 = .ok (.imul, 1) := by decide +kernel
theorem dX5_reads_16 : decode cX5_reads 16 = .ok (.ireturn, 1) := by decide +kernel
theorem dX5_parts_0 : decode cX5_parts 0 = .ok (.aload_n 0, 1) := by decide +kernel
theorem dX5_parts_1 : decode cX5_parts 1 = .ok (.bipush 61, 2) := by decide +kernel
theorem dX5_parts_3 : decode cX5_parts 3 = .ok (.invokevirtual 15, 3) := by decide +kernel
theorem dX5_parts_6 : decode cX5_parts 6 = .ok (.aload_n 0, 1) := by decide +kernel
theorem dX5_parts_7 : decode cX5_parts 7 = .ok (.iload_n 1, 1) := by decide +kernel
theorem dX5_parts_8 : decode cX5_parts 8 = .ok (.invokespecial 28, 3) := by decide +kernel
theorem dX5_parts_11 : decode cX5_parts 11 = .ok (.istore_n 2, 1) := by decide +kernel
theorem dX5_parts_12 : decode cX5_parts 12 = .ok (.iload_n 2, 1) := by decide +kernel
theorem dX5_parts_13 : decode cX5_parts 13 = .ok (.aload_n 0, 1) := by decide +kernel
theorem dX5_parts_14 : decode cX5_parts 14 = .ok (.aload_n 0, 1) := by decide +kernel
theorem dX5_parts_15 : decode cX5_parts 15 = .ok (.getfield 31, 3) := by decide +kernel
theorem dX5_parts_18 : decode cX5_parts 18 = .ok (.invokevirtual 34, 3) := by decide +kernel
theorem dX5_parts_21 : decode cX5_parts 21 = .ok (.iadd, 1) := by decide +kernel
theorem dX5_parts_22 : decode cX5_parts 22 = .ok (.ireturn, 1) := by decide +kernel
theorem dX6_init_0 : decode cX6_init 0 = .ok (.aload_n 0, 1) := by decide +kernel
theorem dX6_init_1 : decode cX6_init 1 = .ok (.invokespecial 3, 3) := by decide +kernel
theorem dX6_init_4 : decode cX6_init 4 = .ok (.aload_n 0, 1) := by decide +kernel
theorem dX6_init_5 : decode cX6_init 5 = .ok (.iconst 5, 1) := by decide +kernel
theorem dX6_init_6 : decode cX6_init 6 = .ok (.anewarray 9, 3) := by decide +kernel
theorem dX6_init_9 : decode cX6_init 9 = .ok (.putfield 11, 3) := by decide +kernel
theorem dX6_init_12 : decode cX6_init 12 = .ok (.aload_n 0, 1) := by decide +kernel
theorem dX6_init_13 : decode cX6_init 13 = .ok (.iconst 4, 1) := by decide +kernel
theorem dX6_init_14 : decode cX6_init 14 = .ok (.newarray .int, 2) := by decide +kernel
theorem dX6_init_16 : decode cX6_init 16 = .ok (.putfield 17, 3) := by decide +kernel
theorem dX6_init_19 : decode cX6_init 19 = .ok (.aload_n 0, 1) := by decide +kernel
theorem dX6_init_20 : decode cX6_init 20 = .ok (.iconst 4, 1) := by decide +kernel
theorem dX6_init_21 : decode cX6_init 21 = .ok (.newarray .int, 2) := by decide +kernel
theorem dX6_init_23 : decode cX6_init 23 = .ok (.putfield 21, 3) := by decide +kernel
theorem dX6_init_26 : decode cX6_init 26 = .ok (.aload_n 0, 1) := by decide +kernel
theorem dX6_init_27 : decode cX6_init 27 = .ok (.iconst 0, 1) := by decide +kernel
theorem dX6_init_28 : decode cX6_init 28 = .ok (.putfield 24, 3) := by decide +kernel
theorem dX6_init_31 : decode cX6_init 31 = .ok (.aload_n 0, 1) := by decide +kernel
theorem dX6_init_32 : decode cX6_init 32 = .ok (.iconst 0, 1) := by decide +kernel
theorem dX6_init_33 : decode cX6_init 33 = .ok (.putfield 28, 3) := by decide +kernel
theorem dX6_init_36 : decode cX6_init 36 = .ok (.aload_n 0, 1) := by decide +kernel
theorem dX6_init_37 : decode cX6_init 37 = .ok (.iconst 0, 1) := by decide +kernel
theorem dX6_init_38 : decode cX6_init 38 = .ok (.putfield 31, 3) := by decide +kernel
theorem dX6_init_41 : decode cX6_init 41 = .ok (.aload_n 0, 1) := by decide +kernel
theorem dX6_init_42 : decode cX6_init 42 = .ok (.bipush (-3), 2) := by decide +kernel
theorem dX6_init_44 : decode cX6_init 44 = .ok (.putfield 34, 3) := by decide +kernel
theorem dX6_init_47 : decode cX6_init 47 = .ok (.aload_n 0, 1) := by decide +kernel
theorem dX6_init_48 : decode cX6_init 48 = .ok (.iconst 0, 1) := by decide +kernel
theorem dX6_init_49 : decode cX6_init 49 = .ok (.putfield 37, 3) := by decide +kernel
theorem dX6_init_52 : decode cX6_init 52 = .ok (.aload_n 0, 1) := by decide +kernel
theorem dX6_init_53 : decode cX6_init 53 = .ok (.iconst 0, 1) := by decide +kernel
theorem dX6_init_54 : decode cX6_init 54 = .ok (.putfield 40, 3) := by decide +kernel
theorem dX6_init_57 : decode cX6_init 57 = .ok (.aload_n 0, 1) := by decide +kernel
theorem dX6_init_58 : decode cX6_init 58 = .ok (.iconst 0, 1) := by decide +kernel
theorem dX6_init_59 : decode cX6_init 59 = .ok (.putfield 43, 3) := by decide +kernel
theorem dX6_init_62 : decode cX6_init 62 = .ok (.aload_n 0, 1) := by decide +kernel
theorem dX6_init_63 : decode cX6_init 63 = .ok (.aload_n 1, 1) := by decide +kernel
theorem dX6_init_64 : decode cX6_init 64 = .ok (.putfield 46, 3) := by decide +kernel
theorem dX6_init_67 : decode cX6_init 67 = .ok (.iconst 0, 1) := by decide +kernel
theorem dX6_init_68 : decode cX6_init 68 = .ok (.istore_n 2, 1) := by decide +kernel
theorem dX6_init_69 : decode cX6_init 69 = .ok (.iload_n 2, 1) := by decide +kernel
theorem dX6_init_70 : decode cX6_init 70 = .ok (.aload_n 0, 1) := by decide +kernel
theorem dX6_init_71 : decode cX6_init 71 = .ok (.getfield 11, 3) := by decide +kernel
theorem dX6_init_74 : decode cX6_init 74 = .ok (.arraylength, 1) := by decide +kernel
theorem dX6_init_75 : decode cX6_init 75 = .ok (.if_icmp .ge 22, 3) := by decide +kernel
theorem dX6_init_78 : decode cX6_init 78 = .ok (.aload_n 0, 1) := by decide +kernel
theorem dX6_init_79 : decode cX6_init 79 = .ok (.getfield 11, 3) := by decide +kernel
theorem dX6_init_82 : decode cX6_init 82 = .ok (.iload_n 2, 1) := by decide +kernel
theorem dX6_init_83 : decode cX6_init 83 = .ok (.new 9, 3) := by decide +kernel
theorem dX6_init_86 : decode cX6_init 86 = .ok (.dup, 1) := by decide +kernel
theorem dX6_init_87 : decode cX6_init 87 = .ok (.invokespecial 50, 3) := by decide +kernel
theorem dX6_init_90 : decode cX6_init 90 = .ok (.aastore, 1) := by decide +kernel
theorem dX6_init_91 : decode cX6_init 91 = .ok (.iinc 2 1, 3) := by decide +kernel
theorem dX6_init_94 : decode cX6_init 94 = .ok (.goto (-25), 3) := by decide +kernel
theorem dX6_init_97 : decode cX6_init 97 = .ok (.return_, 1) := by decide +kernel
theorem dX6_search_0 : decode cX6_search 0 = .ok (.aload_n 0, 1) := by decide +kernel
theorem dX6_search_1 : decode cX6_search 1 = .ok (.iload_n 2, 1) := by decide +kernel
theorem dX6_search_2 : decode cX6_search 2 = .ok (.putfield 37, 3) := by decide +kernel
theorem dX6_search_5 : decode cX6_search 5 = .ok (.aload_n 0, 1) := by decide +kernel
theorem dX6_search_6 : decode cX6_search 6 = .ok (.iconst (-1), 1) := by decide +kernel
theorem dX6_search_7 : decode cX6_search 7 = .ok (.putfield 28, 3) := by decide +kernel
theorem dX6_search_10 : decode cX6_search 10 = .ok (.aload_n 0, 1) := by decide +kernel
theorem dX6_search_11 : decode cX6_search 11 = .ok (.bipush (-3), 2) := by decide +kernel
theorem dX6_search_13 : decode cX6_search 13 = .ok (.putfield 34, 3) := by decide +kernel
theorem dX6_search_16 : decode cX6_search 16 = .ok (.aload_n 0, 1) := by decide +kernel
theorem dX6_search_17 : decode cX6_search 17 = .ok (.iconst 0, 1) := by decide +kernel
theorem dX6_search_18 : decode cX6_search 18 = .ok (.putfield 40, 3) := by decide +kernel
theorem dX6_search_21 : decode cX6_search 21 = .ok (.aload_n 0, 1) := by decide +kernel
theorem dX6_search_22 : decode cX6_search 22 = .ok (.getfield 11, 3) := by decide +kernel
theorem dX6_search_25 : decode cX6_search 25 = .ok (.iconst 0, 1) := by decide +kernel
theorem dX6_search_26 : decode cX6_search 26 = .ok (.aaload, 1) := by decide +kernel
theorem dX6_search_27 : decode cX6_search 27 = .ok (.aload_n 0, 1) := by decide +kernel
theorem dX6_search_28 : decode cX6_search 28 = .ok (.getfield 46, 3) := by decide +kernel
theorem dX6_search_31 : decode cX6_search 31 = .ok (.getfield 51, 3) := by decide +kernel
theorem dX6_search_34 : decode cX6_search 34 = .ok (.invokevirtual 57, 3) := by decide +kernel
theorem dX6_search_37 : decode cX6_search 37 = .ok (.aload_n 0, 1) := by decide +kernel
theorem dX6_search_38 : decode cX6_search 38 = .ok (.iconst 0, 1) := by decide +kernel
theorem dX6_search_39 : decode cX6_search 39 = .ok (.iload_n 1, 1) := by decide +kernel
theorem dX6_search_40 : decode cX6_search 40 = .ok (.iconst 0, 1) := by decide +kernel
theorem dX6_search_41 : decode cX6_search 41 = .ok (.iconst 0, 1) := by decide +kernel
theorem dX6_search_42 : decode cX6_search 42 = .ok (.invokevirtual 61, 3) := by decide +kernel
theorem dX6_search_45 : decode cX6_search 45 = .ok (.return_, 1) := by decide +kernel
theorem dX6_extend_0 : decode cX6_extend 0 = .ok (.aload_n 0, 1) := by decide +kernel
theorem dX6_extend_1 : decode cX6_extend 1 = .ok (.getfield 11, 3) := by decide +kernel
theorem dX6_extend_4 : decode cX6_extend 4 = .ok (.iload_n 1, 1) := by decide +kernel
theorem dX6_extend_5 : decode cX6_extend 5 = .ok (.aaload, 1) := by decide +kernel
theorem dX6_extend_6 : decode cX6_extend 6 = .ok (.astore 5, 2) := by decide +kernel
theorem dX6_extend_8 : decode cX6_extend 8 = .ok (.iload_n 1, 1) := by decide +kernel
theorem dX6_extend_9 : decode cX6_extend 9 = .ok (.iload_n 2, 1) := by decide +kernel
theorem dX6_extend_10 : decode cX6_extend 10 = .ok (.if_icmp .ge 20, 3) := by decide +kernel
theorem dX6_extend_13 : decode cX6_extend 13 = .ok (.iload_n 1, 1) := by decide +kernel
theorem dX6_extend_14 : decode cX6_extend 14 = .ok (.iconst 4, 1) := by decide +kernel
theorem dX6_extend_15 : decode cX6_extend 15 = .ok (.if_icmp .ge 15, 3) := by decide +kernel
theorem dX6_extend_18 : decode cX6_extend 18 = .ok (.aload_n 0, 1) := by decide +kernel
theorem dX6_extend_19 : decode cX6_extend 19 = .ok (.getfield 46, 3) := by decide +kernel
theorem dX6_extend_22 : decode cX6_extend 22 = .ok (.aload 5, 2) := by decide +kernel
theorem dX6_extend_24 : decode cX6_extend 24 = .ok (.invokevirtual 65, 3) := by decide +kernel
theorem dX6_extend_27 : decode cX6_extend 27 = .ok (.ifCond .eq 12, 3) := by decide +kernel
theorem dX6_extend_30 : decode cX6_extend 30 = .ok (.aload_n 0, 1) := by decide +kernel
theorem dX6_extend_31 : decode cX6_extend 31 = .ok (.iload_n 1, 1) := by decide +kernel
theorem dX6_extend_32 : decode cX6_extend 32 = .ok (.iload_n 3, 1) := by decide +kernel
theorem dX6_extend_33 : decode cX6_extend 33 = .ok (.iload 4, 2) := by decide +kernel
theorem dX6_extend_35 : decode cX6_extend 35 = .ok (.invokevirtual 69, 3) := by decide +kernel
theorem dX6_extend_38 : decode cX6_extend 38 = .ok (.return_, 1) := by decide +kernel
theorem dX6_extend_39 : decode cX6_extend 39 = .ok (.aload_n 0, 1) := by decide +kernel
theorem dX6_extend_40 : decode cX6_extend 40 = .ok (.getfield 11, 3) := by decide +kernel
theorem dX6_extend_43 : decode cX6_extend 43 = .ok (.iload_n 1, 1) := by decide +kernel
theorem dX6_extend_44 : decode cX6_extend 44 = .ok (.iconst 1, 1) := by decide +kernel
theorem dX6_extend_45 : decode cX6_extend 45 = .ok (.iadd, 1) := by decide +kernel
theorem dX6_extend_46 : decode cX6_extend 46 = .ok (.aaload, 1) := by decide +kernel
theorem dX6_extend_47 : decode cX6_extend 47 = .ok (.astore 6, 2) := by decide +kernel
theorem dX6_extend_49 : decode cX6_extend 49 = .ok (.iconst 0, 1) := by decide +kernel
theorem dX6_extend_50 : decode cX6_extend 50 = .ok (.istore 7, 2) := by decide +kernel
theorem dX6_extend_52 : decode cX6_extend 52 = .ok (.iload 7, 2) := by decide +kernel
theorem dX6_extend_54 : decode cX6_extend 54 = .ok (.aload_n 0, 1) := by decide +kernel
theorem dX6_extend_55 : decode cX6_extend 55 = .ok (.getfield 46, 3) := by decide +kernel
theorem dX6_extend_58 : decode cX6_extend 58 = .ok (.getfield 73, 3) := by decide +kernel
theorem dX6_extend_61 : decode cX6_extend 61 = .ok (.if_icmp .gt 63, 3) := by decide +kernel
theorem dX6_extend_64 : decode cX6_extend 64 = .ok (.aload 6, 2) := by decide +kernel
theorem dX6_extend_66 : decode cX6_extend 66 = .ok (.aload 5, 2) := by decide +kernel
theorem dX6_extend_68 : decode cX6_extend 68 = .ok (.invokevirtual 57, 3) := by decide +kernel
theorem dX6_extend_71 : decode cX6_extend 71 = .ok (.aload_n 0, 1) := by decide +kernel
theorem dX6_extend_72 : decode cX6_extend 72 = .ok (.getfield 17, 3) := by decide +kernel
theorem dX6_extend_75 : decode cX6_extend 75 = .ok (.iload_n 1, 1) := by decide +kernel
theorem dX6_extend_76 : decode cX6_extend 76 = .ok (.iload 7, 2) := by decide +kernel
theorem dX6_extend_78 : decode cX6_extend 78 = .ok (.iastore, 1) := by decide +kernel
theorem dX6_extend_79 : decode cX6_extend 79 = .ok (.aload_n 0, 1) := by decide +kernel
theorem dX6_extend_80 : decode cX6_extend 80 = .ok (.getfield 46, 3) := by decide +kernel
theorem dX6_extend_83 : decode cX6_extend 83 = .ok (.aload 6, 2) := by decide +kernel
theorem dX6_extend_85 : decode cX6_extend 85 = .ok (.iload 7, 2) := by decide +kernel
theorem dX6_extend_87 : decode cX6_extend 87 = .ok (.invokevirtual 76, 3) := by decide +kernel
theorem dX6_extend_90 : decode cX6_extend 90 = .ok (.istore 8, 2) := by decide +kernel
theorem dX6_extend_92 : decode cX6_extend 92 = .ok (.aload_n 0, 1) := by decide +kernel
theorem dX6_extend_93 : decode cX6_extend 93 = .ok (.iload_n 1, 1) := by decide +kernel
theorem dX6_extend_94 : decode cX6_extend 94 = .ok (.iconst 1, 1) := by decide +kernel
theorem dX6_extend_95 : decode cX6_extend 95 = .ok (.iadd, 1) := by decide +kernel
theorem dX6_extend_96 : decode cX6_extend 96 = .ok (.iload_n 2, 1) := by decide +kernel
theorem dX6_extend_97 : decode cX6_extend 97 = .ok (.iload_n 3, 1) := by decide +kernel
theorem dX6_extend_98 : decode cX6_extend 98 = .ok (.iload 8, 2) := by decide +kernel
theorem dX6_extend_100 : decode cX6_extend 100 = .ok (.iadd, 1) := by decide +kernel
theorem dX6_extend_101 : decode cX6_extend 101 = .ok (.iload 7, 2) := by decide +kernel
theorem dX6_extend_103 : decode cX6_extend 103 = .ok (.ifCond .ne 8, 3) := by decide +kernel
theorem dX6_extend_106 : decode cX6_extend 106 = .ok (.iload 4, 2) := by decide +kernel
theorem dX6_extend_108 : decode cX6_extend 108 = .ok (.goto 7, 3) := by decide +kernel
theorem dX6_extend_111 : decode cX6_extend 111 = .ok (.iload 4, 2) := by decide +kernel
theorem dX6_extend_113 : decode cX6_extend 113 = .ok (.iconst 1, 1) := by decide +kernel
theorem dX6_extend_114 : decode cX6_extend 114 = .ok (.iadd, 1) := by decide +kernel
theorem dX6_extend_115 : decode cX6_extend 115 = .ok (.invokevirtual 61, 3) := by decide +kernel
theorem dX6_extend_118 : decode cX6_extend 118 = .ok (.iinc 7 1, 3) := by decide +kernel
theorem dX6_extend_121 : decode cX6_extend 121 = .ok (.goto (-69), 3) := by decide +kernel
theorem dX6_extend_124 : decode cX6_extend 124 = .ok (.return_, 1) := by decide +kernel
theorem dX6_weigh_0 : decode cX6_weigh 0 = .ok (.aload_n 0, 1) := by decide +kernel
theorem dX6_weigh_1 : decode cX6_weigh 1 = .ok (.getfield 11, 3) := by decide +kernel
theorem dX6_weigh_4 : decode cX6_weigh 4 = .ok (.iload_n 1, 1) := by decide +kernel
theorem dX6_weigh_5 : decode cX6_weigh 5 = .ok (.aaload, 1) := by decide +kernel
theorem dX6_weigh_6 : decode cX6_weigh 6 = .ok (.getfield 80, 3) := by decide +kernel
theorem dX6_weigh_9 : decode cX6_weigh 9 = .ok (.istore 4, 2) := by decide +kernel
theorem dX6_weigh_11 : decode cX6_weigh 11 = .ok (.aload_n 0, 1) := by decide +kernel
theorem dX6_weigh_12 : decode cX6_weigh 12 = .ok (.dup, 1) := by decide +kernel
theorem dX6_weigh_13 : decode cX6_weigh 13 = .ok (.getfield 40, 3) := by decide +kernel
theorem dX6_weigh_16 : decode cX6_weigh 16 = .ok (.iload 4, 2) := by decide +kernel
theorem dX6_weigh_18 : decode cX6_weigh 18 = .ok (.ior, 1) := by decide +kernel
theorem dX6_weigh_19 : decode cX6_weigh 19 = .ok (.putfield 40, 3) := by decide +kernel
theorem dX6_weigh_22 : decode cX6_weigh 22 = .ok (.iload 4, 2) := by decide +kernel
theorem dX6_weigh_24 : decode cX6_weigh 24 = .ok (.aload_n 0, 1) := by decide +kernel
theorem dX6_weigh_25 : decode cX6_weigh 25 = .ok (.getfield 37, 3) := by decide +kernel
theorem dX6_weigh_28 : decode cX6_weigh 28 = .ok (.iand, 1) := by decide +kernel
theorem dX6_weigh_29 : decode cX6_weigh 29 = .ok (.aload_n 0, 1) := by decide +kernel
theorem dX6_weigh_30 : decode cX6_weigh 30 = .ok (.getfield 37, 3) := by decide +kernel
theorem dX6_weigh_33 : decode cX6_weigh 33 = .ok (.if_icmp .ne 25, 3) := by decide +kernel
theorem dX6_weigh_36 : decode cX6_weigh 36 = .ok (.aload_n 0, 1) := by decide +kernel
theorem dX6_weigh_37 : decode cX6_weigh 37 = .ok (.getfield 34, 3) := by decide +kernel
theorem dX6_weigh_40 : decode cX6_weigh 40 = .ok (.bipush (-3), 2) := by decide +kernel
theorem dX6_weigh_42 : decode cX6_weigh 42 = .ok (.if_icmp .eq 11, 3) := by decide +kernel
theorem dX6_weigh_45 : decode cX6_weigh 45 = .ok (.iload_n 3, 1) := by decide +kernel
theorem dX6_weigh_46 : decode cX6_weigh 46 = .ok (.aload_n 0, 1) := by decide +kernel
theorem dX6_weigh_47 : decode cX6_weigh 47 = .ok (.getfield 34, 3) := by decide +kernel
theorem dX6_weigh_50 : decode cX6_weigh 50 = .ok (.if_icmp .ge 8, 3) := by decide +kernel
theorem dX6_weigh_53 : decode cX6_weigh 53 = .ok (.aload_n 0, 1) := by decide +kernel
theorem dX6_weigh_54 : decode cX6_weigh 54 = .ok (.iload_n 3, 1) := by decide +kernel
theorem dX6_weigh_55 : decode cX6_weigh 55 = .ok (.putfield 34, 3) := by decide +kernel
theorem dX6_weigh_58 : decode cX6_weigh 58 = .ok (.iload_n 2, 1) := by decide +kernel
theorem dX6_weigh_59 : decode cX6_weigh 59 = .ok (.aload_n 0, 1) := by decide +kernel
theorem dX6_weigh_60 : decode cX6_weigh 60 = .ok (.getfield 28, 3) := by decide +kernel
theorem dX6_weigh_63 : decode cX6_weigh 63 = .ok (.if_icmp .ne 16, 3) := by decide +kernel
theorem dX6_weigh_66 : decode cX6_weigh 66 = .ok (.aload_n 0, 1) := by decide +kernel
theorem dX6_weigh_67 : decode cX6_weigh 67 = .ok (.dup, 1) := by decide +kernel
theorem dX6_weigh_68 : decode cX6_weigh 68 = .ok (.getfield 31, 3) := by decide +kernel
theorem dX6_weigh_71 : decode cX6_weigh 71 = .ok (.iconst 1, 1) := by decide +kernel
theorem dX6_weigh_72 : decode cX6_weigh 72 = .ok (.iadd, 1) := by decide +kernel
theorem dX6_weigh_73 : decode cX6_weigh 73 = .ok (.putfield 31, 3) := by decide +kernel
theorem dX6_weigh_76 : decode cX6_weigh 76 = .ok (.goto 40, 3) := by decide +kernel
theorem dX6_weigh_79 : decode cX6_weigh 79 = .ok (.iload_n 2, 1) := by decide +kernel
theorem dX6_weigh_80 : decode cX6_weigh 80 = .ok (.aload_n 0, 1) := by decide +kernel
theorem dX6_weigh_81 : decode cX6_weigh 81 = .ok (.getfield 28, 3) := by decide +kernel
theorem dX6_weigh_84 : decode cX6_weigh 84 = .ok (.if_icmp .le 32, 3) := by decide +kernel
theorem dX6_weigh_87 : decode cX6_weigh 87 = .ok (.aload_n 0, 1) := by decide +kernel
theorem dX6_weigh_88 : decode cX6_weigh 88 = .ok (.iload_n 2, 1) := by decide +kernel
theorem dX6_weigh_89 : decode cX6_weigh 89 = .ok (.putfield 28, 3) := by decide +kernel
theorem dX6_weigh_92 : decode cX6_weigh 92 = .ok (.aload_n 0, 1) := by decide +kernel
theorem dX6_weigh_93 : decode cX6_weigh 93 = .ok (.iconst 1, 1) := by decide +kernel
theorem dX6_weigh_94 : decode cX6_weigh 94 = .ok (.putfield 31, 3) := by decide +kernel
theorem dX6_weigh_97 : decode cX6_weigh 97 = .ok (.aload_n 0, 1) := by decide +kernel
theorem dX6_weigh_98 : decode cX6_weigh 98 = .ok (.iload_n 1, 1) := by decide +kernel
theorem dX6_weigh_99 : decode cX6_weigh 99 = .ok (.putfield 24, 3) := by decide +kernel
theorem dX6_weigh_102 : decode cX6_weigh 102 = .ok (.aload_n 0, 1) := by decide +kernel
theorem dX6_weigh_103 : decode cX6_weigh 103 = .ok (.getfield 17, 3) := by decide +kernel
theorem dX6_weigh_106 : decode cX6_weigh 106 = .ok (.iconst 0, 1) := by decide +kernel
theorem dX6_weigh_107 : decode cX6_weigh 107 = .ok (.aload_n 0, 1) := by decide +kernel
theorem dX6_weigh_108 : decode cX6_weigh 108 = .ok (.getfield 21, 3) := by decide +kernel
theorem dX6_weigh_111 : decode cX6_weigh 111 = .ok (.iconst 0, 1) := by decide +kernel
theorem dX6_weigh_112 : decode cX6_weigh 112 = .ok (.iconst 4, 1) := by decide +kernel
theorem dX6_weigh_113 : decode cX6_weigh 113 = .ok (.invokestatic 83, 3) := by decide +kernel
theorem dX6_weigh_116 : decode cX6_weigh 116 = .ok (.return_, 1) := by decide +kernel
theorem dX6_valueOfGame_0 : decode cX6_valueOfGame 0 = .ok (.aload_n 0, 1) := by decide +kernel
theorem dX6_valueOfGame_1 : decode cX6_valueOfGame 1 = .ok (.getfield 11, 3) := by decide +kernel
theorem dX6_valueOfGame_4 : decode cX6_valueOfGame 4 = .ok (.iconst 0, 1) := by decide +kernel
theorem dX6_valueOfGame_5 : decode cX6_valueOfGame 5 = .ok (.aaload, 1) := by decide +kernel
theorem dX6_valueOfGame_6 : decode cX6_valueOfGame 6 = .ok (.aload_n 0, 1) := by decide +kernel
theorem dX6_valueOfGame_7 : decode cX6_valueOfGame 7 = .ok (.getfield 46, 3) := by decide +kernel
theorem dX6_valueOfGame_10 : decode cX6_valueOfGame 10 = .ok (.getfield 51, 3) := by decide +kernel
theorem dX6_valueOfGame_13 : decode cX6_valueOfGame 13 = .ok (.invokevirtual 57, 3) := by decide +kernel
theorem dX6_valueOfGame_16 : decode cX6_valueOfGame 16 = .ok (.aload_n 0, 1) := by decide +kernel
theorem dX6_valueOfGame_17 : decode cX6_valueOfGame 17 = .ok (.iconst 0, 1) := by decide +kernel
theorem dX6_valueOfGame_18 : decode cX6_valueOfGame 18 = .ok (.iload_n 1, 1) := by decide +kernel
theorem dX6_valueOfGame_19 : decode cX6_valueOfGame 19 = .ok (.invokevirtual 89, 3) := by decide +kernel
theorem dX6_valueOfGame_22 : decode cX6_valueOfGame 22 = .ok (.ireturn, 1) := by decide +kernel
theorem dX6_valueFrom_0 : decode cX6_valueFrom 0 = .ok (.aload_n 0, 1) := by decide +kernel
theorem dX6_valueFrom_1 : decode cX6_valueFrom 1 = .ok (.getfield 11, 3) := by decide +kernel
theorem dX6_valueFrom_4 : decode cX6_valueFrom 4 = .ok (.iload_n 1, 1) := by decide +kernel
theorem dX6_valueFrom_5 : decode cX6_valueFrom 5 = .ok (.aaload, 1) := by decide +kernel
theorem dX6_valueFrom_6 : decode cX6_valueFrom 6 = .ok (.astore_n 3, 1) := by decide +kernel
theorem dX6_valueFrom_7 : decode cX6_valueFrom 7 = .ok (.iload_n 1, 1) := by decide +kernel
theorem dX6_valueFrom_8 : decode cX6_valueFrom 8 = .ok (.iload_n 2, 1) := by decide +kernel
theorem dX6_valueFrom_9 : decode cX6_valueFrom 9 = .ok (.if_icmp .ge 19, 3) := by decide +kernel
theorem dX6_valueFrom_12 : decode cX6_valueFrom 12 = .ok (.iload_n 1, 1) := by decide +kernel
theorem dX6_valueFrom_13 : decode cX6_valueFrom 13 = .ok (.iconst 4, 1) := by decide +kernel
theorem dX6_valueFrom_14 : decode cX6_valueFrom 14 = .ok (.if_icmp .ge 14, 3) := by decide +kernel
theorem dX6_valueFrom_17 : decode cX6_valueFrom 17 = .ok (.aload_n 0, 1) := by decide +kernel
theorem dX6_valueFrom_18 : decode cX6_valueFrom 18 = .ok (.getfield 46, 3) := by decide +kernel
theorem dX6_valueFrom_21 : decode cX6_valueFrom 21 = .ok (.aload_n 3, 1) := by decide +kernel
theorem dX6_valueFrom_22 : decode cX6_valueFrom 22 = .ok (.invokevirtual 65, 3) := by decide +kernel
theorem dX6_valueFrom_25 : decode cX6_valueFrom 25 = .ok (.ifCond .eq 5, 3) := by decide +kernel
theorem dX6_valueFrom_28 : decode cX6_valueFrom 28 = .ok (.iconst 0, 1) := by decide +kernel
theorem dX6_valueFrom_29 : decode cX6_valueFrom 29 = .ok (.ireturn, 1) := by decide +kernel
theorem dX6_valueFrom_30 : decode cX6_valueFrom 30 = .ok (.iload_n 1, 1) := by decide +kernel
theorem dX6_valueFrom_31 : decode cX6_valueFrom 31 = .ok (.iconst 2, 1) := by decide +kernel
theorem dX6_valueFrom_32 : decode cX6_valueFrom 32 = .ok (.irem, 1) := by decide +kernel
theorem dX6_valueFrom_33 : decode cX6_valueFrom 33 = .ok (.ifCond .ne 7, 3) := by decide +kernel
theorem dX6_valueFrom_36 : decode cX6_valueFrom 36 = .ok (.iconst 1, 1) := by decide +kernel
theorem dX6_valueFrom_37 : decode cX6_valueFrom 37 = .ok (.goto 4, 3) := by decide +kernel
theorem dX6_valueFrom_40 : decode cX6_valueFrom 40 = .ok (.iconst 0, 1) := by decide +kernel
theorem dX6_valueFrom_41 : decode cX6_valueFrom 41 = .ok (.istore 4, 2) := by decide +kernel
theorem dX6_valueFrom_43 : decode cX6_valueFrom 43 = .ok (.aload_n 0, 1) := by decide +kernel
theorem dX6_valueFrom_44 : decode cX6_valueFrom 44 = .ok (.getfield 11, 3) := by decide +kernel
theorem dX6_valueFrom_47 : decode cX6_valueFrom 47 = .ok (.iload_n 1, 1) := by decide +kernel
theorem dX6_valueFrom_48 : decode cX6_valueFrom 48 = .ok (.iconst 1, 1) := by decide +kernel
theorem dX6_valueFrom_49 : decode cX6_valueFrom 49 = .ok (.iadd, 1) := by decide +kernel
theorem dX6_valueFrom_50 : decode cX6_valueFrom 50 = .ok (.aaload, 1) := by decide +kernel
theorem dX6_valueFrom_51 : decode cX6_valueFrom 51 = .ok (.astore 5, 2) := by decide +kernel
theorem dX6_valueFrom_53 : decode cX6_valueFrom 53 = .ok (.iconst 0, 1) := by decide +kernel
theorem dX6_valueFrom_54 : decode cX6_valueFrom 54 = .ok (.istore 6, 2) := by decide +kernel
theorem dX6_valueFrom_56 : decode cX6_valueFrom 56 = .ok (.iconst 0, 1) := by decide +kernel
theorem dX6_valueFrom_57 : decode cX6_valueFrom 57 = .ok (.istore 7, 2) := by decide +kernel
theorem dX6_valueFrom_59 : decode cX6_valueFrom 59 = .ok (.iload 7, 2) := by decide +kernel
theorem dX6_valueFrom_61 : decode cX6_valueFrom 61 = .ok (.aload_n 0, 1) := by decide +kernel
theorem dX6_valueFrom_62 : decode cX6_valueFrom 62 = .ok (.getfield 46, 3) := by decide +kernel
theorem dX6_valueFrom_65 : decode cX6_valueFrom 65 = .ok (.getfield 73, 3) := by decide +kernel
theorem dX6_valueFrom_68 : decode cX6_valueFrom 68 = .ok (.if_icmp .gt 82, 3) := by decide +kernel
theorem dX6_valueFrom_71 : decode cX6_valueFrom 71 = .ok (.aload 5, 2) := by decide +kernel
theorem dX6_valueFrom_73 : decode cX6_valueFrom 73 = .ok (.aload_n 3, 1) := by decide +kernel
theorem dX6_valueFrom_74 : decode cX6_valueFrom 74 = .ok (.invokevirtual 57, 3) := by decide +kernel
theorem dX6_valueFrom_77 : decode cX6_valueFrom 77 = .ok (.aload_n 0, 1) := by decide +kernel
theorem dX6_valueFrom_78 : decode cX6_valueFrom 78 = .ok (.getfield 46, 3) := by decide +kernel
theorem dX6_valueFrom_81 : decode cX6_valueFrom 81 = .ok (.aload 5, 2) := by decide +kernel
theorem dX6_valueFrom_83 : decode cX6_valueFrom 83 = .ok (.iload 7, 2) := by decide +kernel
theorem dX6_valueFrom_85 : decode cX6_valueFrom 85 = .ok (.invokevirtual 76, 3) := by decide +kernel
theorem dX6_valueFrom_88 : decode cX6_valueFrom 88 = .ok (.istore 8, 2) := by decide +kernel
theorem dX6_valueFrom_90 : decode cX6_valueFrom 90 = .ok (.iload 8, 2) := by decide +kernel
theorem dX6_valueFrom_92 : decode cX6_valueFrom 92 = .ok (.aload_n 0, 1) := by decide +kernel
theorem dX6_valueFrom_93 : decode cX6_valueFrom 93 = .ok (.iload_n 1, 1) := by decide +kernel
theorem dX6_valueFrom_94 : decode cX6_valueFrom 94 = .ok (.iconst 1, 1) := by decide +kernel
theorem dX6_valueFrom_95 : decode cX6_valueFrom 95 = .ok (.iadd, 1) := by decide +kernel
theorem dX6_valueFrom_96 : decode cX6_valueFrom 96 = .ok (.iload_n 2, 1) := by decide +kernel
theorem dX6_valueFrom_97 : decode cX6_valueFrom 97 = .ok (.invokevirtual 89, 3) := by decide +kernel
theorem dX6_valueFrom_100 : decode cX6_valueFrom 100 = .ok (.iadd, 1) := by decide +kernel
theorem dX6_valueFrom_101 : decode cX6_valueFrom 101 = .ok (.istore 8, 2) := by decide +kernel
theorem dX6_valueFrom_103 : decode cX6_valueFrom 103 = .ok (.iload 7, 2) := by decide +kernel
theorem dX6_valueFrom_105 : decode cX6_valueFrom 105 = .ok (.ifCond .eq 25, 3) := by decide +kernel
theorem dX6_valueFrom_108 : decode cX6_valueFrom 108 = .ok (.iload 4, 2) := by decide +kernel
theorem dX6_valueFrom_110 : decode cX6_valueFrom 110 = .ok (.ifCond .eq 13, 3) := by decide +kernel
theorem dX6_valueFrom_113 : decode cX6_valueFrom 113 = .ok (.iload 8, 2) := by decide +kernel
theorem dX6_valueFrom_115 : decode cX6_valueFrom 115 = .ok (.iload 6, 2) := by decide +kernel
theorem dX6_valueFrom_117 : decode cX6_valueFrom 117 = .ok (.if_icmp .le 27, 3) := by decide +kernel
theorem dX6_valueFrom_120 : decode cX6_valueFrom 120 = .ok (.goto 10, 3) := by decide +kernel
theorem dX6_valueFrom_123 : decode cX6_valueFrom 123 = .ok (.iload 8, 2) := by decide +kernel
theorem dX6_valueFrom_125 : decode cX6_valueFrom 125 = .ok (.iload 6, 2) := by decide +kernel
theorem dX6_valueFrom_127 : decode cX6_valueFrom 127 = .ok (.if_icmp .ge 17, 3) := by decide +kernel
theorem dX6_valueFrom_130 : decode cX6_valueFrom 130 = .ok (.iload 8, 2) := by decide +kernel
theorem dX6_valueFrom_132 : decode cX6_valueFrom 132 = .ok (.istore 6, 2) := by decide +kernel
theorem dX6_valueFrom_134 : decode cX6_valueFrom 134 = .ok (.iload_n 1, 1) := by decide +kernel
theorem dX6_valueFrom_135 : decode cX6_valueFrom 135 = .ok (.ifCond .ne 9, 3) := by decide +kernel
theorem dX6_valueFrom_138 : decode cX6_valueFrom 138 = .ok (.aload_n 0, 1) := by decide +kernel
theorem dX6_valueFrom_139 : decode cX6_valueFrom 139 = .ok (.iload 7, 2) := by decide +kernel
theorem dX6_valueFrom_141 : decode cX6_valueFrom 141 = .ok (.putfield 43, 3) := by decide +kernel
theorem dX6_valueFrom_144 : decode cX6_valueFrom 144 = .ok (.iinc 7 1, 3) := by decide +kernel
theorem dX6_valueFrom_147 : decode cX6_valueFrom 147 = .ok (.goto (-88), 3) := by decide +kernel
theorem dX6_valueFrom_150 : decode cX6_valueFrom 150 = .ok (.iload 6, 2) := by decide +kernel
theorem dX6_valueFrom_152 : decode cX6_valueFrom 152 = .ok (.ireturn, 1) := by decide +kernel
theorem dX7_init_0 : decode cX7_init 0 = .ok (.aload_n 0, 1) := by decide +kernel
theorem dX7_init_1 : decode cX7_init 1 = .ok (.aload_n 1, 1) := by decide +kernel
theorem dX7_init_2 : decode cX7_init 2 = .ok (.invokespecial 1, 3) := by decide +kernel
theorem dX7_init_5 : decode cX7_init 5 = .ok (.return_, 1) := by decide +kernel
theorem dX7_drifts_0 : decode cX7_drifts 0 = .ok (.iconst 2, 1) := by decide +kernel
theorem dX7_drifts_1 : decode cX7_drifts 1 = .ok (.aload_n 0, 1) := by decide +kernel
theorem dX7_drifts_2 : decode cX7_drifts 2 = .ok (.iload_n 1, 1) := by decide +kernel
theorem dX7_drifts_3 : decode cX7_drifts 3 = .ok (.iload_n 2, 1) := by decide +kernel
theorem dX7_drifts_4 : decode cX7_drifts 4 = .ok (.invokespecial 7, 3) := by decide +kernel
theorem dX7_drifts_7 : decode cX7_drifts 7 = .ok (.imul, 1) := by decide +kernel
theorem dX7_drifts_8 : decode cX7_drifts 8 = .ok (.ireturn, 1) := by decide +kernel
theorem dX7_fee_0 : decode cX7_fee 0 = .ok (.aload_n 0, 1) := by decide +kernel
theorem dX7_fee_1 : decode cX7_fee 1 = .ok (.iload_n 1, 1) := by decide +kernel
theorem dX7_fee_2 : decode cX7_fee 2 = .ok (.invokespecial 11, 3) := by decide +kernel
theorem dX7_fee_5 : decode cX7_fee 5 = .ok (.iconst 2, 1) := by decide +kernel
theorem dX7_fee_6 : decode cX7_fee 6 = .ok (.iadd, 1) := by decide +kernel
theorem dX7_fee_7 : decode cX7_fee 7 = .ok (.ireturn, 1) := by decide +kernel
theorem dX7_flies_0 : decode cX7_flies 0 = .ok (.aload_n 0, 1) := by decide +kernel
theorem dX7_flies_1 : decode cX7_flies 1 = .ok (.bipush 20, 2) := by decide +kernel
theorem dX7_flies_3 : decode cX7_flies 3 = .ok (.invokevirtual 15, 3) := by decide +kernel
theorem dX7_flies_6 : decode cX7_flies 6 = .ok (.aload_n 0, 1) := by decide +kernel
theorem dX7_flies_7 : decode cX7_flies 7 = .ok (.iload_n 1, 1) := by decide +kernel
theorem dX7_flies_8 : decode cX7_flies 8 = .ok (.invokespecial 21, 3) := by decide +kernel
theorem dX7_flies_11 : decode cX7_flies 11 = .ok (.iconst 1, 1) := by decide +kernel
theorem dX7_flies_12 : decode cX7_flies 12 = .ok (.isub, 1) := by decide +kernel
theorem dX7_flies_13 : decode cX7_flies 13 = .ok (.ireturn, 1) := by decide +kernel
theorem dX8_init_0 : decode cX8_init 0 = .ok (.aload_n 0, 1) := by decide +kernel
theorem dX8_init_1 : decode cX8_init 1 = .ok (.invokespecial 3, 3) := by decide +kernel
theorem dX8_init_4 : decode cX8_init 4 = .ok (.aload_n 0, 1) := by decide +kernel
theorem dX8_init_5 : decode cX8_init 5 = .ok (.iconst 0, 1) := by decide +kernel
theorem dX8_init_6 : decode cX8_init 6 = .ok (.putfield 9, 3) := by decide +kernel
theorem dX8_init_9 : decode cX8_init 9 = .ok (.aload_n 0, 1) := by decide +kernel
theorem dX8_init_10 : decode cX8_init 10 = .ok (.sipush 200, 3) := by decide +kernel
theorem dX8_init_13 : decode cX8_init 13 = .ok (.newarray .byte, 2) := by decide +kernel
theorem dX8_init_15 : decode cX8_init 15 = .ok (.putfield 15, 3) := by decide +kernel
theorem dX8_init_18 : decode cX8_init 18 = .ok (.aload_n 0, 1) := by decide +kernel
theorem dX8_init_19 : decode cX8_init 19 = .ok (.sipush 201, 3) := by decide +kernel
theorem dX8_init_22 : decode cX8_init 22 = .ok (.newarray .int, 2) := by decide +kernel
theorem dX8_init_24 : decode cX8_init 24 = .ok (.putfield 19, 3) := by decide +kernel
theorem dX8_init_27 : decode cX8_init 27 = .ok (.aload_n 0, 1) := by decide +kernel
theorem dX8_init_28 : decode cX8_init 28 = .ok (.sipush 201, 3) := by decide +kernel
theorem dX8_init_31 : decode cX8_init 31 = .ok (.newarray .int, 2) := by decide +kernel
theorem dX8_init_33 : decode cX8_init 33 = .ok (.putfield 23, 3) := by decide +kernel
theorem dX8_init_36 : decode cX8_init 36 = .ok (.aload_n 0, 1) := by decide +kernel
theorem dX8_init_37 : decode cX8_init 37 = .ok (.iconst 0, 1) := by decide +kernel
theorem dX8_init_38 : decode cX8_init 38 = .ok (.putfield 26, 3) := by decide +kernel
theorem dX8_init_41 : decode cX8_init 41 = .ok (.aload_n 0, 1) := by decide +kernel
theorem dX8_init_42 : decode cX8_init 42 = .ok (.iconst 0, 1) := by decide +kernel
theorem dX8_init_43 : decode cX8_init 43 = .ok (.putfield 29, 3) := by decide +kernel
theorem dX8_init_46 : decode cX8_init 46 = .ok (.aload_n 0, 1) := by decide +kernel
theorem dX8_init_47 : decode cX8_init 47 = .ok (.iconst (-1), 1) := by decide +kernel
theorem dX8_init_48 : decode cX8_init 48 = .ok (.putfield 32, 3) := by decide +kernel
theorem dX8_init_51 : decode cX8_init 51 = .ok (.aload_n 0, 1) := by decide +kernel
theorem dX8_init_52 : decode cX8_init 52 = .ok (.new 35, 3) := by decide +kernel
theorem dX8_init_55 : decode cX8_init 55 = .ok (.dup, 1) := by decide +kernel
theorem dX8_init_56 : decode cX8_init 56 = .ok (.invokespecial 37, 3) := by decide +kernel
theorem dX8_init_59 : decode cX8_init 59 = .ok (.putfield 38, 3) := by decide +kernel
theorem dX8_init_62 : decode cX8_init 62 = .ok (.return_, 1) := by decide +kernel
theorem dX8_take_0 : decode cX8_take 0 = .ok (.iconst 0, 1) := by decide +kernel
theorem dX8_take_1 : decode cX8_take 1 = .ok (.istore 4, 2) := by decide +kernel
theorem dX8_take_3 : decode cX8_take 3 = .ok (.iload 4, 2) := by decide +kernel
theorem dX8_take_5 : decode cX8_take 5 = .ok (.iload_n 3, 1) := by decide +kernel
theorem dX8_take_6 : decode cX8_take 6 = .ok (.if_icmp .ge 47, 3) := by decide +kernel
theorem dX8_take_9 : decode cX8_take 9 = .ok (.aload_n 0, 1) := by decide +kernel
theorem dX8_take_10 : decode cX8_take 10 = .ok (.getfield 9, 3) := by decide +kernel
theorem dX8_take_13 : decode cX8_take 13 = .ok (.sipush 200, 3) := by decide +kernel
theorem dX8_take_16 : decode cX8_take 16 = .ok (.if_icmp .ge 37, 3) := by decide +kernel
theorem dX8_take_19 : decode cX8_take 19 = .ok (.aload_n 0, 1) := by decide +kernel
theorem dX8_take_20 : decode cX8_take 20 = .ok (.getfield 15, 3) := by decide +kernel
theorem dX8_take_23 : decode cX8_take 23 = .ok (.aload_n 0, 1) := by decide +kernel
theorem dX8_take_24 : decode cX8_take 24 = .ok (.getfield 9, 3) := by decide +kernel
theorem dX8_take_27 : decode cX8_take 27 = .ok (.lload_n 1, 1) := by decide +kernel
theorem dX8_take_28 : decode cX8_take 28 = .ok (.bipush 8, 2) := by decide +kernel
theorem dX8_take_30 : decode cX8_take 30 = .ok (.iload 4, 2) := by decide +kernel
theorem dX8_take_32 : decode cX8_take 32 = .ok (.imul, 1) := by decide +kernel
theorem dX8_take_33 : decode cX8_take 33 = .ok (.lushr, 1) := by decide +kernel
theorem dX8_take_34 : decode cX8_take 34 = .ok (.l2i, 1) := by decide +kernel
theorem dX8_take_35 : decode cX8_take 35 = .ok (.i2b, 1) := by decide +kernel
theorem dX8_take_36 : decode cX8_take 36 = .ok (.bastore, 1) := by decide +kernel
theorem dX8_take_37 : decode cX8_take 37 = .ok (.aload_n 0, 1) := by decide +kernel
theorem dX8_take_38 : decode cX8_take 38 = .ok (.dup, 1) := by decide +kernel
theorem dX8_take_39 : decode cX8_take 39 = .ok (.getfield 9, 3) := by decide +kernel
theorem dX8_take_42 : decode cX8_take 42 = .ok (.iconst 1, 1) := by decide +kernel
theorem dX8_take_43 : decode cX8_take 43 = .ok (.iadd, 1) := by decide +kernel
theorem dX8_take_44 : decode cX8_take 44 = .ok (.putfield 9, 3) := by decide +kernel
theorem dX8_take_47 : decode cX8_take 47 = .ok (.iinc 4 1, 3) := by decide +kernel
theorem dX8_take_50 : decode cX8_take 50 = .ok (.goto (-47), 3) := by decide +kernel
theorem dX8_take_53 : decode cX8_take 53 = .ok (.aload_n 0, 1) := by decide +kernel
theorem dX8_take_54 : decode cX8_take 54 = .ok (.getfield 9, 3) := by decide +kernel
theorem dX8_take_57 : decode cX8_take 57 = .ok (.ireturn, 1) := by decide +kernel
theorem dX8_readInto_0 : decode cX8_readInto 0 = .ok (.aload_n 0, 1) := by decide +kernel
theorem dX8_readInto_1 : decode cX8_readInto 1 = .ok (.invokevirtual 42, 3) := by decide +kernel
theorem dX8_readInto_4 : decode cX8_readInto 4 = .ok (.aload_n 0, 1) := by decide +kernel
theorem dX8_readInto_5 : decode cX8_readInto 5 = .ok (.getfield 38, 3) := by decide +kernel
theorem dX8_readInto_8 : decode cX8_readInto 8 = .ok (.invokevirtual 45, 3) := by decide +kernel
theorem dX8_readInto_11 : decode cX8_readInto 11 = .ok (.aload_n 0, 1) := by decide +kernel
theorem dX8_readInto_12 : decode cX8_readInto 12 = .ok (.iconst 0, 1) := by decide +kernel
theorem dX8_readInto_13 : decode cX8_readInto 13 = .ok (.putfield 29, 3) := by decide +kernel
theorem dX8_readInto_16 : decode cX8_readInto 16 = .ok (.aload_n 0, 1) := by decide +kernel
theorem dX8_readInto_17 : decode cX8_readInto 17 = .ok (.iconst (-1), 1) := by decide +kernel
theorem dX8_readInto_18 : decode cX8_readInto 18 = .ok (.putfield 32, 3) := by decide +kernel
theorem dX8_readInto_21 : decode cX8_readInto 21 = .ok (.iconst 0, 1) := by decide +kernel
theorem dX8_readInto_22 : decode cX8_readInto 22 = .ok (.istore_n 2, 1) := by decide +kernel
theorem dX8_readInto_23 : decode cX8_readInto 23 = .ok (.iload_n 2, 1) := by decide +kernel
theorem dX8_readInto_24 : decode cX8_readInto 24 = .ok (.bipush 8, 2) := by decide +kernel
theorem dX8_readInto_26 : decode cX8_readInto 26 = .ok (.if_icmp .gt 29, 3) := by decide +kernel
theorem dX8_readInto_29 : decode cX8_readInto 29 = .ok (.aload_n 0, 1) := by decide +kernel
theorem dX8_readInto_30 : decode cX8_readInto 30 = .ok (.invokevirtual 48, 3) := by decide +kernel
theorem dX8_readInto_33 : decode cX8_readInto 33 = .ok (.ifCond .eq 22, 3) := by decide +kernel
theorem dX8_readInto_36 : decode cX8_readInto 36 = .ok (.aload_n 0, 1) := by decide +kernel
theorem dX8_readInto_37 : decode cX8_readInto 37 = .ok (.invokevirtual 52, 3) := by decide +kernel
theorem dX8_readInto_40 : decode cX8_readInto 40 = .ok (.bipush 27, 2) := by decide +kernel
theorem dX8_readInto_42 : decode cX8_readInto 42 = .ok (.if_icmp .eq 13, 3) := by decide +kernel
theorem dX8_readInto_45 : decode cX8_readInto 45 = .ok (.aload_n 0, 1) := by decide +kernel
theorem dX8_readInto_46 : decode cX8_readInto 46 = .ok (.invokevirtual 56, 3) := by decide +kernel
theorem dX8_readInto_49 : decode cX8_readInto 49 = .ok (.iinc 2 1, 3) := by decide +kernel
theorem dX8_readInto_52 : decode cX8_readInto 52 = .ok (.goto (-29), 3) := by decide +kernel
theorem dX8_readInto_55 : decode cX8_readInto 55 = .ok (.aload_n 0, 1) := by decide +kernel
theorem dX8_readInto_56 : decode cX8_readInto 56 = .ok (.iconst 0, 1) := by decide +kernel
theorem dX8_readInto_57 : decode cX8_readInto 57 = .ok (.putfield 9, 3) := by decide +kernel
theorem dX8_readInto_60 : decode cX8_readInto 60 = .ok (.aload_n 0, 1) := by decide +kernel
theorem dX8_readInto_61 : decode cX8_readInto 61 = .ok (.getfield 32, 3) := by decide +kernel
theorem dX8_readInto_64 : decode cX8_readInto 64 = .ok (.iconst (-1), 1) := by decide +kernel
theorem dX8_readInto_65 : decode cX8_readInto 65 = .ok (.if_icmp .eq 11, 3) := by decide +kernel
theorem dX8_readInto_68 : decode cX8_readInto 68 = .ok (.bipush (-100), 2) := by decide +kernel
theorem dX8_readInto_70 : decode cX8_readInto 70 = .ok (.aload_n 0, 1) := by decide +kernel
theorem dX8_readInto_71 : decode cX8_readInto 71 = .ok (.getfield 32, 3) := by decide +kernel
theorem dX8_readInto_74 : decode cX8_readInto 74 = .ok (.isub, 1) := by decide +kernel
theorem dX8_readInto_75 : decode cX8_readInto 75 = .ok (.ireturn, 1) := by decide +kernel
theorem dX8_readInto_76 : decode cX8_readInto 76 = .ok (.aload_n 1, 1) := by decide +kernel
theorem dX8_readInto_77 : decode cX8_readInto 77 = .ok (.aload_n 0, 1) := by decide +kernel
theorem dX8_readInto_78 : decode cX8_readInto 78 = .ok (.getfield 38, 3) := by decide +kernel
theorem dX8_readInto_81 : decode cX8_readInto 81 = .ok (.invokevirtual 59, 3) := by decide +kernel
theorem dX8_readInto_84 : decode cX8_readInto 84 = .ok (.aload_n 1, 1) := by decide +kernel
theorem dX8_readInto_85 : decode cX8_readInto 85 = .ok (.getfield 63, 3) := by decide +kernel
theorem dX8_readInto_88 : decode cX8_readInto 88 = .ok (.ireturn, 1) := by decide +kernel
theorem dX8_readTokens_0 : decode cX8_readTokens 0 = .ok (.aload_n 0, 1) := by decide +kernel
theorem dX8_readTokens_1 : decode cX8_readTokens 1 = .ok (.iconst 0, 1) := by decide +kernel
theorem dX8_readTokens_2 : decode cX8_readTokens 2 = .ok (.putfield 26, 3) := by decide +kernel
theorem dX8_readTokens_5 : decode cX8_readTokens 5 = .ok (.iconst 0, 1) := by decide +kernel
theorem dX8_readTokens_6 : decode cX8_readTokens 6 = .ok (.istore_n 1, 1) := by decide +kernel
theorem dX8_readTokens_7 : decode cX8_readTokens 7 = .ok (.iload_n 1, 1) := by decide +kernel
theorem dX8_readTokens_8 : decode cX8_readTokens 8 = .ok (.aload_n 0, 1) := by decide +kernel
theorem dX8_readTokens_9 : decode cX8_readTokens 9 = .ok (.getfield 9, 3) := by decide +kernel
theorem dX8_readTokens_12 : decode cX8_readTokens 12 = .ok (.if_icmp .ge 74, 3) := by decide +kernel
theorem dX8_readTokens_15 : decode cX8_readTokens 15 = .ok (.aload_n 0, 1) := by decide +kernel
theorem dX8_readTokens_16 : decode cX8_readTokens 16 = .ok (.getfield 15, 3) := by decide +kernel
theorem dX8_readTokens_19 : decode cX8_readTokens 19 = .ok (.iload_n 1, 1) := by decide +kernel
theorem dX8_readTokens_20 : decode cX8_readTokens 20 = .ok (.baload, 1) := by decide +kernel
theorem dX8_readTokens_21 : decode cX8_readTokens 21 = .ok (.bipush 32, 2) := by decide +kernel
theorem dX8_readTokens_23 : decode cX8_readTokens 23 = .ok (.if_icmp .eq 57, 3) := by decide +kernel
theorem dX8_readTokens_26 : decode cX8_readTokens 26 = .ok (.iload_n 1, 1) := by decide +kernel
theorem dX8_readTokens_27 : decode cX8_readTokens 27 = .ok (.ifCond .le 14, 3) := by decide +kernel
theorem dX8_readTokens_30 : decode cX8_readTokens 30 = .ok (.aload_n 0, 1) := by decide +kernel
theorem dX8_readTokens_31 : decode cX8_readTokens 31 = .ok (.iload_n 1, 1) := by decide +kernel
theorem dX8_readTokens_32 : decode cX8_readTokens 32 = .ok (.iconst 1, 1) := by decide +kernel
theorem dX8_readTokens_33 : decode cX8_readTokens 33 = .ok (.isub, 1) := by decide +kernel
theorem dX8_readTokens_34 : decode cX8_readTokens 34 = .ok (.iload_n 1, 1) := by decide +kernel
theorem dX8_readTokens_35 : decode cX8_readTokens 35 = .ok (.invokevirtual 66, 3) := by decide +kernel
theorem dX8_readTokens_38 : decode cX8_readTokens 38 = .ok (.ifCond .ne 42, 3) := by decide +kernel
theorem dX8_readTokens_41 : decode cX8_readTokens 41 = .ok (.aload_n 0, 1) := by decide +kernel
theorem dX8_readTokens_42 : decode cX8_readTokens 42 = .ok (.getfield 19, 3) := by decide +kernel
theorem dX8_readTokens_45 : decode cX8_readTokens 45 = .ok (.aload_n 0, 1) := by decide +kernel
theorem dX8_readTokens_46 : decode cX8_readTokens 46 = .ok (.getfield 26, 3) := by decide +kernel
theorem dX8_readTokens_49 : decode cX8_readTokens 49 = .ok (.aload_n 0, 1) := by decide +kernel
theorem dX8_readTokens_50 : decode cX8_readTokens 50 = .ok (.iload_n 1, 1) := by decide +kernel
theorem dX8_readTokens_51 : decode cX8_readTokens 51 = .ok (.aload_n 0, 1) := by decide +kernel
theorem dX8_readTokens_52 : decode cX8_readTokens 52 = .ok (.iload_n 1, 1) := by decide +kernel
theorem dX8_readTokens_53 : decode cX8_readTokens 53 = .ok (.invokevirtual 70, 3) := by decide +kernel
theorem dX8_readTokens_56 : decode cX8_readTokens 56 = .ok (.invokevirtual 74, 3) := by decide +kernel
theorem dX8_readTokens_59 : decode cX8_readTokens 59 = .ok (.iastore, 1) := by decide +kernel
theorem dX8_readTokens_60 : decode cX8_readTokens 60 = .ok (.aload_n 0, 1) := by decide +kernel
theorem dX8_readTokens_61 : decode cX8_readTokens 61 = .ok (.getfield 23, 3) := by decide +kernel
theorem dX8_readTokens_64 : decode cX8_readTokens 64 = .ok (.aload_n 0, 1) := by decide +kernel
theorem dX8_readTokens_65 : decode cX8_readTokens 65 = .ok (.getfield 26, 3) := by decide +kernel
theorem dX8_readTokens_68 : decode cX8_readTokens 68 = .ok (.iload_n 1, 1) := by decide +kernel
theorem dX8_readTokens_69 : decode cX8_readTokens 69 = .ok (.iastore, 1) := by decide +kernel
theorem dX8_readTokens_70 : decode cX8_readTokens 70 = .ok (.aload_n 0, 1) := by decide +kernel
theorem dX8_readTokens_71 : decode cX8_readTokens 71 = .ok (.dup, 1) := by decide +kernel
theorem dX8_readTokens_72 : decode cX8_readTokens 72 = .ok (.getfield 26, 3) := by decide +kernel
theorem dX8_readTokens_75 : decode cX8_readTokens 75 = .ok (.iconst 1, 1) := by decide +kernel
theorem dX8_readTokens_76 : decode cX8_readTokens 76 = .ok (.iadd, 1) := by decide +kernel
theorem dX8_readTokens_77 : decode cX8_readTokens 77 = .ok (.putfield 26, 3) := by decide +kernel
theorem dX8_readTokens_80 : decode cX8_readTokens 80 = .ok (.iinc 1 1, 3) := by decide +kernel
theorem dX8_readTokens_83 : decode cX8_readTokens 83 = .ok (.goto (-76), 3) := by decide +kernel
theorem dX8_readTokens_86 : decode cX8_readTokens 86 = .ok (.aload_n 0, 1) := by decide +kernel
theorem dX8_readTokens_87 : decode cX8_readTokens 87 = .ok (.getfield 19, 3) := by decide +kernel
theorem dX8_readTokens_90 : decode cX8_readTokens 90 = .ok (.aload_n 0, 1) := by decide +kernel
theorem dX8_readTokens_91 : decode cX8_readTokens 91 = .ok (.getfield 26, 3) := by decide +kernel
theorem dX8_readTokens_94 : decode cX8_readTokens 94 = .ok (.bipush 27, 2) := by decide +kernel
theorem dX8_readTokens_96 : decode cX8_readTokens 96 = .ok (.iastore, 1) := by decide +kernel
theorem dX8_readTokens_97 : decode cX8_readTokens 97 = .ok (.aload_n 0, 1) := by decide +kernel
theorem dX8_readTokens_98 : decode cX8_readTokens 98 = .ok (.getfield 23, 3) := by decide +kernel
theorem dX8_readTokens_101 : decode cX8_readTokens 101 = .ok (.aload_n 0, 1) := by decide +kernel
theorem dX8_readTokens_102 : decode cX8_readTokens 102 = .ok (.getfield 26, 3) := by decide +kernel
theorem dX8_readTokens_105 : decode cX8_readTokens 105 = .ok (.aload_n 0, 1) := by decide +kernel
theorem dX8_readTokens_106 : decode cX8_readTokens 106 = .ok (.getfield 9, 3) := by decide +kernel
theorem dX8_readTokens_109 : decode cX8_readTokens 109 = .ok (.iastore, 1) := by decide +kernel
theorem dX8_readTokens_110 : decode cX8_readTokens 110 = .ok (.return_, 1) := by decide +kernel
theorem dX8_isOneRow_0 : decode cX8_isOneRow 0 = .ok (.aload_n 0, 1) := by decide +kernel
theorem dX8_isOneRow_1 : decode cX8_isOneRow 1 = .ok (.iload_n 1, 1) := by decide +kernel
theorem dX8_isOneRow_2 : decode cX8_isOneRow 2 = .ok (.invokevirtual 78, 3) := by decide +kernel
theorem dX8_isOneRow_5 : decode cX8_isOneRow 5 = .ok (.ifCond .eq 11, 3) := by decide +kernel
theorem dX8_isOneRow_8 : decode cX8_isOneRow 8 = .ok (.aload_n 0, 1) := by decide +kernel
theorem dX8_isOneRow_9 : decode cX8_isOneRow 9 = .ok (.iload_n 2, 1) := by decide +kernel
theorem dX8_isOneRow_10 : decode cX8_isOneRow 10 = .ok (.invokevirtual 78, 3) := by decide +kernel
theorem dX8_isOneRow_13 : decode cX8_isOneRow 13 = .ok (.ifCond .ne 19, 3) := by decide +kernel
theorem dX8_isOneRow_16 : decode cX8_isOneRow 16 = .ok (.aload_n 0, 1) := by decide +kernel
theorem dX8_isOneRow_17 : decode cX8_isOneRow 17 = .ok (.iload_n 1, 1) := by decide +kernel
theorem dX8_isOneRow_18 : decode cX8_isOneRow 18 = .ok (.invokevirtual 82, 3) := by decide +kernel
theorem dX8_isOneRow_21 : decode cX8_isOneRow 21 = .ok (.ifCond .eq 15, 3) := by decide +kernel
theorem dX8_isOneRow_24 : decode cX8_isOneRow 24 = .ok (.aload_n 0, 1) := by decide +kernel
theorem dX8_isOneRow_25 : decode cX8_isOneRow 25 = .ok (.iload_n 2, 1) := by decide +kernel
theorem dX8_isOneRow_26 : decode cX8_isOneRow 26 = .ok (.invokevirtual 82, 3) := by decide +kernel
theorem dX8_isOneRow_29 : decode cX8_isOneRow 29 = .ok (.ifCond .eq 7, 3) := by decide +kernel
theorem dX8_isOneRow_32 : decode cX8_isOneRow 32 = .ok (.iconst 1, 1) := by decide +kernel
theorem dX8_isOneRow_33 : decode cX8_isOneRow 33 = .ok (.goto 4, 3) := by decide +kernel
theorem dX8_isOneRow_36 : decode cX8_isOneRow 36 = .ok (.iconst 0, 1) := by decide +kernel
theorem dX8_isOneRow_37 : decode cX8_isOneRow 37 = .ok (.ireturn, 1) := by decide +kernel
theorem dX8_endOfRow_0 : decode cX8_endOfRow 0 = .ok (.iload_n 1, 1) := by decide +kernel
theorem dX8_endOfRow_1 : decode cX8_endOfRow 1 = .ok (.iconst 1, 1) := by decide +kernel
theorem dX8_endOfRow_2 : decode cX8_endOfRow 2 = .ok (.iadd, 1) := by decide +kernel
theorem dX8_endOfRow_3 : decode cX8_endOfRow 3 = .ok (.istore_n 2, 1) := by decide +kernel
theorem dX8_endOfRow_4 : decode cX8_endOfRow 4 = .ok (.iload_n 2, 1) := by decide +kernel
theorem dX8_endOfRow_5 : decode cX8_endOfRow 5 = .ok (.aload_n 0, 1) := by decide +kernel
theorem dX8_endOfRow_6 : decode cX8_endOfRow 6 = .ok (.getfield 9, 3) := by decide +kernel
theorem dX8_endOfRow_9 : decode cX8_endOfRow 9 = .ok (.if_icmp .ge 22, 3) := by decide +kernel
theorem dX8_endOfRow_12 : decode cX8_endOfRow 12 = .ok (.aload_n 0, 1) := by decide +kernel
theorem dX8_endOfRow_13 : decode cX8_endOfRow 13 = .ok (.iload_n 2, 1) := by decide +kernel
theorem dX8_endOfRow_14 : decode cX8_endOfRow 14 = .ok (.iconst 1, 1) := by decide +kernel
theorem dX8_endOfRow_15 : decode cX8_endOfRow 15 = .ok (.isub, 1) := by decide +kernel
theorem dX8_endOfRow_16 : decode cX8_endOfRow 16 = .ok (.iload_n 2, 1) := by decide +kernel
theorem dX8_endOfRow_17 : decode cX8_endOfRow 17 = .ok (.invokevirtual 66, 3) := by decide +kernel
theorem dX8_endOfRow_20 : decode cX8_endOfRow 20 = .ok (.ifCond .ne 5, 3) := by decide +kernel
theorem dX8_endOfRow_23 : decode cX8_endOfRow 23 = .ok (.iload_n 2, 1) := by decide +kernel
theorem dX8_endOfRow_24 : decode cX8_endOfRow 24 = .ok (.ireturn, 1) := by decide +kernel
theorem dX8_endOfRow_25 : decode cX8_endOfRow 25 = .ok (.iinc 2 1, 3) := by decide +kernel
theorem dX8_endOfRow_28 : decode cX8_endOfRow 28 = .ok (.goto (-24), 3) := by decide +kernel
theorem dX8_endOfRow_31 : decode cX8_endOfRow 31 = .ok (.aload_n 0, 1) := by decide +kernel
theorem dX8_endOfRow_32 : decode cX8_endOfRow 32 = .ok (.getfield 9, 3) := by decide +kernel
theorem dX8_endOfRow_35 : decode cX8_endOfRow 35 = .ok (.ireturn, 1) := by decide +kernel
theorem dX8_isLetter_0 : decode cX8_isLetter 0 = .ok (.aload_n 0, 1) := by decide +kernel
theorem dX8_isLetter_1 : decode cX8_isLetter 1 = .ok (.getfield 15, 3) := by decide +kernel
theorem dX8_isLetter_4 : decode cX8_isLetter 4 = .ok (.iload_n 1, 1) := by decide +kernel
theorem dX8_isLetter_5 : decode cX8_isLetter 5 = .ok (.baload, 1) := by decide +kernel
theorem dX8_isLetter_6 : decode cX8_isLetter 6 = .ok (.bipush 97, 2) := by decide +kernel
theorem dX8_isLetter_8 : decode cX8_isLetter 8 = .ok (.bipush 122, 2) := by decide +kernel
theorem dX8_isLetter_10 : decode cX8_isLetter 10 = .ok (.invokestatic 85, 3) := by decide +kernel
theorem dX8_isLetter_13 : decode cX8_isLetter 13 = .ok (.ireturn, 1) := by decide +kernel
theorem dX8_isDigit_0 : decode cX8_isDigit 0 = .ok (.aload_n 0, 1) := by decide +kernel
theorem dX8_isDigit_1 : decode cX8_isDigit 1 = .ok (.getfield 15, 3) := by decide +kernel
theorem dX8_isDigit_4 : decode cX8_isDigit 4 = .ok (.iload_n 1, 1) := by decide +kernel
theorem dX8_isDigit_5 : decode cX8_isDigit 5 = .ok (.baload, 1) := by decide +kernel
theorem dX8_isDigit_6 : decode cX8_isDigit 6 = .ok (.bipush 48, 2) := by decide +kernel
theorem dX8_isDigit_8 : decode cX8_isDigit 8 = .ok (.bipush 57, 2) := by decide +kernel
theorem dX8_isDigit_10 : decode cX8_isDigit 10 = .ok (.invokestatic 85, 3) := by decide +kernel
theorem dX8_isDigit_13 : decode cX8_isDigit 13 = .ok (.ireturn, 1) := by decide +kernel
theorem dX8_tokenOf_0 : decode cX8_tokenOf 0 = .ok (.aload_n 0, 1) := by decide +kernel
theorem dX8_tokenOf_1 : decode cX8_tokenOf 1 = .ok (.iload_n 1, 1) := by decide +kernel
theorem dX8_tokenOf_2 : decode cX8_tokenOf 2 = .ok (.invokevirtual 78, 3) := by decide +kernel
theorem dX8_tokenOf_5 : decode cX8_tokenOf 5 = .ok (.ifCond .eq 10, 3) := by decide +kernel
theorem dX8_tokenOf_8 : decode cX8_tokenOf 8 = .ok (.aload_n 0, 1) := by decide +kernel
theorem dX8_tokenOf_9 : decode cX8_tokenOf 9 = .ok (.iload_n 1, 1) := by decide +kernel
theorem dX8_tokenOf_10 : decode cX8_tokenOf 10 = .ok (.iload_n 2, 1) := by decide +kernel
theorem dX8_tokenOf_11 : decode cX8_tokenOf 11 = .ok (.invokevirtual 89, 3) := by decide +kernel
theorem dX8_tokenOf_14 : decode cX8_tokenOf 14 = .ok (.ireturn, 1) := by decide +kernel
theorem dX8_tokenOf_15 : decode cX8_tokenOf 15 = .ok (.aload_n 0, 1) := by decide +kernel
theorem dX8_tokenOf_16 : decode cX8_tokenOf 16 = .ok (.iload_n 1, 1) := by decide +kernel
theorem dX8_tokenOf_17 : decode cX8_tokenOf 17 = .ok (.invokevirtual 82, 3) := by decide +kernel
theorem dX8_tokenOf_20 : decode cX8_tokenOf 20 = .ok (.ifCond .eq 10, 3) := by decide +kernel
theorem dX8_tokenOf_23 : decode cX8_tokenOf 23 = .ok (.aload_n 0, 1) := by decide +kernel
theorem dX8_tokenOf_24 : decode cX8_tokenOf 24 = .ok (.iload_n 1, 1) := by decide +kernel
theorem dX8_tokenOf_25 : decode cX8_tokenOf 25 = .ok (.iload_n 2, 1) := by decide +kernel
theorem dX8_tokenOf_26 : decode cX8_tokenOf 26 = .ok (.invokevirtual 92, 3) := by decide +kernel
theorem dX8_tokenOf_29 : decode cX8_tokenOf 29 = .ok (.ireturn, 1) := by decide +kernel
theorem dX8_tokenOf_30 : decode cX8_tokenOf 30 = .ok (.aload_n 0, 1) := by decide +kernel
theorem dX8_tokenOf_31 : decode cX8_tokenOf 31 = .ok (.getfield 15, 3) := by decide +kernel
theorem dX8_tokenOf_34 : decode cX8_tokenOf 34 = .ok (.iload_n 1, 1) := by decide +kernel
theorem dX8_tokenOf_35 : decode cX8_tokenOf 35 = .ok (.baload, 1) := by decide +kernel
theorem dX8_tokenOf_36 : decode cX8_tokenOf 36 = .ok (.lookupswitch 78 #[(40, 63), (41, 66), (59, 60), (60, 69), (61, 72), (62, 75)], 60) := by decide +kernel
theorem dX8_tokenOf_96 : decode cX8_tokenOf 96 = .ok (.bipush 20, 2) := by decide +kernel
theorem dX8_tokenOf_98 : decode cX8_tokenOf 98 = .ok (.ireturn, 1) := by decide +kernel
theorem dX8_tokenOf_99 : decode cX8_tokenOf 99 = .ok (.bipush 21, 2) := by decide +kernel
theorem dX8_tokenOf_101 : decode cX8_tokenOf 101 = .ok (.ireturn, 1) := by decide +kernel
theorem dX8_tokenOf_102 : decode cX8_tokenOf 102 = .ok (.bipush 22, 2) := by decide +kernel
theorem dX8_tokenOf_104 : decode cX8_tokenOf 104 = .ok (.ireturn, 1) := by decide +kernel
theorem dX8_tokenOf_105 : decode cX8_tokenOf 105 = .ok (.bipush 23, 2) := by decide +kernel
theorem dX8_tokenOf_107 : decode cX8_tokenOf 107 = .ok (.ireturn, 1) := by decide +kernel
theorem dX8_tokenOf_108 : decode cX8_tokenOf 108 = .ok (.bipush 24, 2) := by decide +kernel
theorem dX8_tokenOf_110 : decode cX8_tokenOf 110 = .ok (.ireturn, 1) := by decide +kernel
theorem dX8_tokenOf_111 : decode cX8_tokenOf 111 = .ok (.bipush 25, 2) := by decide +kernel
theorem dX8_tokenOf_113 : decode cX8_tokenOf 113 = .ok (.ireturn, 1) := by decide +kernel
theorem dX8_tokenOf_114 : decode cX8_tokenOf 114 = .ok (.bipush 26, 2) := by decide +kernel
theorem dX8_tokenOf_116 : decode cX8_tokenOf 116 = .ok (.ireturn, 1) := by decide +kernel
theorem dX8_wordOf_0 : decode cX8_wordOf 0 = .ok (.iconst 0, 1) := by decide +kernel
theorem dX8_wordOf_1 : decode cX8_wordOf 1 = .ok (.istore_n 3, 1) := by decide +kernel
theorem dX8_wordOf_2 : decode cX8_wordOf 2 = .ok (.iload_n 1, 1) := by decide +kernel
theorem dX8_wordOf_3 : decode cX8_wordOf 3 = .ok (.istore 4, 2) := by decide +kernel
theorem dX8_wordOf_5 : decode cX8_wordOf 5 = .ok (.iconst 1, 1) := by decide +kernel
theorem dX8_wordOf_6 : decode cX8_wordOf 6 = .ok (.istore 5, 2) := by decide +kernel
theorem dX8_wordOf_8 : decode cX8_wordOf 8 = .ok (.iconst 0, 1) := by decide +kernel
theorem dX8_wordOf_9 : decode cX8_wordOf 9 = .ok (.istore 6, 2) := by decide +kernel
theorem dX8_wordOf_11 : decode cX8_wordOf 11 = .ok (.iload 6, 2) := by decide +kernel
theorem dX8_wordOf_13 : decode cX8_wordOf 13 = .ok (.ldc 95, 2) := by decide +kernel
theorem dX8_wordOf_15 : decode cX8_wordOf 15 = .ok (.invokevirtual 97, 3) := by decide +kernel
theorem dX8_wordOf_18 : decode cX8_wordOf 18 = .ok (.if_icmp .ge 83, 3) := by decide +kernel
theorem dX8_wordOf_21 : decode cX8_wordOf 21 = .ok (.ldc 95, 2) := by decide +kernel
theorem dX8_wordOf_23 : decode cX8_wordOf 23 = .ok (.iload 6, 2) := by decide +kernel
theorem dX8_wordOf_25 : decode cX8_wordOf 25 = .ok (.invokevirtual 101, 3) := by decide +kernel
theorem dX8_wordOf_28 : decode cX8_wordOf 28 = .ok (.istore 7, 2) := by decide +kernel
theorem dX8_wordOf_30 : decode cX8_wordOf 30 = .ok (.iload 7, 2) := by decide +kernel
theorem dX8_wordOf_32 : decode cX8_wordOf 32 = .ok (.bipush 32, 2) := by decide +kernel
theorem dX8_wordOf_34 : decode cX8_wordOf 34 = .ok (.if_icmp .eq 39, 3) := by decide +kernel
theorem dX8_wordOf_37 : decode cX8_wordOf 37 = .ok (.iload 5, 2) := by decide +kernel
theorem dX8_wordOf_39 : decode cX8_wordOf 39 = .ok (.ifCond .eq 25, 3) := by decide +kernel
theorem dX8_wordOf_42 : decode cX8_wordOf 42 = .ok (.iload 4, 2) := by decide +kernel
theorem dX8_wordOf_44 : decode cX8_wordOf 44 = .ok (.iload_n 2, 1) := by decide +kernel
theorem dX8_wordOf_45 : decode cX8_wordOf 45 = .ok (.if_icmp .ge 19, 3) := by decide +kernel
theorem dX8_wordOf_48 : decode cX8_wordOf 48 = .ok (.aload_n 0, 1) := by decide +kernel
theorem dX8_wordOf_49 : decode cX8_wordOf 49 = .ok (.getfield 15, 3) := by decide +kernel
theorem dX8_wordOf_52 : decode cX8_wordOf 52 = .ok (.iload 4, 2) := by decide +kernel
theorem dX8_wordOf_54 : decode cX8_wordOf 54 = .ok (.baload, 1) := by decide +kernel
theorem dX8_wordOf_55 : decode cX8_wordOf 55 = .ok (.iload 7, 2) := by decide +kernel
theorem dX8_wordOf_57 : decode cX8_wordOf 57 = .ok (.if_icmp .ne 7, 3) := by decide +kernel
theorem dX8_wordOf_60 : decode cX8_wordOf 60 = .ok (.iconst 1, 1) := by decide +kernel
theorem dX8_wordOf_61 : decode cX8_wordOf 61 = .ok (.goto 4, 3) := by decide +kernel
theorem dX8_wordOf_64 : decode cX8_wordOf 64 = .ok (.iconst 0, 1) := by decide +kernel
theorem dX8_wordOf_65 : decode cX8_wordOf 65 = .ok (.istore 5, 2) := by decide +kernel
theorem dX8_wordOf_67 : decode cX8_wordOf 67 = .ok (.iinc 4 1, 3) := by decide +kernel
theorem dX8_wordOf_70 : decode cX8_wordOf 70 = .ok (.goto 25, 3) := by decide +kernel
theorem dX8_wordOf_73 : decode cX8_wordOf 73 = .ok (.iload 5, 2) := by decide +kernel
theorem dX8_wordOf_75 : decode cX8_wordOf 75 = .ok (.ifCond .eq 11, 3) := by decide +kernel
theorem dX8_wordOf_78 : decode cX8_wordOf 78 = .ok (.iload 4, 2) := by decide +kernel
theorem dX8_wordOf_80 : decode cX8_wordOf 80 = .ok (.iload_n 2, 1) := by decide +kernel
theorem dX8_wordOf_81 : decode cX8_wordOf 81 = .ok (.if_icmp .ne 5, 3) := by decide +kernel
theorem dX8_wordOf_84 : decode cX8_wordOf 84 = .ok (.iload_n 3, 1) := by decide +kernel
theorem dX8_wordOf_85 : decode cX8_wordOf 85 = .ok (.ireturn, 1) := by decide +kernel
theorem dX8_wordOf_86 : decode cX8_wordOf 86 = .ok (.iinc 3 1, 3) := by decide +kernel
theorem dX8_wordOf_89 : decode cX8_wordOf 89 = .ok (.iload_n 1, 1) := by decide +kernel
theorem dX8_wordOf_90 : decode cX8_wordOf 90 = .ok (.istore 4, 2) := by decide +kernel
theorem dX8_wordOf_92 : decode cX8_wordOf 92 = .ok (.iconst 1, 1) := by decide +kernel
theorem dX8_wordOf_93 : decode cX8_wordOf 93 = .ok (.istore 5, 2) := by decide +kernel
theorem dX8_wordOf_95 : decode cX8_wordOf 95 = .ok (.iinc 6 1, 3) := by decide +kernel
theorem dX8_wordOf_98 : decode cX8_wordOf 98 = .ok (.goto (-87), 3) := by decide +kernel
theorem dX8_wordOf_101 : decode cX8_wordOf 101 = .ok (.bipush 26, 2) := by decide +kernel
theorem dX8_wordOf_103 : decode cX8_wordOf 103 = .ok (.ireturn, 1) := by decide +kernel
theorem dX8_numberOf_0 : decode cX8_numberOf 0 = .ok (.iload_n 2, 1) := by decide +kernel
theorem dX8_numberOf_1 : decode cX8_numberOf 1 = .ok (.iload_n 1, 1) := by decide +kernel
theorem dX8_numberOf_2 : decode cX8_numberOf 2 = .ok (.isub, 1) := by decide +kernel
theorem dX8_numberOf_3 : decode cX8_numberOf 3 = .ok (.iconst 4, 1) := by decide +kernel
theorem dX8_numberOf_4 : decode cX8_numberOf 4 = .ok (.if_icmp .le 6, 3) := by decide +kernel
theorem dX8_numberOf_7 : decode cX8_numberOf 7 = .ok (.bipush 26, 2) := by decide +kernel
theorem dX8_numberOf_9 : decode cX8_numberOf 9 = .ok (.ireturn, 1) := by decide +kernel
theorem dX8_numberOf_10 : decode cX8_numberOf 10 = .ok (.iconst 0, 1) := by decide +kernel
theorem dX8_numberOf_11 : decode cX8_numberOf 11 = .ok (.istore_n 3, 1) := by decide +kernel
theorem dX8_numberOf_12 : decode cX8_numberOf 12 = .ok (.iload_n 1, 1) := by decide +kernel
theorem dX8_numberOf_13 : decode cX8_numberOf 13 = .ok (.istore 4, 2) := by decide +kernel
theorem dX8_numberOf_15 : decode cX8_numberOf 15 = .ok (.iload 4, 2) := by decide +kernel
theorem dX8_numberOf_17 : decode cX8_numberOf 17 = .ok (.iload_n 2, 1) := by decide +kernel
theorem dX8_numberOf_18 : decode cX8_numberOf 18 = .ok (.if_icmp .ge 25, 3) := by decide +kernel
theorem dX8_numberOf_21 : decode cX8_numberOf 21 = .ok (.iload_n 3, 1) := by decide +kernel
theorem dX8_numberOf_22 : decode cX8_numberOf 22 = .ok (.bipush 10, 2) := by decide +kernel
theorem dX8_numberOf_24 : decode cX8_numberOf 24 = .ok (.imul, 1) := by decide +kernel
theorem dX8_numberOf_25 : decode cX8_numberOf 25 = .ok (.aload_n 0, 1) := by decide +kernel
theorem dX8_numberOf_26 : decode cX8_numberOf 26 = .ok (.getfield 15, 3) := by decide +kernel
theorem dX8_numberOf_29 : decode cX8_numberOf 29 = .ok (.iload 4, 2) := by decide +kernel
theorem dX8_numberOf_31 : decode cX8_numberOf 31 = .ok (.baload, 1) := by decide +kernel
theorem dX8_numberOf_32 : decode cX8_numberOf 32 = .ok (.iadd, 1) := by decide +kernel
theorem dX8_numberOf_33 : decode cX8_numberOf 33 = .ok (.bipush 48, 2) := by decide +kernel
theorem dX8_numberOf_35 : decode cX8_numberOf 35 = .ok (.isub, 1) := by decide +kernel
theorem dX8_numberOf_36 : decode cX8_numberOf 36 = .ok (.istore_n 3, 1) := by decide +kernel
theorem dX8_numberOf_37 : decode cX8_numberOf 37 = .ok (.iinc 4 1, 3) := by decide +kernel
theorem dX8_numberOf_40 : decode cX8_numberOf 40 = .ok (.goto (-25), 3) := by decide +kernel
theorem dX8_numberOf_43 : decode cX8_numberOf 43 = .ok (.bipush 100, 2) := by decide +kernel
theorem dX8_numberOf_45 : decode cX8_numberOf 45 = .ok (.iload_n 3, 1) := by decide +kernel
theorem dX8_numberOf_46 : decode cX8_numberOf 46 = .ok (.iadd, 1) := by decide +kernel
theorem dX8_numberOf_47 : decode cX8_numberOf 47 = .ok (.ireturn, 1) := by decide +kernel
theorem dX8_isStill_0 : decode cX8_isStill 0 = .ok (.aload_n 0, 1) := by decide +kernel
theorem dX8_isStill_1 : decode cX8_isStill 1 = .ok (.getfield 32, 3) := by decide +kernel
theorem dX8_isStill_4 : decode cX8_isStill 4 = .ok (.iconst (-1), 1) := by decide +kernel
theorem dX8_isStill_5 : decode cX8_isStill 5 = .ok (.if_icmp .ne 7, 3) := by decide +kernel
theorem dX8_isStill_8 : decode cX8_isStill 8 = .ok (.iconst 1, 1) := by decide +kernel
theorem dX8_isStill_9 : decode cX8_isStill 9 = .ok (.goto 4, 3) := by decide +kernel
theorem dX8_isStill_12 : decode cX8_isStill 12 = .ok (.iconst 0, 1) := by decide +kernel
theorem dX8_isStill_13 : decode cX8_isStill 13 = .ok (.ireturn, 1) := by decide +kernel
theorem dX8_token_0 : decode cX8_token 0 = .ok (.aload_n 0, 1) := by decide +kernel
theorem dX8_token_1 : decode cX8_token 1 = .ok (.getfield 19, 3) := by decide +kernel
theorem dX8_token_4 : decode cX8_token 4 = .ok (.aload_n 0, 1) := by decide +kernel
theorem dX8_token_5 : decode cX8_token 5 = .ok (.getfield 29, 3) := by decide +kernel
theorem dX8_token_8 : decode cX8_token 8 = .ok (.iaload, 1) := by decide +kernel
theorem dX8_token_9 : decode cX8_token 9 = .ok (.ireturn, 1) := by decide +kernel
theorem dX8_pass_0 : decode cX8_pass 0 = .ok (.aload_n 0, 1) := by decide +kernel
theorem dX8_pass_1 : decode cX8_pass 1 = .ok (.getfield 32, 3) := by decide +kernel
theorem dX8_pass_4 : decode cX8_pass 4 = .ok (.iconst (-1), 1) := by decide +kernel
theorem dX8_pass_5 : decode cX8_pass 5 = .ok (.if_icmp .eq 4, 3) := by decide +kernel
theorem dX8_pass_8 : decode cX8_pass 8 = .ok (.return_, 1) := by decide +kernel
theorem dX8_pass_9 : decode cX8_pass 9 = .ok (.iload_n 1, 1) := by decide +kernel
theorem dX8_pass_10 : decode cX8_pass 10 = .ok (.ifCond .ne 19, 3) := by decide +kernel
theorem dX8_pass_13 : decode cX8_pass 13 = .ok (.aload_n 0, 1) := by decide +kernel
theorem dX8_pass_14 : decode cX8_pass 14 = .ok (.aload_n 0, 1) := by decide +kernel
theorem dX8_pass_15 : decode cX8_pass 15 = .ok (.getfield 23, 3) := by decide +kernel
theorem dX8_pass_18 : decode cX8_pass 18 = .ok (.aload_n 0, 1) := by decide +kernel
theorem dX8_pass_19 : decode cX8_pass 19 = .ok (.getfield 29, 3) := by decide +kernel
theorem dX8_pass_22 : decode cX8_pass 22 = .ok (.iaload, 1) := by decide +kernel
theorem dX8_pass_23 : decode cX8_pass 23 = .ok (.putfield 32, 3) := by decide +kernel
theorem dX8_pass_26 : decode cX8_pass 26 = .ok (.goto 24, 3) := by decide +kernel
theorem dX8_pass_29 : decode cX8_pass 29 = .ok (.aload_n 0, 1) := by decide +kernel
theorem dX8_pass_30 : decode cX8_pass 30 = .ok (.getfield 29, 3) := by decide +kernel
theorem dX8_pass_33 : decode cX8_pass 33 = .ok (.aload_n 0, 1) := by decide +kernel
theorem dX8_pass_34 : decode cX8_pass 34 = .ok (.getfield 26, 3) := by decide +kernel
theorem dX8_pass_37 : decode cX8_pass 37 = .ok (.if_icmp .ge 13, 3) := by decide +kernel
theorem dX8_pass_40 : decode cX8_pass 40 = .ok (.aload_n 0, 1) := by decide +kernel
theorem dX8_pass_41 : decode cX8_pass 41 = .ok (.dup, 1) := by decide +kernel
theorem dX8_pass_42 : decode cX8_pass 42 = .ok (.getfield 29, 3) := by decide +kernel
theorem dX8_pass_45 : decode cX8_pass 45 = .ok (.iconst 1, 1) := by decide +kernel
theorem dX8_pass_46 : decode cX8_pass 46 = .ok (.iadd, 1) := by decide +kernel
theorem dX8_pass_47 : decode cX8_pass 47 = .ok (.putfield 29, 3) := by decide +kernel
theorem dX8_pass_50 : decode cX8_pass 50 = .ok (.return_, 1) := by decide +kernel
theorem dX8_readRule_0 : decode cX8_readRule 0 = .ok (.aload_n 0, 1) := by decide +kernel
theorem dX8_readRule_1 : decode cX8_readRule 1 = .ok (.invokevirtual 52, 3) := by decide +kernel
theorem dX8_readRule_4 : decode cX8_readRule 4 = .ok (.istore_n 1, 1) := by decide +kernel
theorem dX8_readRule_5 : decode cX8_readRule 5 = .ok (.aload_n 0, 1) := by decide +kernel
theorem dX8_readRule_6 : decode cX8_readRule 6 = .ok (.getfield 38, 3) := by decide +kernel
theorem dX8_readRule_9 : decode cX8_readRule 9 = .ok (.getfield 105, 3) := by decide +kernel
theorem dX8_readRule_12 : decode cX8_readRule 12 = .ok (.istore_n 2, 1) := by decide +kernel
theorem dX8_readRule_13 : decode cX8_readRule 13 = .ok (.aload_n 0, 1) := by decide +kernel
theorem dX8_readRule_14 : decode cX8_readRule 14 = .ok (.iload_n 1, 1) := by decide +kernel
theorem dX8_readRule_15 : decode cX8_readRule 15 = .ok (.iconst 0, 1) := by decide +kernel
theorem dX8_readRule_16 : decode cX8_readRule 16 = .ok (.iconst 5, 1) := by decide +kernel
theorem dX8_readRule_17 : decode cX8_readRule 17 = .ok (.invokestatic 85, 3) := by decide +kernel
theorem dX8_readRule_20 : decode cX8_readRule 20 = .ok (.ifCond .eq 19, 3) := by decide +kernel
theorem dX8_readRule_23 : decode cX8_readRule 23 = .ok (.aload_n 0, 1) := by decide +kernel
theorem dX8_readRule_24 : decode cX8_readRule 24 = .ok (.getfield 38, 3) := by decide +kernel
theorem dX8_readRule_27 : decode cX8_readRule 27 = .ok (.getfield 63, 3) := by decide +kernel
theorem dX8_readRule_30 : decode cX8_readRule 30 = .ok (.bipush 8, 2) := by decide +kernel
theorem dX8_readRule_32 : decode cX8_readRule 32 = .ok (.if_icmp .ge 7, 3) := by decide +kernel
theorem dX8_readRule_35 : decode cX8_readRule 35 = .ok (.iconst 1, 1) := by decide +kernel
theorem dX8_readRule_36 : decode cX8_readRule 36 = .ok (.goto 4, 3) := by decide +kernel
theorem dX8_readRule_39 : decode cX8_readRule 39 = .ok (.iconst 0, 1) := by decide +kernel
theorem dX8_readRule_40 : decode cX8_readRule 40 = .ok (.invokevirtual 108, 3) := by decide +kernel
theorem dX8_readRule_43 : decode cX8_readRule 43 = .ok (.aload_n 0, 1) := by decide +kernel
theorem dX8_readRule_44 : decode cX8_readRule 44 = .ok (.invokevirtual 48, 3) := by decide +kernel
theorem dX8_readRule_47 : decode cX8_readRule 47 = .ok (.ifCond .eq 22, 3) := by decide +kernel
theorem dX8_readRule_50 : decode cX8_readRule 50 = .ok (.aload_n 0, 1) := by decide +kernel
theorem dX8_readRule_51 : decode cX8_readRule 51 = .ok (.invokevirtual 52, 3) := by decide +kernel
theorem dX8_readRule_54 : decode cX8_readRule 54 = .ok (.bipush 14, 2) := by decide +kernel
theorem dX8_readRule_56 : decode cX8_readRule 56 = .ok (.if_icmp .ne 13, 3) := by decide +kernel
theorem dX8_readRule_59 : decode cX8_readRule 59 = .ok (.aload_n 0, 1) := by decide +kernel
theorem dX8_readRule_60 : decode cX8_readRule 60 = .ok (.iconst 1, 1) := by decide +kernel
theorem dX8_readRule_61 : decode cX8_readRule 61 = .ok (.invokevirtual 108, 3) := by decide +kernel
theorem dX8_readRule_64 : decode cX8_readRule 64 = .ok (.aload_n 0, 1) := by decide +kernel
theorem dX8_readRule_65 : decode cX8_readRule 65 = .ok (.iconst 0, 1) := by decide +kernel
theorem dX8_readRule_66 : decode cX8_readRule 66 = .ok (.invokevirtual 112, 3) := by decide +kernel
theorem dX8_readRule_69 : decode cX8_readRule 69 = .ok (.aload_n 0, 1) := by decide +kernel
theorem dX8_readRule_70 : decode cX8_readRule 70 = .ok (.invokevirtual 52, 3) := by decide +kernel
theorem dX8_readRule_73 : decode cX8_readRule 73 = .ok (.bipush 6, 2) := by decide +kernel
theorem dX8_readRule_75 : decode cX8_readRule 75 = .ok (.isub, 1) := by decide +kernel
theorem dX8_readRule_76 : decode cX8_readRule 76 = .ok (.istore_n 3, 1) := by decide +kernel
theorem dX8_readRule_77 : decode cX8_readRule 77 = .ok (.aload_n 0, 1) := by decide +kernel
theorem dX8_readRule_78 : decode cX8_readRule 78 = .ok (.iload_n 3, 1) := by decide +kernel
theorem dX8_readRule_79 : decode cX8_readRule 79 = .ok (.iconst 0, 1) := by decide +kernel
theorem dX8_readRule_80 : decode cX8_readRule 80 = .ok (.iconst 2, 1) := by decide +kernel
theorem dX8_readRule_81 : decode cX8_readRule 81 = .ok (.invokestatic 85, 3) := by decide +kernel
theorem dX8_readRule_84 : decode cX8_readRule 84 = .ok (.invokevirtual 108, 3) := by decide +kernel
theorem dX8_readRule_87 : decode cX8_readRule 87 = .ok (.aload_n 0, 1) := by decide +kernel
theorem dX8_readRule_88 : decode cX8_readRule 88 = .ok (.aload_n 0, 1) := by decide +kernel
theorem dX8_readRule_89 : decode cX8_readRule 89 = .ok (.invokevirtual 52, 3) := by decide +kernel
theorem dX8_readRule_92 : decode cX8_readRule 92 = .ok (.bipush 20, 2) := by decide +kernel
theorem dX8_readRule_94 : decode cX8_readRule 94 = .ok (.if_icmp .ne 7, 3) := by decide +kernel
theorem dX8_readRule_97 : decode cX8_readRule 97 = .ok (.iconst 1, 1) := by decide +kernel
theorem dX8_readRule_98 : decode cX8_readRule 98 = .ok (.goto 4, 3) := by decide +kernel
theorem dX8_readRule_101 : decode cX8_readRule 101 = .ok (.iconst 0, 1) := by decide +kernel
theorem dX8_readRule_102 : decode cX8_readRule 102 = .ok (.invokevirtual 108, 3) := by decide +kernel
theorem dX8_readRule_105 : decode cX8_readRule 105 = .ok (.aload_n 0, 1) := by decide +kernel
theorem dX8_readRule_106 : decode cX8_readRule 106 = .ok (.getfield 38, 3) := by decide +kernel
theorem dX8_readRule_109 : decode cX8_readRule 109 = .ok (.iload_n 1, 1) := by decide +kernel
theorem dX8_readRule_110 : decode cX8_readRule 110 = .ok (.iload_n 3, 1) := by decide +kernel
theorem dX8_readRule_111 : decode cX8_readRule 111 = .ok (.iload_n 2, 1) := by decide +kernel
theorem dX8_readRule_112 : decode cX8_readRule 112 = .ok (.invokevirtual 116, 3) := by decide +kernel
theorem dX8_readRule_115 : decode cX8_readRule 115 = .ok (.return_, 1) := by decide +kernel
theorem dX8_readAny_0 : decode cX8_readAny 0 = .ok (.aload_n 0, 1) := by decide +kernel
theorem dX8_readAny_1 : decode cX8_readAny 1 = .ok (.iload_n 1, 1) := by decide +kernel
theorem dX8_readAny_2 : decode cX8_readAny 2 = .ok (.invokevirtual 120, 3) := by decide +kernel
theorem dX8_readAny_5 : decode cX8_readAny 5 = .ok (.iconst 0, 1) := by decide +kernel
theorem dX8_readAny_6 : decode cX8_readAny 6 = .ok (.istore_n 2, 1) := by decide +kernel
theorem dX8_readAny_7 : decode cX8_readAny 7 = .ok (.iload_n 2, 1) := by decide +kernel
theorem dX8_readAny_8 : decode cX8_readAny 8 = .ok (.sipush 200, 3) := by decide +kernel
theorem dX8_readAny_11 : decode cX8_readAny 11 = .ok (.if_icmp .ge 44, 3) := by decide +kernel
theorem dX8_readAny_14 : decode cX8_readAny 14 = .ok (.aload_n 0, 1) := by decide +kernel
theorem dX8_readAny_15 : decode cX8_readAny 15 = .ok (.invokevirtual 48, 3) := by decide +kernel
theorem dX8_readAny_18 : decode cX8_readAny 18 = .ok (.ifCond .eq 37, 3) := by decide +kernel
theorem dX8_readAny_21 : decode cX8_readAny 21 = .ok (.aload_n 0, 1) := by decide +kernel
theorem dX8_readAny_22 : decode cX8_readAny 22 = .ok (.invokevirtual 52, 3) := by decide +kernel
theorem dX8_readAny_25 : decode cX8_readAny 25 = .ok (.bipush 15, 2) := by decide +kernel
theorem dX8_readAny_27 : decode cX8_readAny 27 = .ok (.if_icmp .ne 28, 3) := by decide +kernel
theorem dX8_readAny_30 : decode cX8_readAny 30 = .ok (.aload_n 0, 1) := by decide +kernel
theorem dX8_readAny_31 : decode cX8_readAny 31 = .ok (.iconst 1, 1) := by decide +kernel
theorem dX8_readAny_32 : decode cX8_readAny 32 = .ok (.invokevirtual 108, 3) := by decide +kernel
theorem dX8_readAny_35 : decode cX8_readAny 35 = .ok (.aload_n 0, 1) := by decide +kernel
theorem dX8_readAny_36 : decode cX8_readAny 36 = .ok (.iload_n 1, 1) := by decide +kernel
theorem dX8_readAny_37 : decode cX8_readAny 37 = .ok (.invokevirtual 120, 3) := by decide +kernel
theorem dX8_readAny_40 : decode cX8_readAny 40 = .ok (.aload_n 0, 1) := by decide +kernel
theorem dX8_readAny_41 : decode cX8_readAny 41 = .ok (.getfield 38, 3) := by decide +kernel
theorem dX8_readAny_44 : decode cX8_readAny 44 = .ok (.bipush 15, 2) := by decide +kernel
theorem dX8_readAny_46 : decode cX8_readAny 46 = .ok (.invokevirtual 123, 3) := by decide +kernel
theorem dX8_readAny_49 : decode cX8_readAny 49 = .ok (.iinc 2 1, 3) := by decide +kernel
theorem dX8_readAny_52 : decode cX8_readAny 52 = .ok (.goto (-45), 3) := by decide +kernel
theorem dX8_readAny_55 : decode cX8_readAny 55 = .ok (.return_, 1) := by decide +kernel
theorem dX8_readAll_0 : decode cX8_readAll 0 = .ok (.aload_n 0, 1) := by decide +kernel
theorem dX8_readAll_1 : decode cX8_readAll 1 = .ok (.iload_n 1, 1) := by decide +kernel
theorem dX8_readAll_2 : decode cX8_readAll 2 = .ok (.invokevirtual 126, 3) := by decide +kernel
theorem dX8_readAll_5 : decode cX8_readAll 5 = .ok (.iconst 0, 1) := by decide +kernel
theorem dX8_readAll_6 : decode cX8_readAll 6 = .ok (.istore_n 2, 1) := by decide +kernel
theorem dX8_readAll_7 : decode cX8_readAll 7 = .ok (.iload_n 2, 1) := by decide +kernel
theorem dX8_readAll_8 : decode cX8_readAll 8 = .ok (.sipush 200, 3) := by decide +kernel
theorem dX8_readAll_11 : decode cX8_readAll 11 = .ok (.if_icmp .ge 44, 3) := by decide +kernel
theorem dX8_readAll_14 : decode cX8_readAll 14 = .ok (.aload_n 0, 1) := by decide +kernel
theorem dX8_readAll_15 : decode cX8_readAll 15 = .ok (.invokevirtual 48, 3) := by decide +kernel
theorem dX8_readAll_18 : decode cX8_readAll 18 = .ok (.ifCond .eq 37, 3) := by decide +kernel
theorem dX8_readAll_21 : decode cX8_readAll 21 = .ok (.aload_n 0, 1) := by decide +kernel
theorem dX8_readAll_22 : decode cX8_readAll 22 = .ok (.invokevirtual 52, 3) := by decide +kernel
theorem dX8_readAll_25 : decode cX8_readAll 25 = .ok (.bipush 16, 2) := by decide +kernel
theorem dX8_readAll_27 : decode cX8_readAll 27 = .ok (.if_icmp .ne 28, 3) := by decide +kernel
theorem dX8_readAll_30 : decode cX8_readAll 30 = .ok (.aload_n 0, 1) := by decide +kernel
theorem dX8_readAll_31 : decode cX8_readAll 31 = .ok (.iconst 1, 1) := by decide +kernel
theorem dX8_readAll_32 : decode cX8_readAll 32 = .ok (.invokevirtual 108, 3) := by decide +kernel
theorem dX8_readAll_35 : decode cX8_readAll 35 = .ok (.aload_n 0, 1) := by decide +kernel
theorem dX8_readAll_36 : decode cX8_readAll 36 = .ok (.iload_n 1, 1) := by decide +kernel
theorem dX8_readAll_37 : decode cX8_readAll 37 = .ok (.invokevirtual 126, 3) := by decide +kernel
theorem dX8_readAll_40 : decode cX8_readAll 40 = .ok (.aload_n 0, 1) := by decide +kernel
theorem dX8_readAll_41 : decode cX8_readAll 41 = .ok (.getfield 38, 3) := by decide +kernel
theorem dX8_readAll_44 : decode cX8_readAll 44 = .ok (.bipush 16, 2) := by decide +kernel
theorem dX8_readAll_46 : decode cX8_readAll 46 = .ok (.invokevirtual 123, 3) := by decide +kernel
theorem dX8_readAll_49 : decode cX8_readAll 49 = .ok (.iinc 2 1, 3) := by decide +kernel
theorem dX8_readAll_52 : decode cX8_readAll 52 = .ok (.goto (-45), 3) := by decide +kernel
theorem dX8_readAll_55 : decode cX8_readAll 55 = .ok (.return_, 1) := by decide +kernel
theorem dX8_readOne_0 : decode cX8_readOne 0 = .ok (.iconst 0, 1) := by decide +kernel
theorem dX8_readOne_1 : decode cX8_readOne 1 = .ok (.istore_n 2, 1) := by decide +kernel
theorem dX8_readOne_2 : decode cX8_readOne 2 = .ok (.iconst 0, 1) := by decide +kernel
theorem dX8_readOne_3 : decode cX8_readOne 3 = .ok (.istore_n 3, 1) := by decide +kernel
theorem dX8_readOne_4 : decode cX8_readOne 4 = .ok (.iload_n 3, 1) := by decide +kernel
theorem dX8_readOne_5 : decode cX8_readOne 5 = .ok (.sipush 200, 3) := by decide +kernel
theorem dX8_readOne_8 : decode cX8_readOne 8 = .ok (.if_icmp .ge 40, 3) := by decide +kernel
theorem dX8_readOne_11 : decode cX8_readOne 11 = .ok (.aload_n 0, 1) := by decide +kernel
theorem dX8_readOne_12 : decode cX8_readOne 12 = .ok (.invokevirtual 48, 3) := by decide +kernel
theorem dX8_readOne_15 : decode cX8_readOne 15 = .ok (.ifCond .eq 33, 3) := by decide +kernel
theorem dX8_readOne_18 : decode cX8_readOne 18 = .ok (.aload_n 0, 1) := by decide +kernel
theorem dX8_readOne_19 : decode cX8_readOne 19 = .ok (.invokevirtual 52, 3) := by decide +kernel
theorem dX8_readOne_22 : decode cX8_readOne 22 = .ok (.bipush 17, 2) := by decide +kernel
theorem dX8_readOne_24 : decode cX8_readOne 24 = .ok (.if_icmp .ne 24, 3) := by decide +kernel
theorem dX8_readOne_27 : decode cX8_readOne 27 = .ok (.aload_n 0, 1) := by decide +kernel
theorem dX8_readOne_28 : decode cX8_readOne 28 = .ok (.iconst 1, 1) := by decide +kernel
theorem dX8_readOne_29 : decode cX8_readOne 29 = .ok (.invokevirtual 108, 3) := by decide +kernel
theorem dX8_readOne_32 : decode cX8_readOne 32 = .ok (.iload_n 2, 1) := by decide +kernel
theorem dX8_readOne_33 : decode cX8_readOne 33 = .ok (.ifCond .ne 7, 3) := by decide +kernel
theorem dX8_readOne_36 : decode cX8_readOne 36 = .ok (.iconst 1, 1) := by decide +kernel
theorem dX8_readOne_37 : decode cX8_readOne 37 = .ok (.goto 4, 3) := by decide +kernel
theorem dX8_readOne_40 : decode cX8_readOne 40 = .ok (.iconst 0, 1) := by decide +kernel
theorem dX8_readOne_41 : decode cX8_readOne 41 = .ok (.istore_n 2, 1) := by decide +kernel
theorem dX8_readOne_42 : decode cX8_readOne 42 = .ok (.iinc 3 1, 3) := by decide +kernel
theorem dX8_readOne_45 : decode cX8_readOne 45 = .ok (.goto (-41), 3) := by decide +kernel
theorem dX8_readOne_48 : decode cX8_readOne 48 = .ok (.aload_n 0, 1) := by decide +kernel
theorem dX8_readOne_49 : decode cX8_readOne 49 = .ok (.invokevirtual 48, 3) := by decide +kernel
theorem dX8_readOne_52 : decode cX8_readOne 52 = .ok (.ifCond .eq 61, 3) := by decide +kernel
theorem dX8_readOne_55 : decode cX8_readOne 55 = .ok (.aload_n 0, 1) := by decide +kernel
theorem dX8_readOne_56 : decode cX8_readOne 56 = .ok (.invokevirtual 52, 3) := by decide +kernel
theorem dX8_readOne_59 : decode cX8_readOne 59 = .ok (.bipush 21, 2) := by decide +kernel
theorem dX8_readOne_61 : decode cX8_readOne 61 = .ok (.if_icmp .ne 52, 3) := by decide +kernel
theorem dX8_readOne_64 : decode cX8_readOne 64 = .ok (.aload_n 0, 1) := by decide +kernel
theorem dX8_readOne_65 : decode cX8_readOne 65 = .ok (.iload_n 1, 1) := by decide +kernel
theorem dX8_readOne_66 : decode cX8_readOne 66 = .ok (.iconst 3, 1) := by decide +kernel
theorem dX8_readOne_67 : decode cX8_readOne 67 = .ok (.if_icmp .ge 7, 3) := by decide +kernel
theorem dX8_readOne_70 : decode cX8_readOne 70 = .ok (.iconst 1, 1) := by decide +kernel
theorem dX8_readOne_71 : decode cX8_readOne 71 = .ok (.goto 4, 3) := by decide +kernel
theorem dX8_readOne_74 : decode cX8_readOne 74 = .ok (.iconst 0, 1) := by decide +kernel
theorem dX8_readOne_75 : decode cX8_readOne 75 = .ok (.invokevirtual 108, 3) := by decide +kernel
theorem dX8_readOne_78 : decode cX8_readOne 78 = .ok (.aload_n 0, 1) := by decide +kernel
theorem dX8_readOne_79 : decode cX8_readOne 79 = .ok (.invokevirtual 48, 3) := by decide +kernel
theorem dX8_readOne_82 : decode cX8_readOne 82 = .ok (.ifCond .eq 10, 3) := by decide +kernel
theorem dX8_readOne_85 : decode cX8_readOne 85 = .ok (.aload_n 0, 1) := by decide +kernel
theorem dX8_readOne_86 : decode cX8_readOne 86 = .ok (.iload_n 1, 1) := by decide +kernel
theorem dX8_readOne_87 : decode cX8_readOne 87 = .ok (.iconst 1, 1) := by decide +kernel
theorem dX8_readOne_88 : decode cX8_readOne 88 = .ok (.iadd, 1) := by decide +kernel
theorem dX8_readOne_89 : decode cX8_readOne 89 = .ok (.invokevirtual 112, 3) := by decide +kernel
theorem dX8_readOne_92 : decode cX8_readOne 92 = .ok (.aload_n 0, 1) := by decide +kernel
theorem dX8_readOne_93 : decode cX8_readOne 93 = .ok (.aload_n 0, 1) := by decide +kernel
theorem dX8_readOne_94 : decode cX8_readOne 94 = .ok (.invokevirtual 52, 3) := by decide +kernel
theorem dX8_readOne_97 : decode cX8_readOne 97 = .ok (.bipush 22, 2) := by decide +kernel
theorem dX8_readOne_99 : decode cX8_readOne 99 = .ok (.if_icmp .ne 7, 3) := by decide +kernel
theorem dX8_readOne_102 : decode cX8_readOne 102 = .ok (.iconst 1, 1) := by decide +kernel
theorem dX8_readOne_103 : decode cX8_readOne 103 = .ok (.goto 4, 3) := by decide +kernel
theorem dX8_readOne_106 : decode cX8_readOne 106 = .ok (.iconst 0, 1) := by decide +kernel
theorem dX8_readOne_107 : decode cX8_readOne 107 = .ok (.invokevirtual 108, 3) := by decide +kernel
theorem dX8_readOne_110 : decode cX8_readOne 110 = .ok (.goto 7, 3) := by decide +kernel
theorem dX8_readOne_113 : decode cX8_readOne 113 = .ok (.aload_n 0, 1) := by decide +kernel
theorem dX8_readOne_114 : decode cX8_readOne 114 = .ok (.invokevirtual 129, 3) := by decide +kernel
theorem dX8_readOne_117 : decode cX8_readOne 117 = .ok (.iload_n 2, 1) := by decide +kernel
theorem dX8_readOne_118 : decode cX8_readOne 118 = .ok (.ifCond .eq 12, 3) := by decide +kernel
theorem dX8_readOne_121 : decode cX8_readOne 121 = .ok (.aload_n 0, 1) := by decide +kernel
theorem dX8_readOne_122 : decode cX8_readOne 122 = .ok (.getfield 38, 3) := by decide +kernel
theorem dX8_readOne_125 : decode cX8_readOne 125 = .ok (.bipush 17, 2) := by decide +kernel
theorem dX8_readOne_127 : decode cX8_readOne 127 = .ok (.invokevirtual 123, 3) := by decide +kernel
theorem dX8_readOne_130 : decode cX8_readOne 130 = .ok (.return_, 1) := by decide +kernel
theorem dX8_readComparison_0 : decode cX8_readComparison 0 = .ok (.aload_n 0, 1) := by decide +kernel
theorem dX8_readComparison_1 : decode cX8_readComparison 1 = .ok (.invokevirtual 52, 3) := by decide +kernel
theorem dX8_readComparison_4 : decode cX8_readComparison 4 = .ok (.istore_n 1, 1) := by decide +kernel
theorem dX8_readComparison_5 : decode cX8_readComparison 5 = .ok (.aload_n 0, 1) := by decide +kernel
theorem dX8_readComparison_6 : decode cX8_readComparison 6 = .ok (.iload_n 1, 1) := by decide +kernel
theorem dX8_readComparison_7 : decode cX8_readComparison 7 = .ok (.invokestatic 132, 3) := by decide +kernel
theorem dX8_readComparison_10 : decode cX8_readComparison 10 = .ok (.invokevirtual 108, 3) := by decide +kernel
theorem dX8_readComparison_13 : decode cX8_readComparison 13 = .ok (.aload_n 0, 1) := by decide +kernel
theorem dX8_readComparison_14 : decode cX8_readComparison 14 = .ok (.invokevirtual 52, 3) := by decide +kernel
theorem dX8_readComparison_17 : decode cX8_readComparison 17 = .ok (.istore_n 2, 1) := by decide +kernel
theorem dX8_readComparison_18 : decode cX8_readComparison 18 = .ok (.aload_n 0, 1) := by decide +kernel
theorem dX8_readComparison_19 : decode cX8_readComparison 19 = .ok (.iload_n 2, 1) := by decide +kernel
theorem dX8_readComparison_20 : decode cX8_readComparison 20 = .ok (.bipush 23, 2) := by decide +kernel
theorem dX8_readComparison_22 : decode cX8_readComparison 22 = .ok (.bipush 25, 2) := by decide +kernel
theorem dX8_readComparison_24 : decode cX8_readComparison 24 = .ok (.invokestatic 85, 3) := by decide +kernel
theorem dX8_readComparison_27 : decode cX8_readComparison 27 = .ok (.invokevirtual 108, 3) := by decide +kernel
theorem dX8_readComparison_30 : decode cX8_readComparison 30 = .ok (.aload_n 0, 1) := by decide +kernel
theorem dX8_readComparison_31 : decode cX8_readComparison 31 = .ok (.invokevirtual 52, 3) := by decide +kernel
theorem dX8_readComparison_34 : decode cX8_readComparison 34 = .ok (.istore_n 3, 1) := by decide +kernel
theorem dX8_readComparison_35 : decode cX8_readComparison 35 = .ok (.aload_n 0, 1) := by decide +kernel
theorem dX8_readComparison_36 : decode cX8_readComparison 36 = .ok (.iload_n 3, 1) := by decide +kernel
theorem dX8_readComparison_37 : decode cX8_readComparison 37 = .ok (.invokestatic 132, 3) := by decide +kernel
theorem dX8_readComparison_40 : decode cX8_readComparison 40 = .ok (.invokevirtual 108, 3) := by decide +kernel
theorem dX8_readComparison_43 : decode cX8_readComparison 43 = .ok (.aload_n 0, 1) := by decide +kernel
theorem dX8_readComparison_44 : decode cX8_readComparison 44 = .ok (.getfield 38, 3) := by decide +kernel
theorem dX8_readComparison_47 : decode cX8_readComparison 47 = .ok (.iload_n 2, 1) := by decide +kernel
theorem dX8_readComparison_48 : decode cX8_readComparison 48 = .ok (.invokevirtual 123, 3) := by decide +kernel
theorem dX8_readComparison_51 : decode cX8_readComparison 51 = .ok (.aload_n 0, 1) := by decide +kernel
theorem dX8_readComparison_52 : decode cX8_readComparison 52 = .ok (.getfield 38, 3) := by decide +kernel
theorem dX8_readComparison_55 : decode cX8_readComparison 55 = .ok (.iload_n 1, 1) := by decide +kernel
theorem dX8_readComparison_56 : decode cX8_readComparison 56 = .ok (.invokestatic 135, 3) := by decide +kernel
theorem dX8_readComparison_59 : decode cX8_readComparison 59 = .ok (.invokevirtual 123, 3) := by decide +kernel
theorem dX8_readComparison_62 : decode cX8_readComparison 62 = .ok (.aload_n 0, 1) := by decide +kernel
theorem dX8_readComparison_63 : decode cX8_readComparison 63 = .ok (.getfield 38, 3) := by decide +kernel
theorem dX8_readComparison_66 : decode cX8_readComparison 66 = .ok (.iload_n 3, 1) := by decide +kernel
theorem dX8_readComparison_67 : decode cX8_readComparison 67 = .ok (.invokestatic 135, 3) := by decide +kernel
theorem dX8_readComparison_70 : decode cX8_readComparison 70 = .ok (.invokevirtual 123, 3) := by decide +kernel
theorem dX8_readComparison_73 : decode cX8_readComparison 73 = .ok (.return_, 1) := by decide +kernel
theorem dX8_isValue_0 : decode cX8_isValue 0 = .ok (.iload_n 0, 1) := by decide +kernel
theorem dX8_isValue_1 : decode cX8_isValue 1 = .ok (.bipush 100, 2) := by decide +kernel
theorem dX8_isValue_3 : decode cX8_isValue 3 = .ok (.if_icmp .ge 15, 3) := by decide +kernel
theorem dX8_isValue_6 : decode cX8_isValue 6 = .ok (.iload_n 0, 1) := by decide +kernel
theorem dX8_isValue_7 : decode cX8_isValue 7 = .ok (.bipush 9, 2) := by decide +kernel
theorem dX8_isValue_9 : decode cX8_isValue 9 = .ok (.if_icmp .lt 13, 3) := by decide +kernel
theorem dX8_isValue_12 : decode cX8_isValue 12 = .ok (.iload_n 0, 1) := by decide +kernel
theorem dX8_isValue_13 : decode cX8_isValue 13 = .ok (.bipush 13, 2) := by decide +kernel
theorem dX8_isValue_15 : decode cX8_isValue 15 = .ok (.if_icmp .gt 7, 3) := by decide +kernel
theorem dX8_isValue_18 : decode cX8_isValue 18 = .ok (.iconst 1, 1) := by decide +kernel
theorem dX8_isValue_19 : decode cX8_isValue 19 = .ok (.goto 4, 3) := by decide +kernel
theorem dX8_isValue_22 : decode cX8_isValue 22 = .ok (.iconst 0, 1) := by decide +kernel
theorem dX8_isValue_23 : decode cX8_isValue 23 = .ok (.ireturn, 1) := by decide +kernel
theorem dX8_operandOf_0 : decode cX8_operandOf 0 = .ok (.iload_n 0, 1) := by decide +kernel
theorem dX8_operandOf_1 : decode cX8_operandOf 1 = .ok (.bipush 100, 2) := by decide +kernel
theorem dX8_operandOf_3 : decode cX8_operandOf 3 = .ok (.if_icmp .lt 10, 3) := by decide +kernel
theorem dX8_operandOf_6 : decode cX8_operandOf 6 = .ok (.iload_n 0, 1) := by decide +kernel
theorem dX8_operandOf_7 : decode cX8_operandOf 7 = .ok (.bipush 100, 2) := by decide +kernel
theorem dX8_operandOf_9 : decode cX8_operandOf 9 = .ok (.isub, 1) := by decide +kernel
theorem dX8_operandOf_10 : decode cX8_operandOf 10 = .ok (.goto 11, 3) := by decide +kernel
theorem dX8_operandOf_13 : decode cX8_operandOf 13 = .ok (.sipush 10000, 3) := by decide +kernel
theorem dX8_operandOf_16 : decode cX8_operandOf 16 = .ok (.iload_n 0, 1) := by decide +kernel
theorem dX8_operandOf_17 : decode cX8_operandOf 17 = .ok (.iadd, 1) := by decide +kernel
theorem dX8_operandOf_18 : decode cX8_operandOf 18 = .ok (.bipush 9, 2) := by decide +kernel
theorem dX8_operandOf_20 : decode cX8_operandOf 20 = .ok (.isub, 1) := by decide +kernel
theorem dX8_operandOf_21 : decode cX8_operandOf 21 = .ok (.ireturn, 1) := by decide +kernel
theorem dX9_init_0 : decode cX9_init 0 = .ok (.aload_n 0, 1) := by decide +kernel
theorem dX9_init_1 : decode cX9_init 1 = .ok (.invokespecial 3, 3) := by decide +kernel
theorem dX9_init_4 : decode cX9_init 4 = .ok (.aload_n 0, 1) := by decide +kernel
theorem dX9_init_5 : decode cX9_init 5 = .ok (.iconst 0, 1) := by decide +kernel
theorem dX9_init_6 : decode cX9_init 6 = .ok (.putfield 9, 3) := by decide +kernel
theorem dX9_init_9 : decode cX9_init 9 = .ok (.aload_n 0, 1) := by decide +kernel
theorem dX9_init_10 : decode cX9_init 10 = .ok (.iconst 0, 1) := by decide +kernel
theorem dX9_init_11 : decode cX9_init 11 = .ok (.putfield 15, 3) := by decide +kernel
theorem dX9_init_14 : decode cX9_init 14 = .ok (.aload_n 0, 1) := by decide +kernel
theorem dX9_init_15 : decode cX9_init 15 = .ok (.bipush 8, 2) := by decide +kernel
theorem dX9_init_17 : decode cX9_init 17 = .ok (.newarray .int, 2) := by decide +kernel
theorem dX9_init_19 : decode cX9_init 19 = .ok (.putfield 18, 3) := by decide +kernel
theorem dX9_init_22 : decode cX9_init 22 = .ok (.aload_n 0, 1) := by decide +kernel
theorem dX9_init_23 : decode cX9_init 23 = .ok (.bipush 8, 2) := by decide +kernel
theorem dX9_init_25 : decode cX9_init 25 = .ok (.newarray .int, 2) := by decide +kernel
theorem dX9_init_27 : decode cX9_init 27 = .ok (.putfield 22, 3) := by decide +kernel
theorem dX9_init_30 : decode cX9_init 30 = .ok (.aload_n 0, 1) := by decide +kernel
theorem dX9_init_31 : decode cX9_init 31 = .ok (.bipush 8, 2) := by decide +kernel
theorem dX9_init_33 : decode cX9_init 33 = .ok (.newarray .int, 2) := by decide +kernel
theorem dX9_init_35 : decode cX9_init 35 = .ok (.putfield 25, 3) := by decide +kernel
theorem dX9_init_38 : decode cX9_init 38 = .ok (.aload_n 0, 1) := by decide +kernel
theorem dX9_init_39 : decode cX9_init 39 = .ok (.bipush 8, 2) := by decide +kernel
theorem dX9_init_41 : decode cX9_init 41 = .ok (.newarray .int, 2) := by decide +kernel
theorem dX9_init_43 : decode cX9_init 43 = .ok (.putfield 28, 3) := by decide +kernel
theorem dX9_init_46 : decode cX9_init 46 = .ok (.aload_n 0, 1) := by decide +kernel
theorem dX9_init_47 : decode cX9_init 47 = .ok (.sipush 200, 3) := by decide +kernel
theorem dX9_init_50 : decode cX9_init 50 = .ok (.newarray .int, 2) := by decide +kernel
theorem dX9_init_52 : decode cX9_init 52 = .ok (.putfield 31, 3) := by decide +kernel
theorem dX9_init_55 : decode cX9_init 55 = .ok (.aload_n 0, 1) := by decide +kernel
theorem dX9_init_56 : decode cX9_init 56 = .ok (.iconst 5, 1) := by decide +kernel
theorem dX9_init_57 : decode cX9_init 57 = .ok (.newarray .int, 2) := by decide +kernel
theorem dX9_init_59 : decode cX9_init 59 = .ok (.putfield 34, 3) := by decide +kernel
theorem dX9_init_62 : decode cX9_init 62 = .ok (.return_, 1) := by decide +kernel
theorem dX9_clear_0 : decode cX9_clear 0 = .ok (.aload_n 0, 1) := by decide +kernel
theorem dX9_clear_1 : decode cX9_clear 1 = .ok (.iconst 0, 1) := by decide +kernel
theorem dX9_clear_2 : decode cX9_clear 2 = .ok (.putfield 9, 3) := by decide +kernel
theorem dX9_clear_5 : decode cX9_clear 5 = .ok (.aload_n 0, 1) := by decide +kernel
theorem dX9_clear_6 : decode cX9_clear 6 = .ok (.iconst 0, 1) := by decide +kernel
theorem dX9_clear_7 : decode cX9_clear 7 = .ok (.putfield 15, 3) := by decide +kernel
theorem dX9_clear_10 : decode cX9_clear 10 = .ok (.return_, 1) := by decide +kernel
theorem dX9_copy_0 : decode cX9_copy 0 = .ok (.aload_n 0, 1) := by decide +kernel
theorem dX9_copy_1 : decode cX9_copy 1 = .ok (.aload_n 1, 1) := by decide +kernel
theorem dX9_copy_2 : decode cX9_copy 2 = .ok (.getfield 9, 3) := by decide +kernel
theorem dX9_copy_5 : decode cX9_copy 5 = .ok (.putfield 9, 3) := by decide +kernel
theorem dX9_copy_8 : decode cX9_copy 8 = .ok (.aload_n 0, 1) := by decide +kernel
theorem dX9_copy_9 : decode cX9_copy 9 = .ok (.aload_n 1, 1) := by decide +kernel
theorem dX9_copy_10 : decode cX9_copy 10 = .ok (.getfield 15, 3) := by decide +kernel
theorem dX9_copy_13 : decode cX9_copy 13 = .ok (.putfield 15, 3) := by decide +kernel
theorem dX9_copy_16 : decode cX9_copy 16 = .ok (.aload_n 1, 1) := by decide +kernel
theorem dX9_copy_17 : decode cX9_copy 17 = .ok (.getfield 18, 3) := by decide +kernel
theorem dX9_copy_20 : decode cX9_copy 20 = .ok (.iconst 0, 1) := by decide +kernel
theorem dX9_copy_21 : decode cX9_copy 21 = .ok (.aload_n 0, 1) := by decide +kernel
theorem dX9_copy_22 : decode cX9_copy 22 = .ok (.getfield 18, 3) := by decide +kernel
theorem dX9_copy_25 : decode cX9_copy 25 = .ok (.iconst 0, 1) := by decide +kernel
theorem dX9_copy_26 : decode cX9_copy 26 = .ok (.bipush 8, 2) := by decide +kernel
theorem dX9_copy_28 : decode cX9_copy 28 = .ok (.invokestatic 37, 3) := by decide +kernel
theorem dX9_copy_31 : decode cX9_copy 31 = .ok (.aload_n 1, 1) := by decide +kernel
theorem dX9_copy_32 : decode cX9_copy 32 = .ok (.getfield 22, 3) := by decide +kernel
theorem dX9_copy_35 : decode cX9_copy 35 = .ok (.iconst 0, 1) := by decide +kernel
theorem dX9_copy_36 : decode cX9_copy 36 = .ok (.aload_n 0, 1) := by decide +kernel
theorem dX9_copy_37 : decode cX9_copy 37 = .ok (.getfield 22, 3) := by decide +kernel
theorem dX9_copy_40 : decode cX9_copy 40 = .ok (.iconst 0, 1) := by decide +kernel
theorem dX9_copy_41 : decode cX9_copy 41 = .ok (.bipush 8, 2) := by decide +kernel
theorem dX9_copy_43 : decode cX9_copy 43 = .ok (.invokestatic 37, 3) := by decide +kernel
theorem dX9_copy_46 : decode cX9_copy 46 = .ok (.aload_n 1, 1) := by decide +kernel
theorem dX9_copy_47 : decode cX9_copy 47 = .ok (.getfield 25, 3) := by decide +kernel
theorem dX9_copy_50 : decode cX9_copy 50 = .ok (.iconst 0, 1) := by decide +kernel
theorem dX9_copy_51 : decode cX9_copy 51 = .ok (.aload_n 0, 1) := by decide +kernel
theorem dX9_copy_52 : decode cX9_copy 52 = .ok (.getfield 25, 3) := by decide +kernel
theorem dX9_copy_55 : decode cX9_copy 55 = .ok (.iconst 0, 1) := by decide +kernel
theorem dX9_copy_56 : decode cX9_copy 56 = .ok (.bipush 8, 2) := by decide +kernel
theorem dX9_copy_58 : decode cX9_copy 58 = .ok (.invokestatic 37, 3) := by decide +kernel
theorem dX9_copy_61 : decode cX9_copy 61 = .ok (.aload_n 1, 1) := by decide +kernel
theorem dX9_copy_62 : decode cX9_copy 62 = .ok (.getfield 28, 3) := by decide +kernel
theorem dX9_copy_65 : decode cX9_copy 65 = .ok (.iconst 0, 1) := by decide +kernel
theorem dX9_copy_66 : decode cX9_copy 66 = .ok (.aload_n 0, 1) := by decide +kernel
theorem dX9_copy_67 : decode cX9_copy 67 = .ok (.getfield 28, 3) := by decide +kernel
theorem dX9_copy_70 : decode cX9_copy 70 = .ok (.iconst 0, 1) := by decide +kernel
theorem dX9_copy_71 : decode cX9_copy 71 = .ok (.bipush 8, 2) := by decide +kernel
theorem dX9_copy_73 : decode cX9_copy 73 = .ok (.invokestatic 37, 3) := by decide +kernel
theorem dX9_copy_76 : decode cX9_copy 76 = .ok (.aload_n 1, 1) := by decide +kernel
theorem dX9_copy_77 : decode cX9_copy 77 = .ok (.getfield 31, 3) := by decide +kernel
theorem dX9_copy_80 : decode cX9_copy 80 = .ok (.iconst 0, 1) := by decide +kernel
theorem dX9_copy_81 : decode cX9_copy 81 = .ok (.aload_n 0, 1) := by decide +kernel
theorem dX9_copy_82 : decode cX9_copy 82 = .ok (.getfield 31, 3) := by decide +kernel
theorem dX9_copy_85 : decode cX9_copy 85 = .ok (.iconst 0, 1) := by decide +kernel
theorem dX9_copy_86 : decode cX9_copy 86 = .ok (.sipush 200, 3) := by decide +kernel
theorem dX9_copy_89 : decode cX9_copy 89 = .ok (.invokestatic 37, 3) := by decide +kernel
theorem dX9_copy_92 : decode cX9_copy 92 = .ok (.return_, 1) := by decide +kernel
theorem dX9_addCode_0 : decode cX9_addCode 0 = .ok (.aload_n 0, 1) := by decide +kernel
theorem dX9_addCode_1 : decode cX9_addCode 1 = .ok (.getfield 15, 3) := by decide +kernel
theorem dX9_addCode_4 : decode cX9_addCode 4 = .ok (.aload_n 0, 1) := by decide +kernel
theorem dX9_addCode_5 : decode cX9_addCode 5 = .ok (.getfield 31, 3) := by decide +kernel
theorem dX9_addCode_8 : decode cX9_addCode 8 = .ok (.arraylength, 1) := by decide +kernel
theorem dX9_addCode_9 : decode cX9_addCode 9 = .ok (.if_icmp .ge 23, 3) := by decide +kernel
theorem dX9_addCode_12 : decode cX9_addCode 12 = .ok (.aload_n 0, 1) := by decide +kernel
theorem dX9_addCode_13 : decode cX9_addCode 13 = .ok (.getfield 31, 3) := by decide +kernel
theorem dX9_addCode_16 : decode cX9_addCode 16 = .ok (.aload_n 0, 1) := by decide +kernel
theorem dX9_addCode_17 : decode cX9_addCode 17 = .ok (.getfield 15, 3) := by decide +kernel
theorem dX9_addCode_20 : decode cX9_addCode 20 = .ok (.iload_n 1, 1) := by decide +kernel
theorem dX9_addCode_21 : decode cX9_addCode 21 = .ok (.iastore, 1) := by decide +kernel
theorem dX9_addCode_22 : decode cX9_addCode 22 = .ok (.aload_n 0, 1) := by decide +kernel
theorem dX9_addCode_23 : decode cX9_addCode 23 = .ok (.dup, 1) := by decide +kernel
theorem dX9_addCode_24 : decode cX9_addCode 24 = .ok (.getfield 15, 3) := by decide +kernel
theorem dX9_addCode_27 : decode cX9_addCode 27 = .ok (.iconst 1, 1) := by decide +kernel
theorem dX9_addCode_28 : decode cX9_addCode 28 = .ok (.iadd, 1) := by decide +kernel
theorem dX9_addCode_29 : decode cX9_addCode 29 = .ok (.putfield 15, 3) := by decide +kernel
theorem dX9_addCode_32 : decode cX9_addCode 32 = .ok (.return_, 1) := by decide +kernel
theorem dX9_addRule_0 : decode cX9_addRule 0 = .ok (.aload_n 0, 1) := by decide +kernel
theorem dX9_addRule_1 : decode cX9_addRule 1 = .ok (.getfield 9, 3) := by decide +kernel
theorem dX9_addRule_4 : decode cX9_addRule 4 = .ok (.bipush 8, 2) := by decide +kernel
theorem dX9_addRule_6 : decode cX9_addRule 6 = .ok (.if_icmp .ge 56, 3) := by decide +kernel
theorem dX9_addRule_9 : decode cX9_addRule 9 = .ok (.aload_n 0, 1) := by decide +kernel
theorem dX9_addRule_10 : decode cX9_addRule 10 = .ok (.getfield 18, 3) := by decide +kernel
theorem dX9_addRule_13 : decode cX9_addRule 13 = .ok (.aload_n 0, 1) := by decide +kernel
theorem dX9_addRule_14 : decode cX9_addRule 14 = .ok (.getfield 9, 3) := by decide +kernel
theorem dX9_addRule_17 : decode cX9_addRule 17 = .ok (.iload_n 1, 1) := by decide +kernel
theorem dX9_addRule_18 : decode cX9_addRule 18 = .ok (.iastore, 1) := by decide +kernel
theorem dX9_addRule_19 : decode cX9_addRule 19 = .ok (.aload_n 0, 1) := by decide +kernel
theorem dX9_addRule_20 : decode cX9_addRule 20 = .ok (.getfield 22, 3) := by decide +kernel
theorem dX9_addRule_23 : decode cX9_addRule 23 = .ok (.aload_n 0, 1) := by decide +kernel
theorem dX9_addRule_24 : decode cX9_addRule 24 = .ok (.getfield 9, 3) := by decide +kernel
theorem dX9_addRule_27 : decode cX9_addRule 27 = .ok (.iload_n 2, 1) := by decide +kernel
theorem dX9_addRule_28 : decode cX9_addRule 28 = .ok (.iastore, 1) := by decide +kernel
theorem dX9_addRule_29 : decode cX9_addRule 29 = .ok (.aload_n 0, 1) := by decide +kernel
theorem dX9_addRule_30 : decode cX9_addRule 30 = .ok (.getfield 25, 3) := by decide +kernel
theorem dX9_addRule_33 : decode cX9_addRule 33 = .ok (.aload_n 0, 1) := by decide +kernel
theorem dX9_addRule_34 : decode cX9_addRule 34 = .ok (.getfield 9, 3) := by decide +kernel
theorem dX9_addRule_37 : decode cX9_addRule 37 = .ok (.iload_n 3, 1) := by decide +kernel
theorem dX9_addRule_38 : decode cX9_addRule 38 = .ok (.iastore, 1) := by decide +kernel
theorem dX9_addRule_39 : decode cX9_addRule 39 = .ok (.aload_n 0, 1) := by decide +kernel
theorem dX9_addRule_40 : decode cX9_addRule 40 = .ok (.getfield 28, 3) := by decide +kernel
theorem dX9_addRule_43 : decode cX9_addRule 43 = .ok (.aload_n 0, 1) := by decide +kernel
theorem dX9_addRule_44 : decode cX9_addRule 44 = .ok (.getfield 9, 3) := by decide +kernel
theorem dX9_addRule_47 : decode cX9_addRule 47 = .ok (.aload_n 0, 1) := by decide +kernel
theorem dX9_addRule_48 : decode cX9_addRule 48 = .ok (.getfield 15, 3) := by decide +kernel
theorem dX9_addRule_51 : decode cX9_addRule 51 = .ok (.iastore, 1) := by decide +kernel
theorem dX9_addRule_52 : decode cX9_addRule 52 = .ok (.aload_n 0, 1) := by decide +kernel
theorem dX9_addRule_53 : decode cX9_addRule 53 = .ok (.dup, 1) := by decide +kernel
theorem dX9_addRule_54 : decode cX9_addRule 54 = .ok (.getfield 9, 3) := by decide +kernel
theorem dX9_addRule_57 : decode cX9_addRule 57 = .ok (.iconst 1, 1) := by decide +kernel
theorem dX9_addRule_58 : decode cX9_addRule 58 = .ok (.iadd, 1) := by decide +kernel
theorem dX9_addRule_59 : decode cX9_addRule 59 = .ok (.putfield 9, 3) := by decide +kernel
theorem dX9_addRule_62 : decode cX9_addRule 62 = .ok (.return_, 1) := by decide +kernel
theorem dX9_doFor_0 : decode cX9_doFor 0 = .ok (.iconst 0, 1) := by decide +kernel
theorem dX9_doFor_1 : decode cX9_doFor 1 = .ok (.istore_n 2, 1) := by decide +kernel
theorem dX9_doFor_2 : decode cX9_doFor 2 = .ok (.iload_n 2, 1) := by decide +kernel
theorem dX9_doFor_3 : decode cX9_doFor 3 = .ok (.aload_n 0, 1) := by decide +kernel
theorem dX9_doFor_4 : decode cX9_doFor 4 = .ok (.getfield 9, 3) := by decide +kernel
theorem dX9_doFor_7 : decode cX9_doFor 7 = .ok (.if_icmp .ge 37, 3) := by decide +kernel
theorem dX9_doFor_10 : decode cX9_doFor 10 = .ok (.iload_n 1, 1) := by decide +kernel
theorem dX9_doFor_11 : decode cX9_doFor 11 = .ok (.aload_n 0, 1) := by decide +kernel
theorem dX9_doFor_12 : decode cX9_doFor 12 = .ok (.getfield 18, 3) := by decide +kernel
theorem dX9_doFor_15 : decode cX9_doFor 15 = .ok (.iload_n 2, 1) := by decide +kernel
theorem dX9_doFor_16 : decode cX9_doFor 16 = .ok (.iaload, 1) := by decide +kernel
theorem dX9_doFor_17 : decode cX9_doFor 17 = .ok (.invokestatic 43, 3) := by decide +kernel
theorem dX9_doFor_20 : decode cX9_doFor 20 = .ok (.ifCond .eq 18, 3) := by decide +kernel
theorem dX9_doFor_23 : decode cX9_doFor 23 = .ok (.aload_n 0, 1) := by decide +kernel
theorem dX9_doFor_24 : decode cX9_doFor 24 = .ok (.iload_n 2, 1) := by decide +kernel
theorem dX9_doFor_25 : decode cX9_doFor 25 = .ok (.invokevirtual 47, 3) := by decide +kernel
theorem dX9_doFor_28 : decode cX9_doFor 28 = .ok (.ifCond .eq 10, 3) := by decide +kernel
theorem dX9_doFor_31 : decode cX9_doFor 31 = .ok (.aload_n 0, 1) := by decide +kernel
theorem dX9_doFor_32 : decode cX9_doFor 32 = .ok (.getfield 22, 3) := by decide +kernel
theorem dX9_doFor_35 : decode cX9_doFor 35 = .ok (.iload_n 2, 1) := by decide +kernel
theorem dX9_doFor_36 : decode cX9_doFor 36 = .ok (.iaload, 1) := by decide +kernel
theorem dX9_doFor_37 : decode cX9_doFor 37 = .ok (.ireturn, 1) := by decide +kernel
theorem dX9_doFor_38 : decode cX9_doFor 38 = .ok (.iinc 2 1, 3) := by decide +kernel
theorem dX9_doFor_41 : decode cX9_doFor 41 = .ok (.goto (-39), 3) := by decide +kernel
theorem dX9_doFor_44 : decode cX9_doFor 44 = .ok (.iconst 0, 1) := by decide +kernel
theorem dX9_doFor_45 : decode cX9_doFor 45 = .ok (.ireturn, 1) := by decide +kernel
theorem dX9_isSo_0 : decode cX9_isSo 0 = .ok (.iconst 1, 1) := by decide +kernel
theorem dX9_isSo_1 : decode cX9_isSo 1 = .ok (.istore_n 2, 1) := by decide +kernel
theorem dX9_isSo_2 : decode cX9_isSo 2 = .ok (.aload_n 0, 1) := by decide +kernel
theorem dX9_isSo_3 : decode cX9_isSo 3 = .ok (.getfield 25, 3) := by decide +kernel
theorem dX9_isSo_6 : decode cX9_isSo 6 = .ok (.iload_n 1, 1) := by decide +kernel
theorem dX9_isSo_7 : decode cX9_isSo 7 = .ok (.iaload, 1) := by decide +kernel
theorem dX9_isSo_8 : decode cX9_isSo 8 = .ok (.istore_n 3, 1) := by decide +kernel
theorem dX9_isSo_9 : decode cX9_isSo 9 = .ok (.iload_n 3, 1) := by decide +kernel
theorem dX9_isSo_10 : decode cX9_isSo 10 = .ok (.aload_n 0, 1) := by decide +kernel
theorem dX9_isSo_11 : decode cX9_isSo 11 = .ok (.getfield 28, 3) := by decide +kernel
theorem dX9_isSo_14 : decode cX9_isSo 14 = .ok (.iload_n 1, 1) := by decide +kernel
theorem dX9_isSo_15 : decode cX9_isSo 15 = .ok (.iaload, 1) := by decide +kernel
theorem dX9_isSo_16 : decode cX9_isSo 16 = .ok (.if_icmp .ge 129, 3) := by decide +kernel
theorem dX9_isSo_19 : decode cX9_isSo 19 = .ok (.aload_n 0, 1) := by decide +kernel
theorem dX9_isSo_20 : decode cX9_isSo 20 = .ok (.getfield 31, 3) := by decide +kernel
theorem dX9_isSo_23 : decode cX9_isSo 23 = .ok (.iload_n 3, 1) := by decide +kernel
theorem dX9_isSo_24 : decode cX9_isSo 24 = .ok (.iaload, 1) := by decide +kernel
theorem dX9_isSo_25 : decode cX9_isSo 25 = .ok (.istore 4, 2) := by decide +kernel
theorem dX9_isSo_27 : decode cX9_isSo 27 = .ok (.iload 4, 2) := by decide +kernel
theorem dX9_isSo_29 : decode cX9_isSo 29 = .ok (.bipush 17, 2) := by decide +kernel
theorem dX9_isSo_31 : decode cX9_isSo 31 = .ok (.if_icmp .ne 10, 3) := by decide +kernel
theorem dX9_isSo_34 : decode cX9_isSo 34 = .ok (.iload_n 2, 1) := by decide +kernel
theorem dX9_isSo_35 : decode cX9_isSo 35 = .ok (.iconst 1, 1) := by decide +kernel
theorem dX9_isSo_36 : decode cX9_isSo 36 = .ok (.ixor, 1) := by decide +kernel
theorem dX9_isSo_37 : decode cX9_isSo 37 = .ok (.istore_n 2, 1) := by decide +kernel
theorem dX9_isSo_38 : decode cX9_isSo 38 = .ok (.goto 101, 3) := by decide +kernel
theorem dX9_isSo_41 : decode cX9_isSo 41 = .ok (.iload 4, 2) := by decide +kernel
theorem dX9_isSo_43 : decode cX9_isSo 43 = .ok (.bipush 16, 2) := by decide +kernel
theorem dX9_isSo_45 : decode cX9_isSo 45 = .ok (.if_icmp .ne 26, 3) := by decide +kernel
theorem dX9_isSo_48 : decode cX9_isSo 48 = .ok (.iload_n 2, 1) := by decide +kernel
theorem dX9_isSo_49 : decode cX9_isSo 49 = .ok (.iconst 1, 1) := by decide +kernel
theorem dX9_isSo_50 : decode cX9_isSo 50 = .ok (.iand, 1) := by decide +kernel
theorem dX9_isSo_51 : decode cX9_isSo 51 = .ok (.iconst 1, 1) := by decide +kernel
theorem dX9_isSo_52 : decode cX9_isSo 52 = .ok (.if_icmp .ne 9, 3) := by decide +kernel
theorem dX9_isSo_55 : decode cX9_isSo 55 = .ok (.iload_n 2, 1) := by decide +kernel
theorem dX9_isSo_56 : decode cX9_isSo 56 = .ok (.iconst 1, 1) := by decide +kernel
theorem dX9_isSo_57 : decode cX9_isSo 57 = .ok (.iushr, 1) := by decide +kernel
theorem dX9_isSo_58 : decode cX9_isSo 58 = .ok (.goto 9, 3) := by decide +kernel
theorem dX9_isSo_61 : decode cX9_isSo 61 = .ok (.iload_n 2, 1) := by decide +kernel
theorem dX9_isSo_62 : decode cX9_isSo 62 = .ok (.iconst 1, 1) := by decide +kernel
theorem dX9_isSo_63 : decode cX9_isSo 63 = .ok (.iushr, 1) := by decide +kernel
theorem dX9_isSo_64 : decode cX9_isSo 64 = .ok (.bipush (-2), 2) := by decide +kernel
theorem dX9_isSo_66 : decode cX9_isSo 66 = .ok (.iand, 1) := by decide +kernel
theorem dX9_isSo_67 : decode cX9_isSo 67 = .ok (.istore_n 2, 1) := by decide +kernel
theorem dX9_isSo_68 : decode cX9_isSo 68 = .ok (.goto 71, 3) := by decide +kernel
theorem dX9_isSo_71 : decode cX9_isSo 71 = .ok (.iload 4, 2) := by decide +kernel
theorem dX9_isSo_73 : decode cX9_isSo 73 = .ok (.bipush 15, 2) := by decide +kernel
theorem dX9_isSo_75 : decode cX9_isSo 75 = .ok (.if_icmp .ne 14, 3) := by decide +kernel
theorem dX9_isSo_78 : decode cX9_isSo 78 = .ok (.iload_n 2, 1) := by decide +kernel
theorem dX9_isSo_79 : decode cX9_isSo 79 = .ok (.iconst 1, 1) := by decide +kernel
theorem dX9_isSo_80 : decode cX9_isSo 80 = .ok (.iushr, 1) := by decide +kernel
theorem dX9_isSo_81 : decode cX9_isSo 81 = .ok (.iload_n 2, 1) := by decide +kernel
theorem dX9_isSo_82 : decode cX9_isSo 82 = .ok (.iconst 1, 1) := by decide +kernel
theorem dX9_isSo_83 : decode cX9_isSo 83 = .ok (.iand, 1) := by decide +kernel
theorem dX9_isSo_84 : decode cX9_isSo 84 = .ok (.ior, 1) := by decide +kernel
theorem dX9_isSo_85 : decode cX9_isSo 85 = .ok (.istore_n 2, 1) := by decide +kernel
theorem dX9_isSo_86 : decode cX9_isSo 86 = .ok (.goto 53, 3) := by decide +kernel
theorem dX9_isSo_89 : decode cX9_isSo 89 = .ok (.iload_n 3, 1) := by decide +kernel
theorem dX9_isSo_90 : decode cX9_isSo 90 = .ok (.iconst 2, 1) := by decide +kernel
theorem dX9_isSo_91 : decode cX9_isSo 91 = .ok (.iadd, 1) := by decide +kernel
theorem dX9_isSo_92 : decode cX9_isSo 92 = .ok (.aload_n 0, 1) := by decide +kernel
theorem dX9_isSo_93 : decode cX9_isSo 93 = .ok (.getfield 28, 3) := by decide +kernel
theorem dX9_isSo_96 : decode cX9_isSo 96 = .ok (.iload_n 1, 1) := by decide +kernel
theorem dX9_isSo_97 : decode cX9_isSo 97 = .ok (.iaload, 1) := by decide +kernel
theorem dX9_isSo_98 : decode cX9_isSo 98 = .ok (.if_icmp .ge 41, 3) := by decide +kernel
theorem dX9_isSo_101 : decode cX9_isSo 101 = .ok (.iload_n 2, 1) := by decide +kernel
theorem dX9_isSo_102 : decode cX9_isSo 102 = .ok (.iconst 1, 1) := by decide +kernel
theorem dX9_isSo_103 : decode cX9_isSo 103 = .ok (.ishl, 1) := by decide +kernel
theorem dX9_isSo_104 : decode cX9_isSo 104 = .ok (.aload_n 0, 1) := by decide +kernel
theorem dX9_isSo_105 : decode cX9_isSo 105 = .ok (.iload 4, 2) := by decide +kernel
theorem dX9_isSo_107 : decode cX9_isSo 107 = .ok (.aload_n 0, 1) := by decide +kernel
theorem dX9_isSo_108 : decode cX9_isSo 108 = .ok (.getfield 31, 3) := by decide +kernel
theorem dX9_isSo_111 : decode cX9_isSo 111 = .ok (.iload_n 3, 1) := by decide +kernel
theorem dX9_isSo_112 : decode cX9_isSo 112 = .ok (.iconst 1, 1) := by decide +kernel
theorem dX9_isSo_113 : decode cX9_isSo 113 = .ok (.iadd, 1) := by decide +kernel
theorem dX9_isSo_114 : decode cX9_isSo 114 = .ok (.iaload, 1) := by decide +kernel
theorem dX9_isSo_115 : decode cX9_isSo 115 = .ok (.aload_n 0, 1) := by decide +kernel
theorem dX9_isSo_116 : decode cX9_isSo 116 = .ok (.getfield 31, 3) := by decide +kernel
theorem dX9_isSo_119 : decode cX9_isSo 119 = .ok (.iload_n 3, 1) := by decide +kernel
theorem dX9_isSo_120 : decode cX9_isSo 120 = .ok (.iconst 2, 1) := by decide +kernel
theorem dX9_isSo_121 : decode cX9_isSo 121 = .ok (.iadd, 1) := by decide +kernel
theorem dX9_isSo_122 : decode cX9_isSo 122 = .ok (.iaload, 1) := by decide +kernel
theorem dX9_isSo_123 : decode cX9_isSo 123 = .ok (.invokevirtual 51, 3) := by decide +kernel
theorem dX9_isSo_126 : decode cX9_isSo 126 = .ok (.ifCond .eq 7, 3) := by decide +kernel
theorem dX9_isSo_129 : decode cX9_isSo 129 = .ok (.iconst 1, 1) := by decide +kernel
theorem dX9_isSo_130 : decode cX9_isSo 130 = .ok (.goto 4, 3) := by decide +kernel
theorem dX9_isSo_133 : decode cX9_isSo 133 = .ok (.iconst 0, 1) := by decide +kernel
theorem dX9_isSo_134 : decode cX9_isSo 134 = .ok (.ior, 1) := by decide +kernel
theorem dX9_isSo_135 : decode cX9_isSo 135 = .ok (.istore_n 2, 1) := by decide +kernel
theorem dX9_isSo_136 : decode cX9_isSo 136 = .ok (.iinc 3 2, 3) := by decide +kernel
theorem dX9_isSo_139 : decode cX9_isSo 139 = .ok (.iinc 3 1, 3) := by decide +kernel
theorem dX9_isSo_142 : decode cX9_isSo 142 = .ok (.goto (-133), 3) := by decide +kernel
theorem dX9_isSo_145 : decode cX9_isSo 145 = .ok (.iload_n 2, 1) := by decide +kernel
theorem dX9_isSo_146 : decode cX9_isSo 146 = .ok (.iconst 1, 1) := by decide +kernel
theorem dX9_isSo_147 : decode cX9_isSo 147 = .ok (.iand, 1) := by decide +kernel
theorem dX9_isSo_148 : decode cX9_isSo 148 = .ok (.iconst 1, 1) := by decide +kernel
theorem dX9_isSo_149 : decode cX9_isSo 149 = .ok (.if_icmp .ne 7, 3) := by decide +kernel
theorem dX9_isSo_152 : decode cX9_isSo 152 = .ok (.iconst 1, 1) := by decide +kernel
theorem dX9_isSo_153 : decode cX9_isSo 153 = .ok (.goto 4, 3) := by decide +kernel
theorem dX9_isSo_156 : decode cX9_isSo 156 = .ok (.iconst 0, 1) := by decide +kernel
theorem dX9_isSo_157 : decode cX9_isSo 157 = .ok (.ireturn, 1) := by decide +kernel
theorem dX9_compares_0 : decode cX9_compares 0 = .ok (.iload_n 2, 1) := by decide +kernel
theorem dX9_compares_1 : decode cX9_compares 1 = .ok (.sipush 10000, 3) := by decide +kernel
theorem dX9_compares_4 : decode cX9_compares 4 = .ok (.if_icmp .lt 23, 3) := by decide +kernel
theorem dX9_compares_7 : decode cX9_compares 7 = .ok (.iload_n 2, 1) := by decide +kernel
theorem dX9_compares_8 : decode cX9_compares 8 = .ok (.sipush 10005, 3) := by decide +kernel
theorem dX9_compares_11 : decode cX9_compares 11 = .ok (.if_icmp .ge 16, 3) := by decide +kernel
theorem dX9_compares_14 : decode cX9_compares 14 = .ok (.aload_n 0, 1) := by decide +kernel
theorem dX9_compares_15 : decode cX9_compares 15 = .ok (.getfield 34, 3) := by decide +kernel
theorem dX9_compares_18 : decode cX9_compares 18 = .ok (.iload_n 2, 1) := by decide +kernel
theorem dX9_compares_19 : decode cX9_compares 19 = .ok (.sipush 10000, 3) := by decide +kernel
theorem dX9_compares_22 : decode cX9_compares 22 = .ok (.isub, 1) := by decide +kernel
theorem dX9_compares_23 : decode cX9_compares 23 = .ok (.iaload, 1) := by decide +kernel
theorem dX9_compares_24 : decode cX9_compares 24 = .ok (.goto 4, 3) := by decide +kernel
theorem dX9_compares_27 : decode cX9_compares 27 = .ok (.iload_n 2, 1) := by decide +kernel
theorem dX9_compares_28 : decode cX9_compares 28 = .ok (.istore 4, 2) := by decide +kernel
theorem dX9_compares_30 : decode cX9_compares 30 = .ok (.iload_n 3, 1) := by decide +kernel
theorem dX9_compares_31 : decode cX9_compares 31 = .ok (.sipush 10000, 3) := by decide +kernel
theorem dX9_compares_34 : decode cX9_compares 34 = .ok (.if_icmp .lt 23, 3) := by decide +kernel
theorem dX9_compares_37 : decode cX9_compares 37 = .ok (.iload_n 3, 1) := by decide +kernel
theorem dX9_compares_38 : decode cX9_compares 38 = .ok (.sipush 10005, 3) := by decide +kernel
theorem dX9_compares_41 : decode cX9_compares 41 = .ok (.if_icmp .ge 16, 3) := by decide +kernel
theorem dX9_compares_44 : decode cX9_compares 44 = .ok (.aload_n 0, 1) := by decide +kernel
theorem dX9_compares_45 : decode cX9_compares 45 = .ok (.getfield 34, 3) := by decide +kernel
theorem dX9_compares_48 : decode cX9_compares 48 = .ok (.iload_n 3, 1) := by decide +kernel
theorem dX9_compares_49 : decode cX9_compares 49 = .ok (.sipush 10000, 3) := by decide +kernel
theorem dX9_compares_52 : decode cX9_compares 52 = .ok (.isub, 1) := by decide +kernel
theorem dX9_compares_53 : decode cX9_compares 53 = .ok (.iaload, 1) := by decide +kernel
theorem dX9_compares_54 : decode cX9_compares 54 = .ok (.goto 4, 3) := by decide +kernel
theorem dX9_compares_57 : decode cX9_compares 57 = .ok (.iload_n 3, 1) := by decide +kernel
theorem dX9_compares_58 : decode cX9_compares 58 = .ok (.istore 5, 2) := by decide +kernel
theorem dX9_compares_60 : decode cX9_compares 60 = .ok (.iload_n 1, 1) := by decide +kernel
theorem dX9_compares_61 : decode cX9_compares 61 = .ok (.bipush 23, 2) := by decide +kernel
theorem dX9_compares_63 : decode cX9_compares 63 = .ok (.if_icmp .ne 18, 3) := by decide +kernel
theorem dX9_compares_66 : decode cX9_compares 66 = .ok (.iload 4, 2) := by decide +kernel
theorem dX9_compares_68 : decode cX9_compares 68 = .ok (.iload 5, 2) := by decide +kernel
theorem dX9_compares_70 : decode cX9_compares 70 = .ok (.if_icmp .ge 7, 3) := by decide +kernel
theorem dX9_compares_73 : decode cX9_compares 73 = .ok (.iconst 1, 1) := by decide +kernel
theorem dX9_compares_74 : decode cX9_compares 74 = .ok (.goto 40, 3) := by decide +kernel
theorem dX9_compares_77 : decode cX9_compares 77 = .ok (.iconst 0, 1) := by decide +kernel
theorem dX9_compares_78 : decode cX9_compares 78 = .ok (.goto 36, 3) := by decide +kernel
theorem dX9_compares_81 : decode cX9_compares 81 = .ok (.iload_n 1, 1) := by decide +kernel
theorem dX9_compares_82 : decode cX9_compares 82 = .ok (.bipush 24, 2) := by decide +kernel
theorem dX9_compares_84 : decode cX9_compares 84 = .ok (.if_icmp .ne 18, 3) := by decide +kernel
theorem dX9_compares_87 : decode cX9_compares 87 = .ok (.iload 4, 2) := by decide +kernel
theorem dX9_compares_89 : decode cX9_compares 89 = .ok (.iload 5, 2) := by decide +kernel
theorem dX9_compares_91 : decode cX9_compares 91 = .ok (.if_icmp .ne 7, 3) := by decide +kernel
theorem dX9_compares_94 : decode cX9_compares 94 = .ok (.iconst 1, 1) := by decide +kernel
theorem dX9_compares_95 : decode cX9_compares 95 = .ok (.goto 19, 3) := by decide +kernel
theorem dX9_compares_98 : decode cX9_compares 98 = .ok (.iconst 0, 1) := by decide +kernel
theorem dX9_compares_99 : decode cX9_compares 99 = .ok (.goto 15, 3) := by decide +kernel
theorem dX9_compares_102 : decode cX9_compares 102 = .ok (.iload 4, 2) := by decide +kernel
theorem dX9_compares_104 : decode cX9_compares 104 = .ok (.iload 5, 2) := by decide +kernel
theorem dX9_compares_106 : decode cX9_compares 106 = .ok (.if_icmp .le 7, 3) := by decide +kernel
theorem dX9_compares_109 : decode cX9_compares 109 = .ok (.iconst 1, 1) := by decide +kernel
theorem dX9_compares_110 : decode cX9_compares 110 = .ok (.goto 4, 3) := by decide +kernel
theorem dX9_compares_113 : decode cX9_compares 113 = .ok (.iconst 0, 1) := by decide +kernel
theorem dX9_compares_114 : decode cX9_compares 114 = .ok (.ireturn, 1) := by decide +kernel
theorem dX10_init_0 : decode cX10_init 0 = .ok (.aload_n 0, 1) := by decide +kernel
theorem dX10_init_1 : decode cX10_init 1 = .ok (.invokespecial 3, 3) := by decide +kernel
theorem dX10_init_4 : decode cX10_init 4 = .ok (.aload_n 0, 1) := by decide +kernel
theorem dX10_init_5 : decode cX10_init 5 = .ok (.iconst 0, 1) := by decide +kernel
theorem dX10_init_6 : decode cX10_init 6 = .ok (.putfield 9, 3) := by decide +kernel
theorem dX10_init_9 : decode cX10_init 9 = .ok (.aload_n 0, 1) := by decide +kernel
theorem dX10_init_10 : decode cX10_init 10 = .ok (.iconst 0, 1) := by decide +kernel
theorem dX10_init_11 : decode cX10_init 11 = .ok (.putfield 15, 3) := by decide +kernel
theorem dX10_init_14 : decode cX10_init 14 = .ok (.aload_n 0, 1) := by decide +kernel
theorem dX10_init_15 : decode cX10_init 15 = .ok (.iconst 0, 1) := by decide +kernel
theorem dX10_init_16 : decode cX10_init 16 = .ok (.putfield 18, 3) := by decide +kernel
theorem dX10_init_19 : decode cX10_init 19 = .ok (.aload_n 0, 1) := by decide +kernel
theorem dX10_init_20 : decode cX10_init 20 = .ok (.iconst 0, 1) := by decide +kernel
theorem dX10_init_21 : decode cX10_init 21 = .ok (.putfield 21, 3) := by decide +kernel
theorem dX10_init_24 : decode cX10_init 24 = .ok (.aload_n 0, 1) := by decide +kernel
theorem dX10_init_25 : decode cX10_init 25 = .ok (.bipush 6, 2) := by decide +kernel
theorem dX10_init_27 : decode cX10_init 27 = .ok (.newarray .int, 2) := by decide +kernel
theorem dX10_init_29 : decode cX10_init 29 = .ok (.putfield 24, 3) := by decide +kernel
theorem dX10_init_32 : decode cX10_init 32 = .ok (.aload_n 0, 1) := by decide +kernel
theorem dX10_init_33 : decode cX10_init 33 = .ok (.bipush 6, 2) := by decide +kernel
theorem dX10_init_35 : decode cX10_init 35 = .ok (.newarray .int, 2) := by decide +kernel
theorem dX10_init_37 : decode cX10_init 37 = .ok (.putfield 28, 3) := by decide +kernel
theorem dX10_init_40 : decode cX10_init 40 = .ok (.return_, 1) := by decide +kernel
theorem dX10_copy_0 : decode cX10_copy 0 = .ok (.aload_n 0, 1) := by decide +kernel
theorem dX10_copy_1 : decode cX10_copy 1 = .ok (.aload_n 1, 1) := by decide +kernel
theorem dX10_copy_2 : decode cX10_copy 2 = .ok (.getfield 9, 3) := by decide +kernel
theorem dX10_copy_5 : decode cX10_copy 5 = .ok (.putfield 9, 3) := by decide +kernel
theorem dX10_copy_8 : decode cX10_copy 8 = .ok (.aload_n 0, 1) := by decide +kernel
theorem dX10_copy_9 : decode cX10_copy 9 = .ok (.aload_n 1, 1) := by decide +kernel
theorem dX10_copy_10 : decode cX10_copy 10 = .ok (.getfield 15, 3) := by decide +kernel
theorem dX10_copy_13 : decode cX10_copy 13 = .ok (.putfield 15, 3) := by decide +kernel
theorem dX10_copy_16 : decode cX10_copy 16 = .ok (.aload_n 0, 1) := by decide +kernel
theorem dX10_copy_17 : decode cX10_copy 17 = .ok (.aload_n 1, 1) := by decide +kernel
theorem dX10_copy_18 : decode cX10_copy 18 = .ok (.getfield 18, 3) := by decide +kernel
theorem dX10_copy_21 : decode cX10_copy 21 = .ok (.putfield 18, 3) := by decide +kernel
theorem dX10_copy_24 : decode cX10_copy 24 = .ok (.aload_n 0, 1) := by decide +kernel
theorem dX10_copy_25 : decode cX10_copy 25 = .ok (.aload_n 1, 1) := by decide +kernel
theorem dX10_copy_26 : decode cX10_copy 26 = .ok (.getfield 21, 3) := by decide +kernel
theorem dX10_copy_29 : decode cX10_copy 29 = .ok (.putfield 21, 3) := by decide +kernel
theorem dX10_copy_32 : decode cX10_copy 32 = .ok (.aload_n 1, 1) := by decide +kernel
theorem dX10_copy_33 : decode cX10_copy 33 = .ok (.getfield 24, 3) := by decide +kernel
theorem dX10_copy_36 : decode cX10_copy 36 = .ok (.iconst 0, 1) := by decide +kernel
theorem dX10_copy_37 : decode cX10_copy 37 = .ok (.aload_n 0, 1) := by decide +kernel
theorem dX10_copy_38 : decode cX10_copy 38 = .ok (.getfield 24, 3) := by decide +kernel
theorem dX10_copy_41 : decode cX10_copy 41 = .ok (.iconst 0, 1) := by decide +kernel
theorem dX10_copy_42 : decode cX10_copy 42 = .ok (.bipush 6, 2) := by decide +kernel
theorem dX10_copy_44 : decode cX10_copy 44 = .ok (.invokestatic 31, 3) := by decide +kernel
theorem dX10_copy_47 : decode cX10_copy 47 = .ok (.aload_n 1, 1) := by decide +kernel
theorem dX10_copy_48 : decode cX10_copy 48 = .ok (.getfield 28, 3) := by decide +kernel
theorem dX10_copy_51 : decode cX10_copy 51 = .ok (.iconst 0, 1) := by decide +kernel
theorem dX10_copy_52 : decode cX10_copy 52 = .ok (.aload_n 0, 1) := by decide +kernel
theorem dX10_copy_53 : decode cX10_copy 53 = .ok (.getfield 28, 3) := by decide +kernel
theorem dX10_copy_56 : decode cX10_copy 56 = .ok (.iconst 0, 1) := by decide +kernel
theorem dX10_copy_57 : decode cX10_copy 57 = .ok (.bipush 6, 2) := by decide +kernel
theorem dX10_copy_59 : decode cX10_copy 59 = .ok (.invokestatic 31, 3) := by decide +kernel
theorem dX10_copy_62 : decode cX10_copy 62 = .ok (.return_, 1) := by decide +kernel
theorem dJ6_bitCount_0f7a4_0 : decode cJ6_bitCount_0f7a4 0 = .ok (.iload_n 0, 1) := by decide +kernel
theorem dJ6_bitCount_0f7a4_1 : decode cJ6_bitCount_0f7a4 1 = .ok (.iload_n 0, 1) := by decide +kernel
theorem dJ6_bitCount_0f7a4_2 : decode cJ6_bitCount_0f7a4 2 = .ok (.iconst 1, 1) := by decide +kernel
theorem dJ6_bitCount_0f7a4_3 : decode cJ6_bitCount_0f7a4 3 = .ok (.iushr, 1) := by decide +kernel
theorem dJ6_bitCount_0f7a4_4 : decode cJ6_bitCount_0f7a4 4 = .ok (.ldc_w 265, 3) := by decide +kernel
theorem dJ6_bitCount_0f7a4_7 : decode cJ6_bitCount_0f7a4 7 = .ok (.iand, 1) := by decide +kernel
theorem dJ6_bitCount_0f7a4_8 : decode cJ6_bitCount_0f7a4 8 = .ok (.isub, 1) := by decide +kernel
theorem dJ6_bitCount_0f7a4_9 : decode cJ6_bitCount_0f7a4 9 = .ok (.istore_n 0, 1) := by decide +kernel
theorem dJ6_bitCount_0f7a4_10 : decode cJ6_bitCount_0f7a4 10 = .ok (.iload_n 0, 1) := by decide +kernel
theorem dJ6_bitCount_0f7a4_11 : decode cJ6_bitCount_0f7a4 11 = .ok (.ldc_w 266, 3) := by decide +kernel
theorem dJ6_bitCount_0f7a4_14 : decode cJ6_bitCount_0f7a4 14 = .ok (.iand, 1) := by decide +kernel
theorem dJ6_bitCount_0f7a4_15 : decode cJ6_bitCount_0f7a4 15 = .ok (.iload_n 0, 1) := by decide +kernel
theorem dJ6_bitCount_0f7a4_16 : decode cJ6_bitCount_0f7a4 16 = .ok (.iconst 2, 1) := by decide +kernel
theorem dJ6_bitCount_0f7a4_17 : decode cJ6_bitCount_0f7a4 17 = .ok (.iushr, 1) := by decide +kernel
theorem dJ6_bitCount_0f7a4_18 : decode cJ6_bitCount_0f7a4 18 = .ok (.ldc_w 266, 3) := by decide +kernel
theorem dJ6_bitCount_0f7a4_21 : decode cJ6_bitCount_0f7a4 21 = .ok (.iand, 1) := by decide +kernel
theorem dJ6_bitCount_0f7a4_22 : decode cJ6_bitCount_0f7a4 22 = .ok (.iadd, 1) := by decide +kernel
theorem dJ6_bitCount_0f7a4_23 : decode cJ6_bitCount_0f7a4 23 = .ok (.istore_n 0, 1) := by decide +kernel
theorem dJ6_bitCount_0f7a4_24 : decode cJ6_bitCount_0f7a4 24 = .ok (.iload_n 0, 1) := by decide +kernel
theorem dJ6_bitCount_0f7a4_25 : decode cJ6_bitCount_0f7a4 25 = .ok (.iload_n 0, 1) := by decide +kernel
theorem dJ6_bitCount_0f7a4_26 : decode cJ6_bitCount_0f7a4 26 = .ok (.iconst 4, 1) := by decide +kernel
theorem dJ6_bitCount_0f7a4_27 : decode cJ6_bitCount_0f7a4 27 = .ok (.iushr, 1) := by decide +kernel
theorem dJ6_bitCount_0f7a4_28 : decode cJ6_bitCount_0f7a4 28 = .ok (.iadd, 1) := by decide +kernel
theorem dJ6_bitCount_0f7a4_29 : decode cJ6_bitCount_0f7a4 29 = .ok (.ldc_w 267, 3) := by decide +kernel
theorem dJ6_bitCount_0f7a4_32 : decode cJ6_bitCount_0f7a4 32 = .ok (.iand, 1) := by decide +kernel
theorem dJ6_bitCount_0f7a4_33 : decode cJ6_bitCount_0f7a4 33 = .ok (.istore_n 0, 1) := by decide +kernel
theorem dJ6_bitCount_0f7a4_34 : decode cJ6_bitCount_0f7a4 34 = .ok (.iload_n 0, 1) := by decide +kernel
theorem dJ6_bitCount_0f7a4_35 : decode cJ6_bitCount_0f7a4 35 = .ok (.iload_n 0, 1) := by decide +kernel
theorem dJ6_bitCount_0f7a4_36 : decode cJ6_bitCount_0f7a4 36 = .ok (.bipush 8, 2) := by decide +kernel
theorem dJ6_bitCount_0f7a4_38 : decode cJ6_bitCount_0f7a4 38 = .ok (.iushr, 1) := by decide +kernel
theorem dJ6_bitCount_0f7a4_39 : decode cJ6_bitCount_0f7a4 39 = .ok (.iadd, 1) := by decide +kernel
theorem dJ6_bitCount_0f7a4_40 : decode cJ6_bitCount_0f7a4 40 = .ok (.istore_n 0, 1) := by decide +kernel
theorem dJ6_bitCount_0f7a4_41 : decode cJ6_bitCount_0f7a4 41 = .ok (.iload_n 0, 1) := by decide +kernel
theorem dJ6_bitCount_0f7a4_42 : decode cJ6_bitCount_0f7a4 42 = .ok (.iload_n 0, 1) := by decide +kernel
theorem dJ6_bitCount_0f7a4_43 : decode cJ6_bitCount_0f7a4 43 = .ok (.bipush 16, 2) := by decide +kernel
theorem dJ6_bitCount_0f7a4_45 : decode cJ6_bitCount_0f7a4 45 = .ok (.iushr, 1) := by decide +kernel
theorem dJ6_bitCount_0f7a4_46 : decode cJ6_bitCount_0f7a4 46 = .ok (.iadd, 1) := by decide +kernel
theorem dJ6_bitCount_0f7a4_47 : decode cJ6_bitCount_0f7a4 47 = .ok (.istore_n 0, 1) := by decide +kernel
theorem dJ6_bitCount_0f7a4_48 : decode cJ6_bitCount_0f7a4 48 = .ok (.iload_n 0, 1) := by decide +kernel
theorem dJ6_bitCount_0f7a4_49 : decode cJ6_bitCount_0f7a4 49 = .ok (.bipush 63, 2) := by decide +kernel
theorem dJ6_bitCount_0f7a4_51 : decode cJ6_bitCount_0f7a4 51 = .ok (.iand, 1) := by decide +kernel
theorem dJ6_bitCount_0f7a4_52 : decode cJ6_bitCount_0f7a4 52 = .ok (.ireturn, 1) := by decide +kernel
theorem dJ9_abs_0f7a4_0 : decode cJ9_abs_0f7a4 0 = .ok (.iload_n 0, 1) := by decide +kernel
theorem dJ9_abs_0f7a4_1 : decode cJ9_abs_0f7a4 1 = .ok (.ifCond .ge 8, 3) := by decide +kernel
theorem dJ9_abs_0f7a4_4 : decode cJ9_abs_0f7a4 4 = .ok (.iload_n 0, 1) := by decide +kernel
theorem dJ9_abs_0f7a4_5 : decode cJ9_abs_0f7a4 5 = .ok (.ineg, 1) := by decide +kernel
theorem dJ9_abs_0f7a4_6 : decode cJ9_abs_0f7a4 6 = .ok (.goto 4, 3) := by decide +kernel
theorem dJ9_abs_0f7a4_9 : decode cJ9_abs_0f7a4 9 = .ok (.iload_n 0, 1) := by decide +kernel
theorem dJ9_abs_0f7a4_10 : decode cJ9_abs_0f7a4 10 = .ok (.ireturn, 1) := by decide +kernel
theorem dJ9_max_7cf53_0 : decode cJ9_max_7cf53 0 = .ok (.iload_n 0, 1) := by decide +kernel
theorem dJ9_max_7cf53_1 : decode cJ9_max_7cf53 1 = .ok (.iload_n 1, 1) := by decide +kernel
theorem dJ9_max_7cf53_2 : decode cJ9_max_7cf53 2 = .ok (.if_icmp .lt 7, 3) := by decide +kernel
theorem dJ9_max_7cf53_5 : decode cJ9_max_7cf53 5 = .ok (.iload_n 0, 1) := by decide +kernel
theorem dJ9_max_7cf53_6 : decode cJ9_max_7cf53 6 = .ok (.goto 4, 3) := by decide +kernel
theorem dJ9_max_7cf53_9 : decode cJ9_max_7cf53 9 = .ok (.iload_n 1, 1) := by decide +kernel
theorem dJ9_max_7cf53_10 : decode cJ9_max_7cf53 10 = .ok (.ireturn, 1) := by decide +kernel
theorem dJ9_min_7cf53_0 : decode cJ9_min_7cf53 0 = .ok (.iload_n 0, 1) := by decide +kernel
theorem dJ9_min_7cf53_1 : decode cJ9_min_7cf53 1 = .ok (.iload_n 1, 1) := by decide +kernel
theorem dJ9_min_7cf53_2 : decode cJ9_min_7cf53 2 = .ok (.if_icmp .gt 7, 3) := by decide +kernel
theorem dJ9_min_7cf53_5 : decode cJ9_min_7cf53 5 = .ok (.iload_n 0, 1) := by decide +kernel
theorem dJ9_min_7cf53_6 : decode cJ9_min_7cf53 6 = .ok (.goto 4, 3) := by decide +kernel
theorem dJ9_min_7cf53_9 : decode cJ9_min_7cf53 9 = .ok (.iload_n 1, 1) := by decide +kernel
theorem dJ9_min_7cf53_10 : decode cJ9_min_7cf53 10 = .ok (.ireturn, 1) := by decide +kernel
theorem dJ0_length_8abf5_0 : decode cJ0_length_8abf5 0 = .ok (.aload_n 0, 1) := by decide +kernel
theorem dJ0_length_8abf5_1 : decode cJ0_length_8abf5 1 = .ok (.getfield 9, 3) := by decide +kernel
theorem dJ0_length_8abf5_4 : decode cJ0_length_8abf5 4 = .ok (.arraylength, 1) := by decide +kernel
theorem dJ0_length_8abf5_5 : decode cJ0_length_8abf5 5 = .ok (.aload_n 0, 1) := by decide +kernel
theorem dJ0_length_8abf5_6 : decode cJ0_length_8abf5 6 = .ok (.invokevirtual 335, 3) := by decide +kernel
theorem dJ0_length_8abf5_9 : decode cJ0_length_8abf5 9 = .ok (.ishr, 1) := by decide +kernel
theorem dJ0_length_8abf5_10 : decode cJ0_length_8abf5 10 = .ok (.ireturn, 1) := by decide +kernel
theorem dJ0_charAt_5068e_0 : decode cJ0_charAt_5068e 0 = .ok (.aload_n 0, 1) := by decide +kernel
theorem dJ0_charAt_5068e_1 : decode cJ0_charAt_5068e 1 = .ok (.invokevirtual 492, 3) := by decide +kernel
theorem dJ0_charAt_5068e_4 : decode cJ0_charAt_5068e 4 = .ok (.ifCond .eq 12, 3) := by decide +kernel
theorem dJ0_charAt_5068e_7 : decode cJ0_charAt_5068e 7 = .ok (.aload_n 0, 1) := by decide +kernel
theorem dJ0_charAt_5068e_8 : decode cJ0_charAt_5068e 8 = .ok (.getfield 9, 3) := by decide +kernel
theorem dJ0_charAt_5068e_11 : decode cJ0_charAt_5068e 11 = .ok (.iload_n 1, 1) := by decide +kernel
theorem dJ0_charAt_5068e_12 : decode cJ0_charAt_5068e 12 = .ok (.invokestatic 495, 3) := by decide +kernel
theorem dJ0_charAt_5068e_15 : decode cJ0_charAt_5068e 15 = .ok (.ireturn, 1) := by decide +kernel
theorem dJ0_charAt_5068e_16 : decode cJ0_charAt_5068e 16 = .ok (.aload_n 0, 1) := by decide +kernel
theorem dJ0_charAt_5068e_17 : decode cJ0_charAt_5068e 17 = .ok (.getfield 9, 3) := by decide +kernel
theorem dJ0_charAt_5068e_20 : decode cJ0_charAt_5068e 20 = .ok (.iload_n 1, 1) := by decide +kernel
theorem dJ0_charAt_5068e_21 : decode cJ0_charAt_5068e 21 = .ok (.invokestatic 498, 3) := by decide +kernel
theorem dJ0_charAt_5068e_24 : decode cJ0_charAt_5068e 24 = .ok (.ireturn, 1) := by decide +kernel
theorem dJ0_coder_7d493_0 : decode cJ0_coder_7d493 0 = .ok (.getstatic 38, 3) := by decide +kernel
theorem dJ0_coder_7d493_3 : decode cJ0_coder_7d493 3 = .ok (.ifCond .eq 10, 3) := by decide +kernel
theorem dJ0_coder_7d493_6 : decode cJ0_coder_7d493 6 = .ok (.aload_n 0, 1) := by decide +kernel
theorem dJ0_coder_7d493_7 : decode cJ0_coder_7d493 7 = .ok (.getfield 15, 3) := by decide +kernel
theorem dJ0_coder_7d493_10 : decode cJ0_coder_7d493 10 = .ok (.goto 4, 3) := by decide +kernel
theorem dJ0_coder_7d493_13 : decode cJ0_coder_7d493 13 = .ok (.iconst 1, 1) := by decide +kernel
theorem dJ0_coder_7d493_14 : decode cJ0_coder_7d493 14 = .ok (.ireturn, 1) := by decide +kernel
theorem dJ0_isLatin1_aae02_0 : decode cJ0_isLatin1_aae02 0 = .ok (.getstatic 38, 3) := by decide +kernel
theorem dJ0_isLatin1_aae02_3 : decode cJ0_isLatin1_aae02 3 = .ok (.ifCond .eq 14, 3) := by decide +kernel
theorem dJ0_isLatin1_aae02_6 : decode cJ0_isLatin1_aae02 6 = .ok (.aload_n 0, 1) := by decide +kernel
theorem dJ0_isLatin1_aae02_7 : decode cJ0_isLatin1_aae02 7 = .ok (.getfield 15, 3) := by decide +kernel
theorem dJ0_isLatin1_aae02_10 : decode cJ0_isLatin1_aae02 10 = .ok (.ifCond .ne 7, 3) := by decide +kernel
theorem dJ0_isLatin1_aae02_13 : decode cJ0_isLatin1_aae02 13 = .ok (.iconst 1, 1) := by decide +kernel
theorem dJ0_isLatin1_aae02_14 : decode cJ0_isLatin1_aae02 14 = .ok (.goto 4, 3) := by decide +kernel
theorem dJ0_isLatin1_aae02_17 : decode cJ0_isLatin1_aae02 17 = .ok (.iconst 0, 1) := by decide +kernel
theorem dJ0_isLatin1_aae02_18 : decode cJ0_isLatin1_aae02 18 = .ok (.ireturn, 1) := by decide +kernel
theorem dJ0_checkIndex_df160_0 : decode cJ0_checkIndex_df160 0 = .ok (.iload_n 0, 1) := by decide +kernel
theorem dJ0_checkIndex_df160_1 : decode cJ0_checkIndex_df160 1 = .ok (.iload_n 1, 1) := by decide +kernel
theorem dJ0_checkIndex_df160_2 : decode cJ0_checkIndex_df160 2 = .ok (.getstatic 1053, 3) := by decide +kernel
theorem dJ0_checkIndex_df160_5 : decode cJ0_checkIndex_df160 5 = .ok (.invokestatic 1059, 3) := by decide +kernel
theorem dJ0_checkIndex_df160_8 : decode cJ0_checkIndex_df160 8 = .ok (.pop, 1) := by decide +kernel
theorem dJ0_checkIndex_df160_9 : decode cJ0_checkIndex_df160 9 = .ok (.return_, 1) := by decide +kernel
theorem dJ1_charAt_3b067_0 : decode cJ1_charAt_3b067 0 = .ok (.iload_n 1, 1) := by decide +kernel
theorem dJ1_charAt_3b067_1 : decode cJ1_charAt_3b067 1 = .ok (.aload_n 0, 1) := by decide +kernel
theorem dJ1_charAt_3b067_2 : decode cJ1_charAt_3b067 2 = .ok (.arraylength, 1) := by decide +kernel
theorem dJ1_charAt_3b067_3 : decode cJ1_charAt_3b067 3 = .ok (.invokestatic 9, 3) := by decide +kernel
theorem dJ1_charAt_3b067_6 : decode cJ1_charAt_3b067 6 = .ok (.aload_n 0, 1) := by decide +kernel
theorem dJ1_charAt_3b067_7 : decode cJ1_charAt_3b067 7 = .ok (.iload_n 1, 1) := by decide +kernel
theorem dJ1_charAt_3b067_8 : decode cJ1_charAt_3b067 8 = .ok (.baload, 1) := by decide +kernel
theorem dJ1_charAt_3b067_9 : decode cJ1_charAt_3b067 9 = .ok (.sipush 255, 3) := by decide +kernel
theorem dJ1_charAt_3b067_12 : decode cJ1_charAt_3b067 12 = .ok (.iand, 1) := by decide +kernel
theorem dJ1_charAt_3b067_13 : decode cJ1_charAt_3b067 13 = .ok (.i2c, 1) := by decide +kernel
theorem dJ1_charAt_3b067_14 : decode cJ1_charAt_3b067 14 = .ok (.ireturn, 1) := by decide +kernel
theorem dJ2_getChar_3b067_0 : decode cJ2_getChar_3b067 0 = .ok (.getstatic 44, 3) := by decide +kernel
theorem dJ2_getChar_3b067_3 : decode cJ2_getChar_3b067 3 = .ok (.ifCond .ne 25, 3) := by decide +kernel
theorem dJ2_getChar_3b067_6 : decode cJ2_getChar_3b067 6 = .ok (.iload_n 1, 1) := by decide +kernel
theorem dJ2_getChar_3b067_7 : decode cJ2_getChar_3b067 7 = .ok (.ifCond .lt 11, 3) := by decide +kernel
theorem dJ2_getChar_3b067_10 : decode cJ2_getChar_3b067 10 = .ok (.iload_n 1, 1) := by decide +kernel
theorem dJ2_getChar_3b067_11 : decode cJ2_getChar_3b067 11 = .ok (.aload_n 0, 1) := by decide +kernel
theorem dJ2_getChar_3b067_12 : decode cJ2_getChar_3b067 12 = .ok (.invokestatic 48, 3) := by decide +kernel
theorem dJ2_getChar_3b067_15 : decode cJ2_getChar_3b067 15 = .ok (.if_icmp .lt 13, 3) := by decide +kernel
theorem dJ2_getChar_3b067_18 : decode cJ2_getChar_3b067 18 = .ok (.new 52, 3) := by decide +kernel
theorem dJ2_getChar_3b067_21 : decode cJ2_getChar_3b067 21 = .ok (.dup, 1) := by decide +kernel
theorem dJ2_getChar_3b067_22 : decode cJ2_getChar_3b067 22 = .ok (.ldc 54, 2) := by decide +kernel
theorem dJ2_getChar_3b067_24 : decode cJ2_getChar_3b067 24 = .ok (.invokespecial 56, 3) := by decide +kernel
theorem dJ2_getChar_3b067_27 : decode cJ2_getChar_3b067 27 = .ok (.athrow, 1) := by decide +kernel
theorem dJ2_getChar_3b067_28 : decode cJ2_getChar_3b067 28 = .ok (.iload_n 1, 1) := by decide +kernel
theorem dJ2_getChar_3b067_29 : decode cJ2_getChar_3b067 29 = .ok (.iconst 1, 1) := by decide +kernel
theorem dJ2_getChar_3b067_30 : decode cJ2_getChar_3b067 30 = .ok (.ishl, 1) := by decide +kernel
theorem dJ2_getChar_3b067_31 : decode cJ2_getChar_3b067 31 = .ok (.istore_n 1, 1) := by decide +kernel
theorem dJ2_getChar_3b067_32 : decode cJ2_getChar_3b067 32 = .ok (.aload_n 0, 1) := by decide +kernel
theorem dJ2_getChar_3b067_33 : decode cJ2_getChar_3b067 33 = .ok (.iload_n 1, 1) := by decide +kernel
theorem dJ2_getChar_3b067_34 : decode cJ2_getChar_3b067 34 = .ok (.iinc 1 1, 3) := by decide +kernel
theorem dJ2_getChar_3b067_37 : decode cJ2_getChar_3b067 37 = .ok (.baload, 1) := by decide +kernel
theorem dJ2_getChar_3b067_38 : decode cJ2_getChar_3b067 38 = .ok (.sipush 255, 3) := by decide +kernel
theorem dJ2_getChar_3b067_41 : decode cJ2_getChar_3b067 41 = .ok (.iand, 1) := by decide +kernel
theorem dJ2_getChar_3b067_42 : decode cJ2_getChar_3b067 42 = .ok (.getstatic 59, 3) := by decide +kernel
theorem dJ2_getChar_3b067_45 : decode cJ2_getChar_3b067 45 = .ok (.ishl, 1) := by decide +kernel
theorem dJ2_getChar_3b067_46 : decode cJ2_getChar_3b067 46 = .ok (.aload_n 0, 1) := by decide +kernel
theorem dJ2_getChar_3b067_47 : decode cJ2_getChar_3b067 47 = .ok (.iload_n 1, 1) := by decide +kernel
theorem dJ2_getChar_3b067_48 : decode cJ2_getChar_3b067 48 = .ok (.baload, 1) := by decide +kernel
theorem dJ2_getChar_3b067_49 : decode cJ2_getChar_3b067 49 = .ok (.sipush 255, 3) := by decide +kernel
theorem dJ2_getChar_3b067_52 : decode cJ2_getChar_3b067 52 = .ok (.iand, 1) := by decide +kernel
theorem dJ2_getChar_3b067_53 : decode cJ2_getChar_3b067 53 = .ok (.getstatic 63, 3) := by decide +kernel
theorem dJ2_getChar_3b067_56 : decode cJ2_getChar_3b067 56 = .ok (.ishl, 1) := by decide +kernel
theorem dJ2_getChar_3b067_57 : decode cJ2_getChar_3b067 57 = .ok (.ior, 1) := by decide +kernel
theorem dJ2_getChar_3b067_58 : decode cJ2_getChar_3b067 58 = .ok (.i2c, 1) := by decide +kernel
theorem dJ2_getChar_3b067_59 : decode cJ2_getChar_3b067 59 = .ok (.ireturn, 1) := by decide +kernel
theorem dJ2_length_9d52b_0 : decode cJ2_length_9d52b 0 = .ok (.aload_n 0, 1) := by decide +kernel
theorem dJ2_length_9d52b_1 : decode cJ2_length_9d52b 1 = .ok (.arraylength, 1) := by decide +kernel
theorem dJ2_length_9d52b_2 : decode cJ2_length_9d52b 2 = .ok (.iconst 1, 1) := by decide +kernel
theorem dJ2_length_9d52b_3 : decode cJ2_length_9d52b 3 = .ok (.ishr, 1) := by decide +kernel
theorem dJ2_length_9d52b_4 : decode cJ2_length_9d52b 4 = .ok (.ireturn, 1) := by decide +kernel
theorem dJ2_charAt_3b067_0 : decode cJ2_charAt_3b067 0 = .ok (.iload_n 1, 1) := by decide +kernel
theorem dJ2_charAt_3b067_1 : decode cJ2_charAt_3b067 1 = .ok (.aload_n 0, 1) := by decide +kernel
theorem dJ2_charAt_3b067_2 : decode cJ2_charAt_3b067 2 = .ok (.invokestatic 67, 3) := by decide +kernel
theorem dJ2_charAt_3b067_5 : decode cJ2_charAt_3b067 5 = .ok (.aload_n 0, 1) := by decide +kernel
theorem dJ2_charAt_3b067_6 : decode cJ2_charAt_3b067 6 = .ok (.iload_n 1, 1) := by decide +kernel
theorem dJ2_charAt_3b067_7 : decode cJ2_charAt_3b067 7 = .ok (.invokestatic 71, 3) := by decide +kernel
theorem dJ2_charAt_3b067_10 : decode cJ2_charAt_3b067 10 = .ok (.ireturn, 1) := by decide +kernel
theorem dJ2_checkIndex_2214a_0 : decode cJ2_checkIndex_2214a 0 = .ok (.iload_n 0, 1) := by decide +kernel
theorem dJ2_checkIndex_2214a_1 : decode cJ2_checkIndex_2214a 1 = .ok (.aload_n 1, 1) := by decide +kernel
theorem dJ2_checkIndex_2214a_2 : decode cJ2_checkIndex_2214a 2 = .ok (.invokestatic 48, 3) := by decide +kernel
theorem dJ2_checkIndex_2214a_5 : decode cJ2_checkIndex_2214a 5 = .ok (.invokestatic 414, 3) := by decide +kernel
theorem dJ2_checkIndex_2214a_8 : decode cJ2_checkIndex_2214a 8 = .ok (.return_, 1) := by decide +kernel
theorem dJ7_fill_d0a16_0 : decode cJ7_fill_d0a16 0 = .ok (.iconst 0, 1) := by decide +kernel
theorem dJ7_fill_d0a16_1 : decode cJ7_fill_d0a16 1 = .ok (.istore_n 3, 1) := by decide +kernel
theorem dJ7_fill_d0a16_2 : decode cJ7_fill_d0a16 2 = .ok (.aload_n 0, 1) := by decide +kernel
theorem dJ7_fill_d0a16_3 : decode cJ7_fill_d0a16 3 = .ok (.arraylength, 1) := by decide +kernel
theorem dJ7_fill_d0a16_4 : decode cJ7_fill_d0a16 4 = .ok (.istore 4, 2) := by decide +kernel
theorem dJ7_fill_d0a16_6 : decode cJ7_fill_d0a16 6 = .ok (.iload_n 3, 1) := by decide +kernel
theorem dJ7_fill_d0a16_7 : decode cJ7_fill_d0a16 7 = .ok (.iload 4, 2) := by decide +kernel
theorem dJ7_fill_d0a16_9 : decode cJ7_fill_d0a16 9 = .ok (.if_icmp .ge 13, 3) := by decide +kernel
theorem dJ7_fill_d0a16_12 : decode cJ7_fill_d0a16 12 = .ok (.aload_n 0, 1) := by decide +kernel
theorem dJ7_fill_d0a16_13 : decode cJ7_fill_d0a16 13 = .ok (.iload_n 3, 1) := by decide +kernel
theorem dJ7_fill_d0a16_14 : decode cJ7_fill_d0a16 14 = .ok (.lload_n 1, 1) := by decide +kernel
theorem dJ7_fill_d0a16_15 : decode cJ7_fill_d0a16 15 = .ok (.lastore, 1) := by decide +kernel
theorem dJ7_fill_d0a16_16 : decode cJ7_fill_d0a16 16 = .ok (.iinc 3 1, 3) := by decide +kernel
theorem dJ7_fill_d0a16_19 : decode cJ7_fill_d0a16 19 = .ok (.goto (-13), 3) := by decide +kernel
theorem dJ7_fill_d0a16_22 : decode cJ7_fill_d0a16 22 = .ok (.return_, 1) := by decide +kernel
theorem dJ7_fill_53178_0 : decode cJ7_fill_53178 0 = .ok (.iconst 0, 1) := by decide +kernel
theorem dJ7_fill_53178_1 : decode cJ7_fill_53178 1 = .ok (.istore_n 2, 1) := by decide +kernel
theorem dJ7_fill_53178_2 : decode cJ7_fill_53178 2 = .ok (.aload_n 0, 1) := by decide +kernel
theorem dJ7_fill_53178_3 : decode cJ7_fill_53178 3 = .ok (.arraylength, 1) := by decide +kernel
theorem dJ7_fill_53178_4 : decode cJ7_fill_53178 4 = .ok (.istore_n 3, 1) := by decide +kernel
theorem dJ7_fill_53178_5 : decode cJ7_fill_53178 5 = .ok (.iload_n 2, 1) := by decide +kernel
theorem dJ7_fill_53178_6 : decode cJ7_fill_53178 6 = .ok (.iload_n 3, 1) := by decide +kernel
theorem dJ7_fill_53178_7 : decode cJ7_fill_53178 7 = .ok (.if_icmp .ge 13, 3) := by decide +kernel
theorem dJ7_fill_53178_10 : decode cJ7_fill_53178 10 = .ok (.aload_n 0, 1) := by decide +kernel
theorem dJ7_fill_53178_11 : decode cJ7_fill_53178 11 = .ok (.iload_n 2, 1) := by decide +kernel
theorem dJ7_fill_53178_12 : decode cJ7_fill_53178 12 = .ok (.iload_n 1, 1) := by decide +kernel
theorem dJ7_fill_53178_13 : decode cJ7_fill_53178 13 = .ok (.iastore, 1) := by decide +kernel
theorem dJ7_fill_53178_14 : decode cJ7_fill_53178 14 = .ok (.iinc 2 1, 3) := by decide +kernel
theorem dJ7_fill_53178_17 : decode cJ7_fill_53178 17 = .ok (.goto (-12), 3) := by decide +kernel
theorem dJ7_fill_53178_20 : decode cJ7_fill_53178 20 = .ok (.return_, 1) := by decide +kernel
theorem dJ3_checkIndex_8e157_0 : decode cJ3_checkIndex_8e157 0 = .ok (.iload_n 0, 1) := by decide +kernel
theorem dJ3_checkIndex_8e157_1 : decode cJ3_checkIndex_8e157 1 = .ok (.ifCond .lt 8, 3) := by decide +kernel
theorem dJ3_checkIndex_8e157_4 : decode cJ3_checkIndex_8e157 4 = .ok (.iload_n 0, 1) := by decide +kernel
theorem dJ3_checkIndex_8e157_5 : decode cJ3_checkIndex_8e157 5 = .ok (.iload_n 1, 1) := by decide +kernel
theorem dJ3_checkIndex_8e157_6 : decode cJ3_checkIndex_8e157 6 = .ok (.if_icmp .lt 10, 3) := by decide +kernel
theorem dJ3_checkIndex_8e157_9 : decode cJ3_checkIndex_8e157 9 = .ok (.aload_n 2, 1) := by decide +kernel
theorem dJ3_checkIndex_8e157_10 : decode cJ3_checkIndex_8e157 10 = .ok (.iload_n 0, 1) := by decide +kernel
theorem dJ3_checkIndex_8e157_11 : decode cJ3_checkIndex_8e157 11 = .ok (.iload_n 1, 1) := by decide +kernel
theorem dJ3_checkIndex_8e157_12 : decode cJ3_checkIndex_8e157 12 = .ok (.invokestatic 95, 3) := by decide +kernel
theorem dJ3_checkIndex_8e157_15 : decode cJ3_checkIndex_8e157 15 = .ok (.athrow, 1) := by decide +kernel
theorem dJ3_checkIndex_8e157_16 : decode cJ3_checkIndex_8e157 16 = .ok (.iload_n 0, 1) := by decide +kernel
theorem dJ3_checkIndex_8e157_17 : decode cJ3_checkIndex_8e157 17 = .ok (.ireturn, 1) := by decide +kernel
