theorem dX12_game_0 : decode cX12_game 0 = .ok (.iload_n 1, 1) := by decide +kernel
theorem dX12_game_1 : decode cX12_game 1 = .ok (.i2l, 1) := by decide +kernel
theorem dX12_game_2 : decode cX12_game 2 = .ok (.lconst 1, 1) := by decide +kernel
theorem dX12_game_3 : decode cX12_game 3 = .ok (.ldc2_w 79, 3) := by decide +kernel
theorem dX12_game_6 : decode cX12_game 6 = .ok (.invokestatic 58, 3) := by decide +kernel
theorem dX12_game_9 : decode cX12_game 9 = .ok (.ifCond .eq 13, 3) := by decide +kernel
theorem dX12_game_12 : decode cX12_game 12 = .ok (.aload_n 0, 1) := by decide +kernel
theorem dX12_game_13 : decode cX12_game 13 = .ok (.iconst 0, 1) := by decide +kernel
theorem dX12_game_14 : decode cX12_game 14 = .ok (.iload_n 1, 1) := by decide +kernel
theorem dX12_game_15 : decode cX12_game 15 = .ok (.iconst 1, 1) := by decide +kernel
theorem dX12_game_16 : decode cX12_game 16 = .ok (.invokevirtual 243, 3) := by decide +kernel
theorem dX12_game_19 : decode cX12_game 19 = .ok (.goto 4, 3) := by decide +kernel
theorem dX12_game_22 : decode cX12_game 22 = .ok (.iconst (-1), 1) := by decide +kernel
theorem dX12_game_23 : decode cX12_game 23 = .ok (.ireturn, 1) := by decide +kernel
theorem dX12_play_0 : decode cX12_play 0 = .ok (.iload_n 1, 1) := by decide +kernel
theorem dX12_play_1 : decode cX12_play 1 = .ok (.i2l, 1) := by decide +kernel
theorem dX12_play_2 : decode cX12_play 2 = .ok (.lconst 1, 1) := by decide +kernel
theorem dX12_play_3 : decode cX12_play 3 = .ok (.ldc2_w 79, 3) := by decide +kernel
theorem dX12_play_6 : decode cX12_play 6 = .ok (.invokestatic 58, 3) := by decide +kernel
theorem dX12_play_9 : decode cX12_play 9 = .ok (.ifCond .ne 5, 3) := by decide +kernel
theorem dX12_play_12 : decode cX12_play 12 = .ok (.iconst (-1), 1) := by decide +kernel
theorem dX12_play_13 : decode cX12_play 13 = .ok (.ireturn, 1) := by decide +kernel
theorem dX12_play_14 : decode cX12_play 14 = .ok (.aload_n 0, 1) := by decide +kernel
theorem dX12_play_15 : decode cX12_play 15 = .ok (.invokevirtual 133, 3) := by decide +kernel
theorem dX12_play_18 : decode cX12_play 18 = .ok (.ifCond .eq 6, 3) := by decide +kernel
theorem dX12_play_21 : decode cX12_play 21 = .ok (.bipush (-3), 2) := by decide +kernel
theorem dX12_play_23 : decode cX12_play 23 = .ok (.ireturn, 1) := by decide +kernel
theorem dX12_play_24 : decode cX12_play 24 = .ok (.aload_n 0, 1) := by decide +kernel
theorem dX12_play_25 : decode cX12_play 25 = .ok (.iconst 0, 1) := by decide +kernel
theorem dX12_play_26 : decode cX12_play 26 = .ok (.iload_n 1, 1) := by decide +kernel
theorem dX12_play_27 : decode cX12_play 27 = .ok (.iconst 1, 1) := by decide +kernel
theorem dX12_play_28 : decode cX12_play 28 = .ok (.invokevirtual 243, 3) := by decide +kernel
theorem dX12_play_31 : decode cX12_play 31 = .ok (.istore_n 2, 1) := by decide +kernel
theorem dX12_play_32 : decode cX12_play 32 = .ok (.aload_n 0, 1) := by decide +kernel
theorem dX12_play_33 : decode cX12_play 33 = .ok (.getfield 247, 3) := by decide +kernel
theorem dX12_play_36 : decode cX12_play 36 = .ok (.ireturn, 1) := by decide +kernel
theorem dX12_report_0 : decode cX12_report 0 = .ok (.iload_n 1, 1) := by decide +kernel
theorem dX12_report_1 : decode cX12_report 1 = .ok (.invokestatic 126, 3) := by decide +kernel
theorem dX12_report_4 : decode cX12_report 4 = .ok (.ifCond .eq 39, 3) := by decide +kernel
theorem dX12_report_7 : decode cX12_report 7 = .ok (.iload_n 2, 1) := by decide +kernel
theorem dX12_report_8 : decode cX12_report 8 = .ok (.i2l, 1) := by decide +kernel
theorem dX12_report_9 : decode cX12_report 9 = .ok (.lconst 0, 1) := by decide +kernel
theorem dX12_report_10 : decode cX12_report 10 = .ok (.lconst 1, 1) := by decide +kernel
theorem dX12_report_11 : decode cX12_report 11 = .ok (.invokestatic 58, 3) := by decide +kernel
theorem dX12_report_14 : decode cX12_report 14 = .ok (.ifCond .eq 29, 3) := by decide +kernel
theorem dX12_report_17 : decode cX12_report 17 = .ok (.iload_n 3, 1) := by decide +kernel
theorem dX12_report_18 : decode cX12_report 18 = .ok (.i2l, 1) := by decide +kernel
theorem dX12_report_19 : decode cX12_report 19 = .ok (.lconst 0, 1) := by decide +kernel
theorem dX12_report_20 : decode cX12_report 20 = .ok (.ldc2_w 250, 3) := by decide +kernel
theorem dX12_report_23 : decode cX12_report 23 = .ok (.invokestatic 58, 3) := by decide +kernel
theorem dX12_report_26 : decode cX12_report 26 = .ok (.ifCond .eq 17, 3) := by decide +kernel
theorem dX12_report_29 : decode cX12_report 29 = .ok (.iload 4, 2) := by decide +kernel
theorem dX12_report_31 : decode cX12_report 31 = .ok (.i2l, 1) := by decide +kernel
theorem dX12_report_32 : decode cX12_report 32 = .ok (.iload_n 3, 1) := by decide +kernel
theorem dX12_report_33 : decode cX12_report 33 = .ok (.i2l, 1) := by decide +kernel
theorem dX12_report_34 : decode cX12_report 34 = .ok (.ldc2_w 250, 3) := by decide +kernel
theorem dX12_report_37 : decode cX12_report 37 = .ok (.invokestatic 58, 3) := by decide +kernel
theorem dX12_report_40 : decode cX12_report 40 = .ok (.ifCond .ne 5, 3) := by decide +kernel
theorem dX12_report_43 : decode cX12_report 43 = .ok (.iconst (-1), 1) := by decide +kernel
theorem dX12_report_44 : decode cX12_report 44 = .ok (.ireturn, 1) := by decide +kernel
theorem dX12_report_45 : decode cX12_report 45 = .ok (.aload_n 0, 1) := by decide +kernel
theorem dX12_report_46 : decode cX12_report 46 = .ok (.getfield 7, 3) := by decide +kernel
theorem dX12_report_49 : decode cX12_report 49 = .ok (.iconst 5, 1) := by decide +kernel
theorem dX12_report_50 : decode cX12_report 50 = .ok (.iaload, 1) := by decide +kernel
theorem dX12_report_51 : decode cX12_report 51 = .ok (.bipush 6, 2) := by decide +kernel
theorem dX12_report_53 : decode cX12_report 53 = .ok (.if_icmp .ne 6, 3) := by decide +kernel
theorem dX12_report_56 : decode cX12_report 56 = .ok (.bipush (-2), 2) := by decide +kernel
theorem dX12_report_58 : decode cX12_report 58 = .ok (.ireturn, 1) := by decide +kernel
theorem dX12_report_59 : decode cX12_report 59 = .ok (.bipush 71, 2) := by decide +kernel
theorem dX12_report_61 : decode cX12_report 61 = .ok (.iconst 4, 1) := by decide +kernel
theorem dX12_report_62 : decode cX12_report 62 = .ok (.aload_n 0, 1) := by decide +kernel
theorem dX12_report_63 : decode cX12_report 63 = .ok (.getfield 7, 3) := by decide +kernel
theorem dX12_report_66 : decode cX12_report 66 = .ok (.iconst 5, 1) := by decide +kernel
theorem dX12_report_67 : decode cX12_report 67 = .ok (.iaload, 1) := by decide +kernel
theorem dX12_report_68 : decode cX12_report 68 = .ok (.imul, 1) := by decide +kernel
theorem dX12_report_69 : decode cX12_report 69 = .ok (.iadd, 1) := by decide +kernel
theorem dX12_report_70 : decode cX12_report 70 = .ok (.istore 5, 2) := by decide +kernel
theorem dX12_report_72 : decode cX12_report 72 = .ok (.aload_n 0, 1) := by decide +kernel
theorem dX12_report_73 : decode cX12_report 73 = .ok (.getfield 7, 3) := by decide +kernel
theorem dX12_report_76 : decode cX12_report 76 = .ok (.iload 5, 2) := by decide +kernel
theorem dX12_report_78 : decode cX12_report 78 = .ok (.iload_n 1, 1) := by decide +kernel
theorem dX12_report_79 : decode cX12_report 79 = .ok (.iastore, 1) := by decide +kernel
theorem dX12_report_80 : decode cX12_report 80 = .ok (.aload_n 0, 1) := by decide +kernel
theorem dX12_report_81 : decode cX12_report 81 = .ok (.getfield 7, 3) := by decide +kernel
theorem dX12_report_84 : decode cX12_report 84 = .ok (.iload 5, 2) := by decide +kernel
theorem dX12_report_86 : decode cX12_report 86 = .ok (.iconst 1, 1) := by decide +kernel
theorem dX12_report_87 : decode cX12_report 87 = .ok (.iadd, 1) := by decide +kernel
theorem dX12_report_88 : decode cX12_report 88 = .ok (.iload_n 2, 1) := by decide +kernel
theorem dX12_report_89 : decode cX12_report 89 = .ok (.iastore, 1) := by decide +kernel
theorem dX12_report_90 : decode cX12_report 90 = .ok (.aload_n 0, 1) := by decide +kernel
theorem dX12_report_91 : decode cX12_report 91 = .ok (.getfield 7, 3) := by decide +kernel
theorem dX12_report_94 : decode cX12_report 94 = .ok (.iload 5, 2) := by decide +kernel
theorem dX12_report_96 : decode cX12_report 96 = .ok (.iconst 2, 1) := by decide +kernel
theorem dX12_report_97 : decode cX12_report 97 = .ok (.iadd, 1) := by decide +kernel
theorem dX12_report_98 : decode cX12_report 98 = .ok (.iload_n 3, 1) := by decide +kernel
theorem dX12_report_99 : decode cX12_report 99 = .ok (.iastore, 1) := by decide +kernel
theorem dX12_report_100 : decode cX12_report 100 = .ok (.aload_n 0, 1) := by decide +kernel
theorem dX12_report_101 : decode cX12_report 101 = .ok (.getfield 7, 3) := by decide +kernel
theorem dX12_report_104 : decode cX12_report 104 = .ok (.iload 5, 2) := by decide +kernel
theorem dX12_report_106 : decode cX12_report 106 = .ok (.iconst 3, 1) := by decide +kernel
theorem dX12_report_107 : decode cX12_report 107 = .ok (.iadd, 1) := by decide +kernel
theorem dX12_report_108 : decode cX12_report 108 = .ok (.iload 4, 2) := by decide +kernel
theorem dX12_report_110 : decode cX12_report 110 = .ok (.iastore, 1) := by decide +kernel
theorem dX12_report_111 : decode cX12_report 111 = .ok (.aload_n 0, 1) := by decide +kernel
theorem dX12_report_112 : decode cX12_report 112 = .ok (.getfield 7, 3) := by decide +kernel
theorem dX12_report_115 : decode cX12_report 115 = .ok (.iconst 5, 1) := by decide +kernel
theorem dX12_report_116 : decode cX12_report 116 = .ok (.dup2, 1) := by decide +kernel
theorem dX12_report_117 : decode cX12_report 117 = .ok (.iaload, 1) := by decide +kernel
theorem dX12_report_118 : decode cX12_report 118 = .ok (.iconst 1, 1) := by decide +kernel
theorem dX12_report_119 : decode cX12_report 119 = .ok (.iadd, 1) := by decide +kernel
theorem dX12_report_120 : decode cX12_report 120 = .ok (.iastore, 1) := by decide +kernel
theorem dX12_report_121 : decode cX12_report 121 = .ok (.aload_n 0, 1) := by decide +kernel
theorem dX12_report_122 : decode cX12_report 122 = .ok (.getfield 7, 3) := by decide +kernel
theorem dX12_report_125 : decode cX12_report 125 = .ok (.iconst 5, 1) := by decide +kernel
theorem dX12_report_126 : decode cX12_report 126 = .ok (.iaload, 1) := by decide +kernel
theorem dX12_report_127 : decode cX12_report 127 = .ok (.iconst 1, 1) := by decide +kernel
theorem dX12_report_128 : decode cX12_report 128 = .ok (.isub, 1) := by decide +kernel
theorem dX12_report_129 : decode cX12_report 129 = .ok (.ireturn, 1) := by decide +kernel
theorem dX12_forget_0 : decode cX12_forget 0 = .ok (.aload_n 0, 1) := by decide +kernel
theorem dX12_forget_1 : decode cX12_forget 1 = .ok (.iconst 5, 1) := by decide +kernel
theorem dX12_forget_2 : decode cX12_forget 2 = .ok (.iconst 0, 1) := by decide +kernel
theorem dX12_forget_3 : decode cX12_forget 3 = .ok (.invokevirtual 121, 3) := by decide +kernel
theorem dX12_forget_6 : decode cX12_forget 6 = .ok (.ireturn, 1) := by decide +kernel
theorem dX12_isSoBy_0 : decode cX12_isSoBy 0 = .ok (.bipush 71, 2) := by decide +kernel
theorem dX12_isSoBy_2 : decode cX12_isSoBy 2 = .ok (.iconst 4, 1) := by decide +kernel
theorem dX12_isSoBy_3 : decode cX12_isSoBy 3 = .ok (.iload_n 1, 1) := by decide +kernel
theorem dX12_isSoBy_4 : decode cX12_isSoBy 4 = .ok (.imul, 1) := by decide +kernel
theorem dX12_isSoBy_5 : decode cX12_isSoBy 5 = .ok (.iadd, 1) := by decide +kernel
theorem dX12_isSoBy_6 : decode cX12_isSoBy 6 = .ok (.istore 4, 2) := by decide +kernel
theorem dX12_isSoBy_8 : decode cX12_isSoBy 8 = .ok (.iload_n 3, 1) := by decide +kernel
theorem dX12_isSoBy_9 : decode cX12_isSoBy 9 = .ok (.istore 5, 2) := by decide +kernel
theorem dX12_isSoBy_11 : decode cX12_isSoBy 11 = .ok (.bipush 9, 2) := by decide +kernel
theorem dX12_isSoBy_13 : decode cX12_isSoBy 13 = .ok (.istore 6, 2) := by decide +kernel
theorem dX12_isSoBy_15 : decode cX12_isSoBy 15 = .ok (.iconst 0, 1) := by decide +kernel
theorem dX12_isSoBy_16 : decode cX12_isSoBy 16 = .ok (.istore 7, 2) := by decide +kernel
theorem dX12_isSoBy_18 : decode cX12_isSoBy 18 = .ok (.iload 7, 2) := by decide +kernel
theorem dX12_isSoBy_20 : decode cX12_isSoBy 20 = .ok (.aload_n 0, 1) := by decide +kernel
theorem dX12_isSoBy_21 : decode cX12_isSoBy 21 = .ok (.getfield 7, 3) := by decide +kernel
theorem dX12_isSoBy_24 : decode cX12_isSoBy 24 = .ok (.iload 4, 2) := by decide +kernel
theorem dX12_isSoBy_26 : decode cX12_isSoBy 26 = .ok (.iaload, 1) := by decide +kernel
theorem dX12_isSoBy_27 : decode cX12_isSoBy 27 = .ok (.if_icmp .ge 84, 3) := by decide +kernel
theorem dX12_isSoBy_30 : decode cX12_isSoBy 30 = .ok (.aload_n 0, 1) := by decide +kernel
theorem dX12_isSoBy_31 : decode cX12_isSoBy 31 = .ok (.getfield 7, 3) := by decide +kernel
theorem dX12_isSoBy_34 : decode cX12_isSoBy 34 = .ok (.bipush 7, 2) := by decide +kernel
theorem dX12_isSoBy_36 : decode cX12_isSoBy 36 = .ok (.iload 7, 2) := by decide +kernel
theorem dX12_isSoBy_38 : decode cX12_isSoBy 38 = .ok (.iadd, 1) := by decide +kernel
theorem dX12_isSoBy_39 : decode cX12_isSoBy 39 = .ok (.iaload, 1) := by decide +kernel
theorem dX12_isSoBy_40 : decode cX12_isSoBy 40 = .ok (.iconst 4, 1) := by decide +kernel
theorem dX12_isSoBy_41 : decode cX12_isSoBy 41 = .ok (.irem, 1) := by decide +kernel
theorem dX12_isSoBy_42 : decode cX12_isSoBy 42 = .ok (.istore 8, 2) := by decide +kernel
theorem dX12_isSoBy_44 : decode cX12_isSoBy 44 = .ok (.iload_n 2, 1) := by decide +kernel
theorem dX12_isSoBy_45 : decode cX12_isSoBy 45 = .ok (.aload_n 0, 1) := by decide +kernel
theorem dX12_isSoBy_46 : decode cX12_isSoBy 46 = .ok (.getfield 7, 3) := by decide +kernel
theorem dX12_isSoBy_49 : decode cX12_isSoBy 49 = .ok (.bipush 7, 2) := by decide +kernel
theorem dX12_isSoBy_51 : decode cX12_isSoBy 51 = .ok (.iload 7, 2) := by decide +kernel
theorem dX12_isSoBy_53 : decode cX12_isSoBy 53 = .ok (.iadd, 1) := by decide +kernel
theorem dX12_isSoBy_54 : decode cX12_isSoBy 54 = .ok (.iaload, 1) := by decide +kernel
theorem dX12_isSoBy_55 : decode cX12_isSoBy 55 = .ok (.iconst 4, 1) := by decide +kernel
theorem dX12_isSoBy_56 : decode cX12_isSoBy 56 = .ok (.idiv, 1) := by decide +kernel
theorem dX12_isSoBy_57 : decode cX12_isSoBy 57 = .ok (.iload 7, 2) := by decide +kernel
theorem dX12_isSoBy_59 : decode cX12_isSoBy 59 = .ok (.invokestatic 95, 3) := by decide +kernel
theorem dX12_isSoBy_62 : decode cX12_isSoBy 62 = .ok (.istore 9, 2) := by decide +kernel
theorem dX12_isSoBy_64 : decode cX12_isSoBy 64 = .ok (.iload 5, 2) := by decide +kernel
theorem dX12_isSoBy_66 : decode cX12_isSoBy 66 = .ok (.iload 8, 2) := by decide +kernel
theorem dX12_isSoBy_68 : decode cX12_isSoBy 68 = .ok (.iload 9, 2) := by decide +kernel
theorem dX12_isSoBy_70 : decode cX12_isSoBy 70 = .ok (.iload 6, 2) := by decide +kernel
theorem dX12_isSoBy_72 : decode cX12_isSoBy 72 = .ok (.if_icmp .ge 8, 3) := by decide +kernel
theorem dX12_isSoBy_75 : decode cX12_isSoBy 75 = .ok (.iload 9, 2) := by decide +kernel
theorem dX12_isSoBy_77 : decode cX12_isSoBy 77 = .ok (.goto 5, 3) := by decide +kernel
theorem dX12_isSoBy_80 : decode cX12_isSoBy 80 = .ok (.iload 6, 2) := by decide +kernel
theorem dX12_isSoBy_82 : decode cX12_isSoBy 82 = .ok (.invokestatic 153, 3) := by decide +kernel
theorem dX12_isSoBy_85 : decode cX12_isSoBy 85 = .ok (.istore 10, 2) := by decide +kernel
theorem dX12_isSoBy_87 : decode cX12_isSoBy 87 = .ok (.iload 5, 2) := by decide +kernel
theorem dX12_isSoBy_89 : decode cX12_isSoBy 89 = .ok (.iload 8, 2) := by decide +kernel
theorem dX12_isSoBy_91 : decode cX12_isSoBy 91 = .ok (.iload 10, 2) := by decide +kernel
theorem dX12_isSoBy_93 : decode cX12_isSoBy 93 = .ok (.invokestatic 156, 3) := by decide +kernel
theorem dX12_isSoBy_96 : decode cX12_isSoBy 96 = .ok (.istore 5, 2) := by decide +kernel
theorem dX12_isSoBy_98 : decode cX12_isSoBy 98 = .ok (.iload 6, 2) := by decide +kernel
theorem dX12_isSoBy_100 : decode cX12_isSoBy 100 = .ok (.iload 10, 2) := by decide +kernel
theorem dX12_isSoBy_102 : decode cX12_isSoBy 102 = .ok (.isub, 1) := by decide +kernel
theorem dX12_isSoBy_103 : decode cX12_isSoBy 103 = .ok (.istore 6, 2) := by decide +kernel
theorem dX12_isSoBy_105 : decode cX12_isSoBy 105 = .ok (.iinc 7 1, 3) := by decide +kernel
theorem dX12_isSoBy_108 : decode cX12_isSoBy 108 = .ok (.goto (-90), 3) := by decide +kernel
theorem dX12_isSoBy_111 : decode cX12_isSoBy 111 = .ok (.aload_n 0, 1) := by decide +kernel
theorem dX12_isSoBy_112 : decode cX12_isSoBy 112 = .ok (.getfield 7, 3) := by decide +kernel
theorem dX12_isSoBy_115 : decode cX12_isSoBy 115 = .ok (.iload 4, 2) := by decide +kernel
theorem dX12_isSoBy_117 : decode cX12_isSoBy 117 = .ok (.iconst 1, 1) := by decide +kernel
theorem dX12_isSoBy_118 : decode cX12_isSoBy 118 = .ok (.iadd, 1) := by decide +kernel
theorem dX12_isSoBy_119 : decode cX12_isSoBy 119 = .ok (.iaload, 1) := by decide +kernel
theorem dX12_isSoBy_120 : decode cX12_isSoBy 120 = .ok (.ifCond .ne 12, 3) := by decide +kernel
theorem dX12_isSoBy_123 : decode cX12_isSoBy 123 = .ok (.iload 5, 2) := by decide +kernel
theorem dX12_isSoBy_125 : decode cX12_isSoBy 125 = .ok (.bipush 8, 2) := by decide +kernel
theorem dX12_isSoBy_127 : decode cX12_isSoBy 127 = .ok (.irem, 1) := by decide +kernel
theorem dX12_isSoBy_128 : decode cX12_isSoBy 128 = .ok (.i2l, 1) := by decide +kernel
theorem dX12_isSoBy_129 : decode cX12_isSoBy 129 = .ok (.goto 9, 3) := by decide +kernel
theorem dX12_isSoBy_132 : decode cX12_isSoBy 132 = .ok (.iload 5, 2) := by decide +kernel
theorem dX12_isSoBy_134 : decode cX12_isSoBy 134 = .ok (.bipush 8, 2) := by decide +kernel
theorem dX12_isSoBy_136 : decode cX12_isSoBy 136 = .ok (.idiv, 1) := by decide +kernel
theorem dX12_isSoBy_137 : decode cX12_isSoBy 137 = .ok (.i2l, 1) := by decide +kernel
theorem dX12_isSoBy_138 : decode cX12_isSoBy 138 = .ok (.aload_n 0, 1) := by decide +kernel
theorem dX12_isSoBy_139 : decode cX12_isSoBy 139 = .ok (.getfield 7, 3) := by decide +kernel
theorem dX12_isSoBy_142 : decode cX12_isSoBy 142 = .ok (.iload 4, 2) := by decide +kernel
theorem dX12_isSoBy_144 : decode cX12_isSoBy 144 = .ok (.iconst 2, 1) := by decide +kernel
theorem dX12_isSoBy_145 : decode cX12_isSoBy 145 = .ok (.iadd, 1) := by decide +kernel
theorem dX12_isSoBy_146 : decode cX12_isSoBy 146 = .ok (.iaload, 1) := by decide +kernel
theorem dX12_isSoBy_147 : decode cX12_isSoBy 147 = .ok (.i2l, 1) := by decide +kernel
theorem dX12_isSoBy_148 : decode cX12_isSoBy 148 = .ok (.aload_n 0, 1) := by decide +kernel
theorem dX12_isSoBy_149 : decode cX12_isSoBy 149 = .ok (.getfield 7, 3) := by decide +kernel
theorem dX12_isSoBy_152 : decode cX12_isSoBy 152 = .ok (.iload 4, 2) := by decide +kernel
theorem dX12_isSoBy_154 : decode cX12_isSoBy 154 = .ok (.iconst 3, 1) := by decide +kernel
theorem dX12_isSoBy_155 : decode cX12_isSoBy 155 = .ok (.iadd, 1) := by decide +kernel
theorem dX12_isSoBy_156 : decode cX12_isSoBy 156 = .ok (.iaload, 1) := by decide +kernel
theorem dX12_isSoBy_157 : decode cX12_isSoBy 157 = .ok (.i2l, 1) := by decide +kernel
theorem dX12_isSoBy_158 : decode cX12_isSoBy 158 = .ok (.invokestatic 58, 3) := by decide +kernel
theorem dX12_isSoBy_161 : decode cX12_isSoBy 161 = .ok (.ireturn, 1) := by decide +kernel
theorem dX12_isFit_0 : decode cX12_isFit 0 = .ok (.iconst 1, 1) := by decide +kernel
theorem dX12_isFit_1 : decode cX12_isFit 1 = .ok (.istore 4, 2) := by decide +kernel
theorem dX12_isFit_3 : decode cX12_isFit 3 = .ok (.iconst 0, 1) := by decide +kernel
theorem dX12_isFit_4 : decode cX12_isFit 4 = .ok (.istore 5, 2) := by decide +kernel
theorem dX12_isFit_6 : decode cX12_isFit 6 = .ok (.iload 5, 2) := by decide +kernel
theorem dX12_isFit_8 : decode cX12_isFit 8 = .ok (.aload_n 0, 1) := by decide +kernel
theorem dX12_isFit_9 : decode cX12_isFit 9 = .ok (.getfield 7, 3) := by decide +kernel
theorem dX12_isFit_12 : decode cX12_isFit 12 = .ok (.iconst 5, 1) := by decide +kernel
theorem dX12_isFit_13 : decode cX12_isFit 13 = .ok (.iaload, 1) := by decide +kernel
theorem dX12_isFit_14 : decode cX12_isFit 14 = .ok (.if_icmp .ge 38, 3) := by decide +kernel
theorem dX12_isFit_17 : decode cX12_isFit 17 = .ok (.iload 4, 2) := by decide +kernel
theorem dX12_isFit_19 : decode cX12_isFit 19 = .ok (.ifCond .eq 33, 3) := by decide +kernel
theorem dX12_isFit_22 : decode cX12_isFit 22 = .ok (.iload 5, 2) := by decide +kernel
theorem dX12_isFit_24 : decode cX12_isFit 24 = .ok (.iload_n 3, 1) := by decide +kernel
theorem dX12_isFit_25 : decode cX12_isFit 25 = .ok (.if_icmp .eq 14, 3) := by decide +kernel
theorem dX12_isFit_28 : decode cX12_isFit 28 = .ok (.aload_n 0, 1) := by decide +kernel
theorem dX12_isFit_29 : decode cX12_isFit 29 = .ok (.iload 5, 2) := by decide +kernel
theorem dX12_isFit_31 : decode cX12_isFit 31 = .ok (.iload_n 1, 1) := by decide +kernel
theorem dX12_isFit_32 : decode cX12_isFit 32 = .ok (.iload_n 2, 1) := by decide +kernel
theorem dX12_isFit_33 : decode cX12_isFit 33 = .ok (.invokevirtual 252, 3) := by decide +kernel
theorem dX12_isFit_36 : decode cX12_isFit 36 = .ok (.ifCond .eq 7, 3) := by decide +kernel
theorem dX12_isFit_39 : decode cX12_isFit 39 = .ok (.iconst 1, 1) := by decide +kernel
theorem dX12_isFit_40 : decode cX12_isFit 40 = .ok (.goto 4, 3) := by decide +kernel
theorem dX12_isFit_43 : decode cX12_isFit 43 = .ok (.iconst 0, 1) := by decide +kernel
theorem dX12_isFit_44 : decode cX12_isFit 44 = .ok (.istore 4, 2) := by decide +kernel
theorem dX12_isFit_46 : decode cX12_isFit 46 = .ok (.iinc 5 1, 3) := by decide +kernel
theorem dX12_isFit_49 : decode cX12_isFit 49 = .ok (.goto (-43), 3) := by decide +kernel
theorem dX12_isFit_52 : decode cX12_isFit 52 = .ok (.iload 4, 2) := by decide +kernel
theorem dX12_isFit_54 : decode cX12_isFit 54 = .ok (.ireturn, 1) := by decide +kernel
theorem dX12_findFits_0 : decode cX12_findFits 0 = .ok (.aload_n 0, 1) := by decide +kernel
theorem dX12_findFits_1 : decode cX12_findFits 1 = .ok (.iconst 0, 1) := by decide +kernel
theorem dX12_findFits_2 : decode cX12_findFits 2 = .ok (.putfield 255, 3) := by decide +kernel
theorem dX12_findFits_5 : decode cX12_findFits 5 = .ok (.iconst 0, 1) := by decide +kernel
theorem dX12_findFits_6 : decode cX12_findFits 6 = .ok (.istore_n 2, 1) := by decide +kernel
theorem dX12_findFits_7 : decode cX12_findFits 7 = .ok (.iload_n 2, 1) := by decide +kernel
theorem dX12_findFits_8 : decode cX12_findFits 8 = .ok (.sipush 320, 3) := by decide +kernel
theorem dX12_findFits_11 : decode cX12_findFits 11 = .ok (.if_icmp .ge 82, 3) := by decide +kernel
theorem dX12_findFits_14 : decode cX12_findFits 14 = .ok (.iconst 1, 1) := by decide +kernel
theorem dX12_findFits_15 : decode cX12_findFits 15 = .ok (.iload_n 2, 1) := by decide +kernel
theorem dX12_findFits_16 : decode cX12_findFits 16 = .ok (.bipush 64, 2) := by decide +kernel
theorem dX12_findFits_18 : decode cX12_findFits 18 = .ok (.idiv, 1) := by decide +kernel
theorem dX12_findFits_19 : decode cX12_findFits 19 = .ok (.iadd, 1) := by decide +kernel
theorem dX12_findFits_20 : decode cX12_findFits 20 = .ok (.istore_n 3, 1) := by decide +kernel
theorem dX12_findFits_21 : decode cX12_findFits 21 = .ok (.iload_n 2, 1) := by decide +kernel
theorem dX12_findFits_22 : decode cX12_findFits 22 = .ok (.bipush 64, 2) := by decide +kernel
theorem dX12_findFits_24 : decode cX12_findFits 24 = .ok (.irem, 1) := by decide +kernel
theorem dX12_findFits_25 : decode cX12_findFits 25 = .ok (.istore 4, 2) := by decide +kernel
theorem dX12_findFits_27 : decode cX12_findFits 27 = .ok (.aload_n 0, 1) := by decide +kernel
theorem dX12_findFits_28 : decode cX12_findFits 28 = .ok (.iload_n 3, 1) := by decide +kernel
theorem dX12_findFits_29 : decode cX12_findFits 29 = .ok (.iload 4, 2) := by decide +kernel
theorem dX12_findFits_31 : decode cX12_findFits 31 = .ok (.iload_n 1, 1) := by decide +kernel
theorem dX12_findFits_32 : decode cX12_findFits 32 = .ok (.invokevirtual 258, 3) := by decide +kernel
theorem dX12_findFits_35 : decode cX12_findFits 35 = .ok (.ifCond .eq 52, 3) := by decide +kernel
theorem dX12_findFits_38 : decode cX12_findFits 38 = .ok (.aload_n 0, 1) := by decide +kernel
theorem dX12_findFits_39 : decode cX12_findFits 39 = .ok (.aload_n 0, 1) := by decide +kernel
theorem dX12_findFits_40 : decode cX12_findFits 40 = .ok (.getfield 255, 3) := by decide +kernel
theorem dX12_findFits_43 : decode cX12_findFits 43 = .ok (.ifCond .ne 7, 3) := by decide +kernel
theorem dX12_findFits_46 : decode cX12_findFits 46 = .ok (.iload_n 3, 1) := by decide +kernel
theorem dX12_findFits_47 : decode cX12_findFits 47 = .ok (.goto 7, 3) := by decide +kernel
theorem dX12_findFits_50 : decode cX12_findFits 50 = .ok (.aload_n 0, 1) := by decide +kernel
theorem dX12_findFits_51 : decode cX12_findFits 51 = .ok (.getfield 261, 3) := by decide +kernel
theorem dX12_findFits_54 : decode cX12_findFits 54 = .ok (.putfield 261, 3) := by decide +kernel
theorem dX12_findFits_57 : decode cX12_findFits 57 = .ok (.aload_n 0, 1) := by decide +kernel
theorem dX12_findFits_58 : decode cX12_findFits 58 = .ok (.aload_n 0, 1) := by decide +kernel
theorem dX12_findFits_59 : decode cX12_findFits 59 = .ok (.getfield 255, 3) := by decide +kernel
theorem dX12_findFits_62 : decode cX12_findFits 62 = .ok (.ifCond .ne 8, 3) := by decide +kernel
theorem dX12_findFits_65 : decode cX12_findFits 65 = .ok (.iload 4, 2) := by decide +kernel
theorem dX12_findFits_67 : decode cX12_findFits 67 = .ok (.goto 7, 3) := by decide +kernel
theorem dX12_findFits_70 : decode cX12_findFits 70 = .ok (.aload_n 0, 1) := by decide +kernel
theorem dX12_findFits_71 : decode cX12_findFits 71 = .ok (.getfield 264, 3) := by decide +kernel
theorem dX12_findFits_74 : decode cX12_findFits 74 = .ok (.putfield 264, 3) := by decide +kernel
theorem dX12_findFits_77 : decode cX12_findFits 77 = .ok (.aload_n 0, 1) := by decide +kernel
theorem dX12_findFits_78 : decode cX12_findFits 78 = .ok (.dup, 1) := by decide +kernel
theorem dX12_findFits_79 : decode cX12_findFits 79 = .ok (.getfield 255, 3) := by decide +kernel
theorem dX12_findFits_82 : decode cX12_findFits 82 = .ok (.iconst 1, 1) := by decide +kernel
theorem dX12_findFits_83 : decode cX12_findFits 83 = .ok (.iadd, 1) := by decide +kernel
theorem dX12_findFits_84 : decode cX12_findFits 84 = .ok (.putfield 255, 3) := by decide +kernel
theorem dX12_findFits_87 : decode cX12_findFits 87 = .ok (.iinc 2 1, 3) := by decide +kernel
theorem dX12_findFits_90 : decode cX12_findFits 90 = .ok (.goto (-83), 3) := by decide +kernel
theorem dX12_findFits_93 : decode cX12_findFits 93 = .ok (.return_, 1) := by decide +kernel
theorem dX12_span_0 : decode cX12_span 0 = .ok (.iload_n 1, 1) := by decide +kernel
theorem dX12_span_1 : decode cX12_span 1 = .ok (.i2l, 1) := by decide +kernel
theorem dX12_span_2 : decode cX12_span 2 = .ok (.lconst 0, 1) := by decide +kernel
theorem dX12_span_3 : decode cX12_span 3 = .ok (.ldc2_w 267, 3) := by decide +kernel
theorem dX12_span_6 : decode cX12_span 6 = .ok (.invokestatic 58, 3) := by decide +kernel
theorem dX12_span_9 : decode cX12_span 9 = .ok (.ifCond .ne 5, 3) := by decide +kernel
theorem dX12_span_12 : decode cX12_span 12 = .ok (.iconst (-1), 1) := by decide +kernel
theorem dX12_span_13 : decode cX12_span 13 = .ok (.ireturn, 1) := by decide +kernel
theorem dX12_span_14 : decode cX12_span 14 = .ok (.aload_n 0, 1) := by decide +kernel
theorem dX12_span_15 : decode cX12_span 15 = .ok (.iconst (-1), 1) := by decide +kernel
theorem dX12_span_16 : decode cX12_span 16 = .ok (.invokevirtual 269, 3) := by decide +kernel
theorem dX12_span_19 : decode cX12_span 19 = .ok (.iload_n 1, 1) := by decide +kernel
theorem dX12_span_20 : decode cX12_span 20 = .ok (.ifCond .ne 10, 3) := by decide +kernel
theorem dX12_span_23 : decode cX12_span 23 = .ok (.aload_n 0, 1) := by decide +kernel
theorem dX12_span_24 : decode cX12_span 24 = .ok (.getfield 255, 3) := by decide +kernel
theorem dX12_span_27 : decode cX12_span 27 = .ok (.goto 31, 3) := by decide +kernel
theorem dX12_span_30 : decode cX12_span 30 = .ok (.aload_n 0, 1) := by decide +kernel
theorem dX12_span_31 : decode cX12_span 31 = .ok (.getfield 255, 3) := by decide +kernel
theorem dX12_span_34 : decode cX12_span 34 = .ok (.ifCond .ne 8, 3) := by decide +kernel
theorem dX12_span_37 : decode cX12_span 37 = .ok (.bipush (-3), 2) := by decide +kernel
theorem dX12_span_39 : decode cX12_span 39 = .ok (.goto 19, 3) := by decide +kernel
theorem dX12_span_42 : decode cX12_span 42 = .ok (.iload_n 1, 1) := by decide +kernel
theorem dX12_span_43 : decode cX12_span 43 = .ok (.iconst 1, 1) := by decide +kernel
theorem dX12_span_44 : decode cX12_span 44 = .ok (.if_icmp .ne 10, 3) := by decide +kernel
theorem dX12_span_47 : decode cX12_span 47 = .ok (.aload_n 0, 1) := by decide +kernel
theorem dX12_span_48 : decode cX12_span 48 = .ok (.getfield 261, 3) := by decide +kernel
theorem dX12_span_51 : decode cX12_span 51 = .ok (.goto 7, 3) := by decide +kernel
theorem dX12_span_54 : decode cX12_span 54 = .ok (.aload_n 0, 1) := by decide +kernel
theorem dX12_span_55 : decode cX12_span 55 = .ok (.getfield 264, 3) := by decide +kernel
theorem dX12_span_58 : decode cX12_span 58 = .ok (.ireturn, 1) := by decide +kernel
theorem dX12_liar_0 : decode cX12_liar 0 = .ok (.aload_n 0, 1) := by decide +kernel
theorem dX12_liar_1 : decode cX12_liar 1 = .ok (.iconst (-1), 1) := by decide +kernel
theorem dX12_liar_2 : decode cX12_liar 2 = .ok (.invokevirtual 269, 3) := by decide +kernel
theorem dX12_liar_5 : decode cX12_liar 5 = .ok (.aload_n 0, 1) := by decide +kernel
theorem dX12_liar_6 : decode cX12_liar 6 = .ok (.getfield 255, 3) := by decide +kernel
theorem dX12_liar_9 : decode cX12_liar 9 = .ok (.ifCond .ne 7, 3) := by decide +kernel
theorem dX12_liar_12 : decode cX12_liar 12 = .ok (.iconst 1, 1) := by decide +kernel
theorem dX12_liar_13 : decode cX12_liar 13 = .ok (.goto 4, 3) := by decide +kernel
theorem dX12_liar_16 : decode cX12_liar 16 = .ok (.iconst 0, 1) := by decide +kernel
theorem dX12_liar_17 : decode cX12_liar 17 = .ok (.istore_n 1, 1) := by decide +kernel
theorem dX12_liar_18 : decode cX12_liar 18 = .ok (.iconst 0, 1) := by decide +kernel
theorem dX12_liar_19 : decode cX12_liar 19 = .ok (.istore_n 2, 1) := by decide +kernel
theorem dX12_liar_20 : decode cX12_liar 20 = .ok (.iload_n 2, 1) := by decide +kernel
theorem dX12_liar_21 : decode cX12_liar 21 = .ok (.aload_n 0, 1) := by decide +kernel
theorem dX12_liar_22 : decode cX12_liar 22 = .ok (.getfield 7, 3) := by decide +kernel
theorem dX12_liar_25 : decode cX12_liar 25 = .ok (.iconst 5, 1) := by decide +kernel
theorem dX12_liar_26 : decode cX12_liar 26 = .ok (.iaload, 1) := by decide +kernel
theorem dX12_liar_27 : decode cX12_liar 27 = .ok (.if_icmp .ge 27, 3) := by decide +kernel
theorem dX12_liar_30 : decode cX12_liar 30 = .ok (.iload_n 1, 1) := by decide +kernel
theorem dX12_liar_31 : decode cX12_liar 31 = .ok (.ifCond .eq 23, 3) := by decide +kernel
theorem dX12_liar_34 : decode cX12_liar 34 = .ok (.aload_n 0, 1) := by decide +kernel
theorem dX12_liar_35 : decode cX12_liar 35 = .ok (.iload_n 2, 1) := by decide +kernel
theorem dX12_liar_36 : decode cX12_liar 36 = .ok (.invokevirtual 269, 3) := by decide +kernel
theorem dX12_liar_39 : decode cX12_liar 39 = .ok (.aload_n 0, 1) := by decide +kernel
theorem dX12_liar_40 : decode cX12_liar 40 = .ok (.getfield 255, 3) := by decide +kernel
theorem dX12_liar_43 : decode cX12_liar 43 = .ok (.ifCond .le 5, 3) := by decide +kernel
theorem dX12_liar_46 : decode cX12_liar 46 = .ok (.iload_n 2, 1) := by decide +kernel
theorem dX12_liar_47 : decode cX12_liar 47 = .ok (.ireturn, 1) := by decide +kernel
theorem dX12_liar_48 : decode cX12_liar 48 = .ok (.iinc 2 1, 3) := by decide +kernel
theorem dX12_liar_51 : decode cX12_liar 51 = .ok (.goto (-31), 3) := by decide +kernel
theorem dX12_liar_54 : decode cX12_liar 54 = .ok (.bipush (-3), 2) := by decide +kernel
theorem dX12_liar_56 : decode cX12_liar 56 = .ok (.ireturn, 1) := by decide +kernel
theorem dX12_seed_0 : decode cX12_seed 0 = .ok (.aload_n 0, 1) := by decide +kernel
theorem dX12_seed_1 : decode cX12_seed 1 = .ok (.bipush 6, 2) := by decide +kernel
theorem dX12_seed_3 : decode cX12_seed 3 = .ok (.iload_n 1, 1) := by decide +kernel
theorem dX12_seed_4 : decode cX12_seed 4 = .ok (.invokevirtual 121, 3) := by decide +kernel
theorem dX12_seed_7 : decode cX12_seed 7 = .ok (.ireturn, 1) := by decide +kernel
theorem dX12_byLot_0 : decode cX12_byLot 0 = .ok (.aload_n 0, 1) := by decide +kernel
theorem dX12_byLot_1 : decode cX12_byLot 1 = .ok (.getfield 7, 3) := by decide +kernel
theorem dX12_byLot_4 : decode cX12_byLot 4 = .ok (.bipush 6, 2) := by decide +kernel
theorem dX12_byLot_6 : decode cX12_byLot 6 = .ok (.aload_n 0, 1) := by decide +kernel
theorem dX12_byLot_7 : decode cX12_byLot 7 = .ok (.getfield 7, 3) := by decide +kernel
theorem dX12_byLot_10 : decode cX12_byLot 10 = .ok (.bipush 6, 2) := by decide +kernel
theorem dX12_byLot_12 : decode cX12_byLot 12 = .ok (.iaload, 1) := by decide +kernel
theorem dX12_byLot_13 : decode cX12_byLot 13 = .ok (.ldc_w 272, 3) := by decide +kernel
theorem dX12_byLot_16 : decode cX12_byLot 16 = .ok (.imul, 1) := by decide +kernel
theorem dX12_byLot_17 : decode cX12_byLot 17 = .ok (.sipush 12345, 3) := by decide +kernel
theorem dX12_byLot_20 : decode cX12_byLot 20 = .ok (.iadd, 1) := by decide +kernel
theorem dX12_byLot_21 : decode cX12_byLot 21 = .ok (.iastore, 1) := by decide +kernel
theorem dX12_byLot_22 : decode cX12_byLot 22 = .ok (.aload_n 0, 1) := by decide +kernel
theorem dX12_byLot_23 : decode cX12_byLot 23 = .ok (.aload_n 0, 1) := by decide +kernel
theorem dX12_byLot_24 : decode cX12_byLot 24 = .ok (.getfield 7, 3) := by decide +kernel
theorem dX12_byLot_27 : decode cX12_byLot 27 = .ok (.bipush 6, 2) := by decide +kernel
theorem dX12_byLot_29 : decode cX12_byLot 29 = .ok (.iaload, 1) := by decide +kernel
theorem dX12_byLot_30 : decode cX12_byLot 30 = .ok (.bipush 16, 2) := by decide +kernel
theorem dX12_byLot_32 : decode cX12_byLot 32 = .ok (.iushr, 1) := by decide +kernel
theorem dX12_byLot_33 : decode cX12_byLot 33 = .ok (.aload_n 0, 1) := by decide +kernel
theorem dX12_byLot_34 : decode cX12_byLot 34 = .ok (.getfield 7, 3) := by decide +kernel
theorem dX12_byLot_37 : decode cX12_byLot 37 = .ok (.iconst 0, 1) := by decide +kernel
theorem dX12_byLot_38 : decode cX12_byLot 38 = .ok (.iaload, 1) := by decide +kernel
theorem dX12_byLot_39 : decode cX12_byLot 39 = .ok (.iconst 1, 1) := by decide +kernel
theorem dX12_byLot_40 : decode cX12_byLot 40 = .ok (.iadd, 1) := by decide +kernel
theorem dX12_byLot_41 : decode cX12_byLot 41 = .ok (.irem, 1) := by decide +kernel
theorem dX12_byLot_42 : decode cX12_byLot 42 = .ok (.invokevirtual 171, 3) := by decide +kernel
theorem dX12_byLot_45 : decode cX12_byLot 45 = .ok (.ireturn, 1) := by decide +kernel
theorem dX12_lot_0 : decode cX12_lot 0 = .ok (.aload_n 0, 1) := by decide +kernel
theorem dX12_lot_1 : decode cX12_lot 1 = .ok (.invokevirtual 133, 3) := by decide +kernel
theorem dX12_lot_4 : decode cX12_lot 4 = .ok (.ifCond .eq 8, 3) := by decide +kernel
theorem dX12_lot_7 : decode cX12_lot 7 = .ok (.bipush (-4), 2) := by decide +kernel
theorem dX12_lot_9 : decode cX12_lot 9 = .ok (.goto 7, 3) := by decide +kernel
theorem dX12_lot_12 : decode cX12_lot 12 = .ok (.aload_n 0, 1) := by decide +kernel
theorem dX12_lot_13 : decode cX12_lot 13 = .ok (.invokevirtual 273, 3) := by decide +kernel
theorem dX12_lot_16 : decode cX12_lot 16 = .ok (.ireturn, 1) := by decide +kernel
theorem dX12_times_0 : decode cX12_times 0 = .ok (.iload_n 1, 1) := by decide +kernel
theorem dX12_times_1 : decode cX12_times 1 = .ok (.i2l, 1) := by decide +kernel
theorem dX12_times_2 : decode cX12_times 2 = .ok (.lconst 1, 1) := by decide +kernel
theorem dX12_times_3 : decode cX12_times 3 = .ok (.ldc2_w 276, 3) := by decide +kernel
theorem dX12_times_6 : decode cX12_times 6 = .ok (.invokestatic 58, 3) := by decide +kernel
theorem dX12_times_9 : decode cX12_times 9 = .ok (.ifCond .eq 15, 3) := by decide +kernel
theorem dX12_times_12 : decode cX12_times 12 = .ok (.iload_n 2, 1) := by decide +kernel
theorem dX12_times_13 : decode cX12_times 13 = .ok (.i2l, 1) := by decide +kernel
theorem dX12_times_14 : decode cX12_times 14 = .ok (.lconst 0, 1) := by decide +kernel
theorem dX12_times_15 : decode cX12_times 15 = .ok (.ldc2_w 278, 3) := by decide +kernel
theorem dX12_times_18 : decode cX12_times 18 = .ok (.invokestatic 58, 3) := by decide +kernel
theorem dX12_times_21 : decode cX12_times 21 = .ok (.ifCond .ne 5, 3) := by decide +kernel
theorem dX12_times_24 : decode cX12_times 24 = .ok (.iconst (-1), 1) := by decide +kernel
theorem dX12_times_25 : decode cX12_times 25 = .ok (.ireturn, 1) := by decide +kernel
theorem dX12_times_26 : decode cX12_times 26 = .ok (.aload_n 0, 1) := by decide +kernel
theorem dX12_times_27 : decode cX12_times 27 = .ok (.invokevirtual 174, 3) := by decide +kernel
theorem dX12_times_30 : decode cX12_times 30 = .ok (.iconst 0, 1) := by decide +kernel
theorem dX12_times_31 : decode cX12_times 31 = .ok (.istore_n 3, 1) := by decide +kernel
theorem dX12_times_32 : decode cX12_times 32 = .ok (.iconst 0, 1) := by decide +kernel
theorem dX12_times_33 : decode cX12_times 33 = .ok (.istore 4, 2) := by decide +kernel
theorem dX12_times_35 : decode cX12_times 35 = .ok (.iload 4, 2) := by decide +kernel
theorem dX12_times_37 : decode cX12_times 37 = .ok (.iload_n 1, 1) := by decide +kernel
theorem dX12_times_38 : decode cX12_times 38 = .ok (.if_icmp .ge 67, 3) := by decide +kernel
theorem dX12_times_41 : decode cX12_times 41 = .ok (.iconst 0, 1) := by decide +kernel
theorem dX12_times_42 : decode cX12_times 42 = .ok (.istore 5, 2) := by decide +kernel
theorem dX12_times_44 : decode cX12_times 44 = .ok (.aload_n 0, 1) := by decide +kernel
theorem dX12_times_45 : decode cX12_times 45 = .ok (.invokevirtual 133, 3) := by decide +kernel
theorem dX12_times_48 : decode cX12_times 48 = .ok (.ifCond .ne 15, 3) := by decide +kernel
theorem dX12_times_51 : decode cX12_times 51 = .ok (.iload 5, 2) := by decide +kernel
theorem dX12_times_53 : decode cX12_times 53 = .ok (.aload_n 0, 1) := by decide +kernel
theorem dX12_times_54 : decode cX12_times 54 = .ok (.invokevirtual 273, 3) := by decide +kernel
theorem dX12_times_57 : decode cX12_times 57 = .ok (.iadd, 1) := by decide +kernel
theorem dX12_times_58 : decode cX12_times 58 = .ok (.istore 5, 2) := by decide +kernel
theorem dX12_times_60 : decode cX12_times 60 = .ok (.goto (-16), 3) := by decide +kernel
theorem dX12_times_63 : decode cX12_times 63 = .ok (.iload_n 3, 1) := by decide +kernel
theorem dX12_times_64 : decode cX12_times 64 = .ok (.iload 5, 2) := by decide +kernel
theorem dX12_times_66 : decode cX12_times 66 = .ok (.iload_n 2, 1) := by decide +kernel
theorem dX12_times_67 : decode cX12_times 67 = .ok (.if_icmp .lt 7, 3) := by decide +kernel
theorem dX12_times_70 : decode cX12_times 70 = .ok (.iconst 1, 1) := by decide +kernel
theorem dX12_times_71 : decode cX12_times 71 = .ok (.goto 4, 3) := by decide +kernel
theorem dX12_times_74 : decode cX12_times 74 = .ok (.iconst 0, 1) := by decide +kernel
theorem dX12_times_75 : decode cX12_times 75 = .ok (.iadd, 1) := by decide +kernel
theorem dX12_times_76 : decode cX12_times 76 = .ok (.istore_n 3, 1) := by decide +kernel
theorem dX12_times_77 : decode cX12_times 77 = .ok (.aload_n 0, 1) := by decide +kernel
theorem dX12_times_78 : decode cX12_times 78 = .ok (.getfield 7, 3) := by decide +kernel
theorem dX12_times_81 : decode cX12_times 81 = .ok (.bipush 6, 2) := by decide +kernel
theorem dX12_times_83 : decode cX12_times 83 = .ok (.iaload, 1) := by decide +kernel
theorem dX12_times_84 : decode cX12_times 84 = .ok (.istore 6, 2) := by decide +kernel
theorem dX12_times_86 : decode cX12_times 86 = .ok (.aload_n 0, 1) := by decide +kernel
theorem dX12_times_87 : decode cX12_times 87 = .ok (.invokevirtual 180, 3) := by decide +kernel
theorem dX12_times_90 : decode cX12_times 90 = .ok (.aload_n 0, 1) := by decide +kernel
theorem dX12_times_91 : decode cX12_times 91 = .ok (.getfield 7, 3) := by decide +kernel
theorem dX12_times_94 : decode cX12_times 94 = .ok (.bipush 6, 2) := by decide +kernel
theorem dX12_times_96 : decode cX12_times 96 = .ok (.iload 6, 2) := by decide +kernel
theorem dX12_times_98 : decode cX12_times 98 = .ok (.iastore, 1) := by decide +kernel
theorem dX12_times_99 : decode cX12_times 99 = .ok (.iinc 4 1, 3) := by decide +kernel
theorem dX12_times_102 : decode cX12_times 102 = .ok (.goto (-67), 3) := by decide +kernel
theorem dX12_times_105 : decode cX12_times 105 = .ok (.aload_n 0, 1) := by decide +kernel
theorem dX12_times_106 : decode cX12_times 106 = .ok (.invokevirtual 180, 3) := by decide +kernel
theorem dX12_times_109 : decode cX12_times 109 = .ok (.iload_n 3, 1) := by decide +kernel
theorem dX12_times_110 : decode cX12_times 110 = .ok (.ireturn, 1) := by decide +kernel
theorem dX12_prove_0 : decode cX12_prove 0 = .ok (.iload_n 1, 1) := by decide +kernel
theorem dX12_prove_1 : decode cX12_prove 1 = .ok (.invokestatic 232, 3) := by decide +kernel
theorem dX12_prove_4 : decode cX12_prove 4 = .ok (.ifCond .ne 5, 3) := by decide +kernel
theorem dX12_prove_7 : decode cX12_prove 7 = .ok (.iconst (-1), 1) := by decide +kernel
theorem dX12_prove_8 : decode cX12_prove 8 = .ok (.ireturn, 1) := by decide +kernel
theorem dX12_prove_9 : decode cX12_prove 9 = .ok (.aload_n 0, 1) := by decide +kernel
theorem dX12_prove_10 : decode cX12_prove 10 = .ok (.aload_n 0, 1) := by decide +kernel
theorem dX12_prove_11 : decode cX12_prove 11 = .ok (.iload_n 1, 1) := by decide +kernel
theorem dX12_prove_12 : decode cX12_prove 12 = .ok (.iconst 0, 1) := by decide +kernel
theorem dX12_prove_13 : decode cX12_prove 13 = .ok (.invokevirtual 235, 3) := by decide +kernel
theorem dX12_prove_16 : decode cX12_prove 16 = .ok (.putfield 280, 3) := by decide +kernel
theorem dX12_prove_19 : decode cX12_prove 19 = .ok (.aload_n 0, 1) := by decide +kernel
theorem dX12_prove_20 : decode cX12_prove 20 = .ok (.invokevirtual 174, 3) := by decide +kernel
theorem dX12_prove_23 : decode cX12_prove 23 = .ok (.iconst 0, 1) := by decide +kernel
theorem dX12_prove_24 : decode cX12_prove 24 = .ok (.istore_n 2, 1) := by decide +kernel
theorem dX12_prove_25 : decode cX12_prove 25 = .ok (.iload_n 2, 1) := by decide +kernel
theorem dX12_prove_26 : decode cX12_prove 26 = .ok (.aload_n 0, 1) := by decide +kernel
theorem dX12_prove_27 : decode cX12_prove 27 = .ok (.getfield 280, 3) := by decide +kernel
theorem dX12_prove_30 : decode cX12_prove 30 = .ok (.if_icmp .ge 58, 3) := by decide +kernel
theorem dX12_prove_33 : decode cX12_prove 33 = .ok (.aload_n 0, 1) := by decide +kernel
theorem dX12_prove_34 : decode cX12_prove 34 = .ok (.getfield 31, 3) := by decide +kernel
theorem dX12_prove_37 : decode cX12_prove 37 = .ok (.iconst 3, 1) := by decide +kernel
theorem dX12_prove_38 : decode cX12_prove 38 = .ok (.iload_n 2, 1) := by decide +kernel
theorem dX12_prove_39 : decode cX12_prove 39 = .ok (.imul, 1) := by decide +kernel
theorem dX12_prove_40 : decode cX12_prove 40 = .ok (.aload_n 0, 1) := by decide +kernel
theorem dX12_prove_41 : decode cX12_prove 41 = .ok (.getfield 28, 3) := by decide +kernel
theorem dX12_prove_44 : decode cX12_prove 44 = .ok (.iload_n 2, 1) := by decide +kernel
theorem dX12_prove_45 : decode cX12_prove 45 = .ok (.iaload, 1) := by decide +kernel
theorem dX12_prove_46 : decode cX12_prove 46 = .ok (.iastore, 1) := by decide +kernel
theorem dX12_prove_47 : decode cX12_prove 47 = .ok (.aload_n 0, 1) := by decide +kernel
theorem dX12_prove_48 : decode cX12_prove 48 = .ok (.getfield 31, 3) := by decide +kernel
theorem dX12_prove_51 : decode cX12_prove 51 = .ok (.iconst 3, 1) := by decide +kernel
theorem dX12_prove_52 : decode cX12_prove 52 = .ok (.iload_n 2, 1) := by decide +kernel
theorem dX12_prove_53 : decode cX12_prove 53 = .ok (.imul, 1) := by decide +kernel
theorem dX12_prove_54 : decode cX12_prove 54 = .ok (.iconst 1, 1) := by decide +kernel
theorem dX12_prove_55 : decode cX12_prove 55 = .ok (.iadd, 1) := by decide +kernel
theorem dX12_prove_56 : decode cX12_prove 56 = .ok (.aload_n 0, 1) := by decide +kernel
theorem dX12_prove_57 : decode cX12_prove 57 = .ok (.aload_n 0, 1) := by decide +kernel
theorem dX12_prove_58 : decode cX12_prove 58 = .ok (.getfield 28, 3) := by decide +kernel
theorem dX12_prove_61 : decode cX12_prove 61 = .ok (.iload_n 2, 1) := by decide +kernel
theorem dX12_prove_62 : decode cX12_prove 62 = .ok (.iaload, 1) := by decide +kernel
theorem dX12_prove_63 : decode cX12_prove 63 = .ok (.invokevirtual 171, 3) := by decide +kernel
theorem dX12_prove_66 : decode cX12_prove 66 = .ok (.iastore, 1) := by decide +kernel
theorem dX12_prove_67 : decode cX12_prove 67 = .ok (.aload_n 0, 1) := by decide +kernel
theorem dX12_prove_68 : decode cX12_prove 68 = .ok (.getfield 31, 3) := by decide +kernel
theorem dX12_prove_71 : decode cX12_prove 71 = .ok (.iconst 3, 1) := by decide +kernel
theorem dX12_prove_72 : decode cX12_prove 72 = .ok (.iload_n 2, 1) := by decide +kernel
theorem dX12_prove_73 : decode cX12_prove 73 = .ok (.imul, 1) := by decide +kernel
theorem dX12_prove_74 : decode cX12_prove 74 = .ok (.iconst 2, 1) := by decide +kernel
theorem dX12_prove_75 : decode cX12_prove 75 = .ok (.iadd, 1) := by decide +kernel
theorem dX12_prove_76 : decode cX12_prove 76 = .ok (.aload_n 0, 1) := by decide +kernel
theorem dX12_prove_77 : decode cX12_prove 77 = .ok (.iconst 5, 1) := by decide +kernel
theorem dX12_prove_78 : decode cX12_prove 78 = .ok (.invokevirtual 137, 3) := by decide +kernel
theorem dX12_prove_81 : decode cX12_prove 81 = .ok (.iastore, 1) := by decide +kernel
theorem dX12_prove_82 : decode cX12_prove 82 = .ok (.iinc 2 1, 3) := by decide +kernel
theorem dX12_prove_85 : decode cX12_prove 85 = .ok (.goto (-60), 3) := by decide +kernel
theorem dX12_prove_88 : decode cX12_prove 88 = .ok (.aload_n 0, 1) := by decide +kernel
theorem dX12_prove_89 : decode cX12_prove 89 = .ok (.invokevirtual 180, 3) := by decide +kernel
theorem dX12_prove_92 : decode cX12_prove 92 = .ok (.aload_n 0, 1) := by decide +kernel
theorem dX12_prove_93 : decode cX12_prove 93 = .ok (.getfield 280, 3) := by decide +kernel
theorem dX12_prove_96 : decode cX12_prove 96 = .ok (.ireturn, 1) := by decide +kernel
theorem dX12_isRow_0 : decode cX12_isRow 0 = .ok (.iload_n 1, 1) := by decide +kernel
theorem dX12_isRow_1 : decode cX12_isRow 1 = .ok (.i2l, 1) := by decide +kernel
theorem dX12_isRow_2 : decode cX12_isRow 2 = .ok (.lconst 0, 1) := by decide +kernel
theorem dX12_isRow_3 : decode cX12_isRow 3 = .ok (.aload_n 0, 1) := by decide +kernel
theorem dX12_isRow_4 : decode cX12_isRow 4 = .ok (.getfield 280, 3) := by decide +kernel
theorem dX12_isRow_7 : decode cX12_isRow 7 = .ok (.iconst 1, 1) := by decide +kernel
theorem dX12_isRow_8 : decode cX12_isRow 8 = .ok (.isub, 1) := by decide +kernel
theorem dX12_isRow_9 : decode cX12_isRow 9 = .ok (.i2l, 1) := by decide +kernel
theorem dX12_isRow_10 : decode cX12_isRow 10 = .ok (.invokestatic 58, 3) := by decide +kernel
theorem dX12_isRow_13 : decode cX12_isRow 13 = .ok (.ifCond .eq 19, 3) := by decide +kernel
theorem dX12_isRow_16 : decode cX12_isRow 16 = .ok (.iload_n 2, 1) := by decide +kernel
theorem dX12_isRow_17 : decode cX12_isRow 17 = .ok (.i2l, 1) := by decide +kernel
theorem dX12_isRow_18 : decode cX12_isRow 18 = .ok (.lconst 0, 1) := by decide +kernel
theorem dX12_isRow_19 : decode cX12_isRow 19 = .ok (.ldc2_w 267, 3) := by decide +kernel
theorem dX12_isRow_22 : decode cX12_isRow 22 = .ok (.invokestatic 58, 3) := by decide +kernel
theorem dX12_isRow_25 : decode cX12_isRow 25 = .ok (.ifCond .eq 7, 3) := by decide +kernel
theorem dX12_isRow_28 : decode cX12_isRow 28 = .ok (.iconst 1, 1) := by decide +kernel
theorem dX12_isRow_29 : decode cX12_isRow 29 = .ok (.goto 4, 3) := by decide +kernel
theorem dX12_isRow_32 : decode cX12_isRow 32 = .ok (.iconst 0, 1) := by decide +kernel
theorem dX12_isRow_33 : decode cX12_isRow 33 = .ok (.ireturn, 1) := by decide +kernel
theorem dX12_row_0 : decode cX12_row 0 = .ok (.aload_n 0, 1) := by decide +kernel
theorem dX12_row_1 : decode cX12_row 1 = .ok (.iload_n 1, 1) := by decide +kernel
theorem dX12_row_2 : decode cX12_row 2 = .ok (.iload_n 2, 1) := by decide +kernel
theorem dX12_row_3 : decode cX12_row 3 = .ok (.invokevirtual 283, 3) := by decide +kernel
theorem dX12_row_6 : decode cX12_row 6 = .ok (.ifCond .eq 16, 3) := by decide +kernel
theorem dX12_row_9 : decode cX12_row 9 = .ok (.aload_n 0, 1) := by decide +kernel
theorem dX12_row_10 : decode cX12_row 10 = .ok (.getfield 31, 3) := by decide +kernel
theorem dX12_row_13 : decode cX12_row 13 = .ok (.iconst 3, 1) := by decide +kernel
theorem dX12_row_14 : decode cX12_row 14 = .ok (.iload_n 1, 1) := by decide +kernel
theorem dX12_row_15 : decode cX12_row 15 = .ok (.imul, 1) := by decide +kernel
theorem dX12_row_16 : decode cX12_row 16 = .ok (.iload_n 2, 1) := by decide +kernel
theorem dX12_row_17 : decode cX12_row 17 = .ok (.iadd, 1) := by decide +kernel
theorem dX12_row_18 : decode cX12_row 18 = .ok (.iaload, 1) := by decide +kernel
theorem dX12_row_19 : decode cX12_row 19 = .ok (.goto 5, 3) := by decide +kernel
theorem dX12_row_22 : decode cX12_row 22 = .ok (.bipush (-9), 2) := by decide +kernel
theorem dX12_row_24 : decode cX12_row 24 = .ok (.ireturn, 1) := by decide +kernel
theorem dX12_alterRow_0 : decode cX12_alterRow 0 = .ok (.aload_n 0, 1) := by decide +kernel
theorem dX12_alterRow_1 : decode cX12_alterRow 1 = .ok (.iload_n 1, 1) := by decide +kernel
theorem dX12_alterRow_2 : decode cX12_alterRow 2 = .ok (.iload_n 2, 1) := by decide +kernel
theorem dX12_alterRow_3 : decode cX12_alterRow 3 = .ok (.invokevirtual 283, 3) := by decide +kernel
theorem dX12_alterRow_6 : decode cX12_alterRow 6 = .ok (.ifCond .ne 6, 3) := by decide +kernel
theorem dX12_alterRow_9 : decode cX12_alterRow 9 = .ok (.bipush (-9), 2) := by decide +kernel
theorem dX12_alterRow_11 : decode cX12_alterRow 11 = .ok (.ireturn, 1) := by decide +kernel
theorem dX12_alterRow_12 : decode cX12_alterRow 12 = .ok (.aload_n 0, 1) := by decide +kernel
theorem dX12_alterRow_13 : decode cX12_alterRow 13 = .ok (.getfield 31, 3) := by decide +kernel
theorem dX12_alterRow_16 : decode cX12_alterRow 16 = .ok (.iconst 3, 1) := by decide +kernel
theorem dX12_alterRow_17 : decode cX12_alterRow 17 = .ok (.iload_n 1, 1) := by decide +kernel
theorem dX12_alterRow_18 : decode cX12_alterRow 18 = .ok (.imul, 1) := by decide +kernel
theorem dX12_alterRow_19 : decode cX12_alterRow 19 = .ok (.iload_n 2, 1) := by decide +kernel
theorem dX12_alterRow_20 : decode cX12_alterRow 20 = .ok (.iadd, 1) := by decide +kernel
theorem dX12_alterRow_21 : decode cX12_alterRow 21 = .ok (.iaload, 1) := by decide +kernel
theorem dX12_alterRow_22 : decode cX12_alterRow 22 = .ok (.istore 4, 2) := by decide +kernel
theorem dX12_alterRow_24 : decode cX12_alterRow 24 = .ok (.aload_n 0, 1) := by decide +kernel
theorem dX12_alterRow_25 : decode cX12_alterRow 25 = .ok (.getfield 31, 3) := by decide +kernel
theorem dX12_alterRow_28 : decode cX12_alterRow 28 = .ok (.iconst 3, 1) := by decide +kernel
theorem dX12_alterRow_29 : decode cX12_alterRow 29 = .ok (.iload_n 1, 1) := by decide +kernel
theorem dX12_alterRow_30 : decode cX12_alterRow 30 = .ok (.imul, 1) := by decide +kernel
theorem dX12_alterRow_31 : decode cX12_alterRow 31 = .ok (.iload_n 2, 1) := by decide +kernel
theorem dX12_alterRow_32 : decode cX12_alterRow 32 = .ok (.iadd, 1) := by decide +kernel
theorem dX12_alterRow_33 : decode cX12_alterRow 33 = .ok (.iload_n 3, 1) := by decide +kernel
theorem dX12_alterRow_34 : decode cX12_alterRow 34 = .ok (.iastore, 1) := by decide +kernel
theorem dX12_alterRow_35 : decode cX12_alterRow 35 = .ok (.iload 4, 2) := by decide +kernel
theorem dX12_alterRow_37 : decode cX12_alterRow 37 = .ok (.ireturn, 1) := by decide +kernel
theorem dX12_isAct_0 : decode cX12_isAct 0 = .ok (.iload_n 1, 1) := by decide +kernel
theorem dX12_isAct_1 : decode cX12_isAct 1 = .ok (.i2l, 1) := by decide +kernel
theorem dX12_isAct_2 : decode cX12_isAct 2 = .ok (.lconst 0, 1) := by decide +kernel
theorem dX12_isAct_3 : decode cX12_isAct 3 = .ok (.aload_n 0, 1) := by decide +kernel
theorem dX12_isAct_4 : decode cX12_isAct 4 = .ok (.getfield 7, 3) := by decide +kernel
theorem dX12_isAct_7 : decode cX12_isAct 7 = .ok (.iconst 0, 1) := by decide +kernel
theorem dX12_isAct_8 : decode cX12_isAct 8 = .ok (.iaload, 1) := by decide +kernel
theorem dX12_isAct_9 : decode cX12_isAct 9 = .ok (.i2l, 1) := by decide +kernel
theorem dX12_isAct_10 : decode cX12_isAct 10 = .ok (.invokestatic 58, 3) := by decide +kernel
theorem dX12_isAct_13 : decode cX12_isAct 13 = .ok (.ifCond .eq 14, 3) := by decide +kernel
theorem dX12_isAct_16 : decode cX12_isAct 16 = .ok (.aload_n 0, 1) := by decide +kernel
theorem dX12_isAct_17 : decode cX12_isAct 17 = .ok (.invokevirtual 133, 3) := by decide +kernel
theorem dX12_isAct_20 : decode cX12_isAct 20 = .ok (.ifCond .ne 7, 3) := by decide +kernel
theorem dX12_isAct_23 : decode cX12_isAct 23 = .ok (.iconst 1, 1) := by decide +kernel
theorem dX12_isAct_24 : decode cX12_isAct 24 = .ok (.goto 4, 3) := by decide +kernel
theorem dX12_isAct_27 : decode cX12_isAct 27 = .ok (.iconst 0, 1) := by decide +kernel
theorem dX12_isAct_28 : decode cX12_isAct 28 = .ok (.ireturn, 1) := by decide +kernel
theorem dX12_judge_0 : decode cX12_judge 0 = .ok (.aload_n 0, 1) := by decide +kernel
theorem dX12_judge_1 : decode cX12_judge 1 = .ok (.invokevirtual 174, 3) := by decide +kernel
theorem dX12_judge_4 : decode cX12_judge 4 = .ok (.iconst 0, 1) := by decide +kernel
theorem dX12_judge_5 : decode cX12_judge 5 = .ok (.istore_n 1, 1) := by decide +kernel
theorem dX12_judge_6 : decode cX12_judge 6 = .ok (.iconst 0, 1) := by decide +kernel
theorem dX12_judge_7 : decode cX12_judge 7 = .ok (.istore_n 2, 1) := by decide +kernel
theorem dX12_judge_8 : decode cX12_judge 8 = .ok (.iload_n 2, 1) := by decide +kernel
theorem dX12_judge_9 : decode cX12_judge 9 = .ok (.aload_n 0, 1) := by decide +kernel
theorem dX12_judge_10 : decode cX12_judge 10 = .ok (.getfield 280, 3) := by decide +kernel
theorem dX12_judge_13 : decode cX12_judge 13 = .ok (.if_icmp .ge 89, 3) := by decide +kernel
theorem dX12_judge_16 : decode cX12_judge 16 = .ok (.iload_n 1, 1) := by decide +kernel
theorem dX12_judge_17 : decode cX12_judge 17 = .ok (.ifCond .ne 85, 3) := by decide +kernel
theorem dX12_judge_20 : decode cX12_judge 20 = .ok (.aload_n 0, 1) := by decide +kernel
theorem dX12_judge_21 : decode cX12_judge 21 = .ok (.aload_n 0, 1) := by decide +kernel
theorem dX12_judge_22 : decode cX12_judge 22 = .ok (.getfield 31, 3) := by decide +kernel
theorem dX12_judge_25 : decode cX12_judge 25 = .ok (.iconst 3, 1) := by decide +kernel
theorem dX12_judge_26 : decode cX12_judge 26 = .ok (.iload_n 2, 1) := by decide +kernel
theorem dX12_judge_27 : decode cX12_judge 27 = .ok (.imul, 1) := by decide +kernel
theorem dX12_judge_28 : decode cX12_judge 28 = .ok (.iaload, 1) := by decide +kernel
theorem dX12_judge_29 : decode cX12_judge 29 = .ok (.invokevirtual 286, 3) := by decide +kernel
theorem dX12_judge_32 : decode cX12_judge 32 = .ok (.ifCond .eq 50, 3) := by decide +kernel
theorem dX12_judge_35 : decode cX12_judge 35 = .ok (.aload_n 0, 1) := by decide +kernel
theorem dX12_judge_36 : decode cX12_judge 36 = .ok (.aload_n 0, 1) := by decide +kernel
theorem dX12_judge_37 : decode cX12_judge 37 = .ok (.getfield 31, 3) := by decide +kernel
theorem dX12_judge_40 : decode cX12_judge 40 = .ok (.iconst 3, 1) := by decide +kernel
theorem dX12_judge_41 : decode cX12_judge 41 = .ok (.iload_n 2, 1) := by decide +kernel
theorem dX12_judge_42 : decode cX12_judge 42 = .ok (.imul, 1) := by decide +kernel
theorem dX12_judge_43 : decode cX12_judge 43 = .ok (.iaload, 1) := by decide +kernel
theorem dX12_judge_44 : decode cX12_judge 44 = .ok (.invokevirtual 171, 3) := by decide +kernel
theorem dX12_judge_47 : decode cX12_judge 47 = .ok (.aload_n 0, 1) := by decide +kernel
theorem dX12_judge_48 : decode cX12_judge 48 = .ok (.getfield 31, 3) := by decide +kernel
theorem dX12_judge_51 : decode cX12_judge 51 = .ok (.iconst 3, 1) := by decide +kernel
theorem dX12_judge_52 : decode cX12_judge 52 = .ok (.iload_n 2, 1) := by decide +kernel
theorem dX12_judge_53 : decode cX12_judge 53 = .ok (.imul, 1) := by decide +kernel
theorem dX12_judge_54 : decode cX12_judge 54 = .ok (.iconst 1, 1) := by decide +kernel
theorem dX12_judge_55 : decode cX12_judge 55 = .ok (.iadd, 1) := by decide +kernel
theorem dX12_judge_56 : decode cX12_judge 56 = .ok (.iaload, 1) := by decide +kernel
theorem dX12_judge_57 : decode cX12_judge 57 = .ok (.if_icmp .ne 25, 3) := by decide +kernel
theorem dX12_judge_60 : decode cX12_judge 60 = .ok (.aload_n 0, 1) := by decide +kernel
theorem dX12_judge_61 : decode cX12_judge 61 = .ok (.iconst 5, 1) := by decide +kernel
theorem dX12_judge_62 : decode cX12_judge 62 = .ok (.invokevirtual 137, 3) := by decide +kernel
theorem dX12_judge_65 : decode cX12_judge 65 = .ok (.aload_n 0, 1) := by decide +kernel
theorem dX12_judge_66 : decode cX12_judge 66 = .ok (.getfield 31, 3) := by decide +kernel
theorem dX12_judge_69 : decode cX12_judge 69 = .ok (.iconst 3, 1) := by decide +kernel
theorem dX12_judge_70 : decode cX12_judge 70 = .ok (.iload_n 2, 1) := by decide +kernel
theorem dX12_judge_71 : decode cX12_judge 71 = .ok (.imul, 1) := by decide +kernel
theorem dX12_judge_72 : decode cX12_judge 72 = .ok (.iconst 2, 1) := by decide +kernel
theorem dX12_judge_73 : decode cX12_judge 73 = .ok (.iadd, 1) := by decide +kernel
theorem dX12_judge_74 : decode cX12_judge 74 = .ok (.iaload, 1) := by decide +kernel
theorem dX12_judge_75 : decode cX12_judge 75 = .ok (.if_icmp .ne 7, 3) := by decide +kernel
theorem dX12_judge_78 : decode cX12_judge 78 = .ok (.iconst 1, 1) := by decide +kernel
theorem dX12_judge_79 : decode cX12_judge 79 = .ok (.goto 4, 3) := by decide +kernel
theorem dX12_judge_82 : decode cX12_judge 82 = .ok (.iconst 0, 1) := by decide +kernel
theorem dX12_judge_83 : decode cX12_judge 83 = .ok (.istore_n 3, 1) := by decide +kernel
theorem dX12_judge_84 : decode cX12_judge 84 = .ok (.iload_n 3, 1) := by decide +kernel
theorem dX12_judge_85 : decode cX12_judge 85 = .ok (.ifCond .eq 7, 3) := by decide +kernel
theorem dX12_judge_88 : decode cX12_judge 88 = .ok (.iconst 0, 1) := by decide +kernel
theorem dX12_judge_89 : decode cX12_judge 89 = .ok (.goto 6, 3) := by decide +kernel
theorem dX12_judge_92 : decode cX12_judge 92 = .ok (.iload_n 2, 1) := by decide +kernel
theorem dX12_judge_93 : decode cX12_judge 93 = .ok (.iconst 1, 1) := by decide +kernel
theorem dX12_judge_94 : decode cX12_judge 94 = .ok (.iadd, 1) := by decide +kernel
theorem dX12_judge_95 : decode cX12_judge 95 = .ok (.istore_n 1, 1) := by decide +kernel
theorem dX12_judge_96 : decode cX12_judge 96 = .ok (.iinc 2 1, 3) := by decide +kernel
theorem dX12_judge_99 : decode cX12_judge 99 = .ok (.goto (-91), 3) := by decide +kernel
theorem dX12_judge_102 : decode cX12_judge 102 = .ok (.aload_n 0, 1) := by decide +kernel
theorem dX12_judge_103 : decode cX12_judge 103 = .ok (.invokevirtual 180, 3) := by decide +kernel
theorem dX12_judge_106 : decode cX12_judge 106 = .ok (.iload_n 1, 1) := by decide +kernel
theorem dX12_judge_107 : decode cX12_judge 107 = .ok (.ireturn, 1) := by decide +kernel
theorem dX12_feed_0 : decode cX12_feed 0 = .ok (.iload_n 3, 1) := by decide +kernel
theorem dX12_feed_1 : decode cX12_feed 1 = .ok (.i2l, 1) := by decide +kernel
theorem dX12_feed_2 : decode cX12_feed 2 = .ok (.lconst 1, 1) := by decide +kernel
theorem dX12_feed_3 : decode cX12_feed 3 = .ok (.ldc2_w 289, 3) := by decide +kernel
theorem dX12_feed_6 : decode cX12_feed 6 = .ok (.invokestatic 58, 3) := by decide +kernel
theorem dX12_feed_9 : decode cX12_feed 9 = .ok (.ifCond .ne 5, 3) := by decide +kernel
theorem dX12_feed_12 : decode cX12_feed 12 = .ok (.iconst (-1), 1) := by decide +kernel
theorem dX12_feed_13 : decode cX12_feed 13 = .ok (.ireturn, 1) := by decide +kernel
theorem dX12_feed_14 : decode cX12_feed 14 = .ok (.aload_n 0, 1) := by decide +kernel
theorem dX12_feed_15 : decode cX12_feed 15 = .ok (.getfield 291, 3) := by decide +kernel
theorem dX12_feed_18 : decode cX12_feed 18 = .ok (.iload_n 3, 1) := by decide +kernel
theorem dX12_feed_19 : decode cX12_feed 19 = .ok (.iadd, 1) := by decide +kernel
theorem dX12_feed_20 : decode cX12_feed 20 = .ok (.sipush 200, 3) := by decide +kernel
theorem dX12_feed_23 : decode cX12_feed 23 = .ok (.if_icmp .le 6, 3) := by decide +kernel
theorem dX12_feed_26 : decode cX12_feed 26 = .ok (.bipush (-2), 2) := by decide +kernel
theorem dX12_feed_28 : decode cX12_feed 28 = .ok (.ireturn, 1) := by decide +kernel
theorem dX12_feed_29 : decode cX12_feed 29 = .ok (.iconst 0, 1) := by decide +kernel
theorem dX12_feed_30 : decode cX12_feed 30 = .ok (.istore 4, 2) := by decide +kernel
theorem dX12_feed_32 : decode cX12_feed 32 = .ok (.iload 4, 2) := by decide +kernel
theorem dX12_feed_34 : decode cX12_feed 34 = .ok (.iload_n 3, 1) := by decide +kernel
theorem dX12_feed_35 : decode cX12_feed 35 = .ok (.if_icmp .ge 40, 3) := by decide +kernel
theorem dX12_feed_38 : decode cX12_feed 38 = .ok (.aload_n 0, 1) := by decide +kernel
theorem dX12_feed_39 : decode cX12_feed 39 = .ok (.getfield 34, 3) := by decide +kernel
theorem dX12_feed_42 : decode cX12_feed 42 = .ok (.aload_n 0, 1) := by decide +kernel
theorem dX12_feed_43 : decode cX12_feed 43 = .ok (.getfield 291, 3) := by decide +kernel
theorem dX12_feed_46 : decode cX12_feed 46 = .ok (.lload_n 1, 1) := by decide +kernel
theorem dX12_feed_47 : decode cX12_feed 47 = .ok (.bipush 8, 2) := by decide +kernel
theorem dX12_feed_49 : decode cX12_feed 49 = .ok (.iload 4, 2) := by decide +kernel
theorem dX12_feed_51 : decode cX12_feed 51 = .ok (.imul, 1) := by decide +kernel
theorem dX12_feed_52 : decode cX12_feed 52 = .ok (.lshr, 1) := by decide +kernel
theorem dX12_feed_53 : decode cX12_feed 53 = .ok (.ldc2_w 294, 3) := by decide +kernel
theorem dX12_feed_56 : decode cX12_feed 56 = .ok (.land, 1) := by decide +kernel
theorem dX12_feed_57 : decode cX12_feed 57 = .ok (.l2i, 1) := by decide +kernel
theorem dX12_feed_58 : decode cX12_feed 58 = .ok (.iastore, 1) := by decide +kernel
theorem dX12_feed_59 : decode cX12_feed 59 = .ok (.aload_n 0, 1) := by decide +kernel
theorem dX12_feed_60 : decode cX12_feed 60 = .ok (.dup, 1) := by decide +kernel
theorem dX12_feed_61 : decode cX12_feed 61 = .ok (.getfield 291, 3) := by decide +kernel
theorem dX12_feed_64 : decode cX12_feed 64 = .ok (.iconst 1, 1) := by decide +kernel
theorem dX12_feed_65 : decode cX12_feed 65 = .ok (.iadd, 1) := by decide +kernel
theorem dX12_feed_66 : decode cX12_feed 66 = .ok (.putfield 291, 3) := by decide +kernel
theorem dX12_feed_69 : decode cX12_feed 69 = .ok (.iinc 4 1, 3) := by decide +kernel
theorem dX12_feed_72 : decode cX12_feed 72 = .ok (.goto (-40), 3) := by decide +kernel
theorem dX12_feed_75 : decode cX12_feed 75 = .ok (.aload_n 0, 1) := by decide +kernel
theorem dX12_feed_76 : decode cX12_feed 76 = .ok (.getfield 291, 3) := by decide +kernel
theorem dX12_feed_79 : decode cX12_feed 79 = .ok (.ireturn, 1) := by decide +kernel
theorem dX12_byteAt_0 : decode cX12_byteAt 0 = .ok (.iload_n 1, 1) := by decide +kernel
theorem dX12_byteAt_1 : decode cX12_byteAt 1 = .ok (.aload_n 0, 1) := by decide +kernel
theorem dX12_byteAt_2 : decode cX12_byteAt 2 = .ok (.getfield 291, 3) := by decide +kernel
theorem dX12_byteAt_5 : decode cX12_byteAt 5 = .ok (.if_icmp .ge 12, 3) := by decide +kernel
theorem dX12_byteAt_8 : decode cX12_byteAt 8 = .ok (.aload_n 0, 1) := by decide +kernel
theorem dX12_byteAt_9 : decode cX12_byteAt 9 = .ok (.getfield 34, 3) := by decide +kernel
theorem dX12_byteAt_12 : decode cX12_byteAt 12 = .ok (.iload_n 1, 1) := by decide +kernel
theorem dX12_byteAt_13 : decode cX12_byteAt 13 = .ok (.iaload, 1) := by decide +kernel
theorem dX12_byteAt_14 : decode cX12_byteAt 14 = .ok (.goto 4, 3) := by decide +kernel
theorem dX12_byteAt_17 : decode cX12_byteAt 17 = .ok (.iconst (-1), 1) := by decide +kernel
theorem dX12_byteAt_18 : decode cX12_byteAt 18 = .ok (.ireturn, 1) := by decide +kernel
theorem dX12_isLetter_0 : decode cX12_isLetter 0 = .ok (.iload_n 0, 1) := by decide +kernel
theorem dX12_isLetter_1 : decode cX12_isLetter 1 = .ok (.i2l, 1) := by decide +kernel
theorem dX12_isLetter_2 : decode cX12_isLetter 2 = .ok (.ldc2_w 296, 3) := by decide +kernel
theorem dX12_isLetter_5 : decode cX12_isLetter 5 = .ok (.ldc2_w 298, 3) := by decide +kernel
theorem dX12_isLetter_8 : decode cX12_isLetter 8 = .ok (.invokestatic 58, 3) := by decide +kernel
theorem dX12_isLetter_11 : decode cX12_isLetter 11 = .ok (.ireturn, 1) := by decide +kernel
theorem dX12_isDigit_0 : decode cX12_isDigit 0 = .ok (.iload_n 0, 1) := by decide +kernel
theorem dX12_isDigit_1 : decode cX12_isDigit 1 = .ok (.i2l, 1) := by decide +kernel
theorem dX12_isDigit_2 : decode cX12_isDigit 2 = .ok (.ldc2_w 300, 3) := by decide +kernel
theorem dX12_isDigit_5 : decode cX12_isDigit 5 = .ok (.ldc2_w 302, 3) := by decide +kernel
theorem dX12_isDigit_8 : decode cX12_isDigit 8 = .ok (.invokestatic 58, 3) := by decide +kernel
theorem dX12_isDigit_11 : decode cX12_isDigit 11 = .ok (.ireturn, 1) := by decide +kernel
theorem dX12_token_0 : decode cX12_token 0 = .ok (.aload_n 0, 1) := by decide +kernel
theorem dX12_token_1 : decode cX12_token 1 = .ok (.aload_n 0, 1) := by decide +kernel
theorem dX12_token_2 : decode cX12_token 2 = .ok (.getfield 304, 3) := by decide +kernel
theorem dX12_token_5 : decode cX12_token 5 = .ok (.putfield 307, 3) := by decide +kernel
theorem dX12_token_8 : decode cX12_token 8 = .ok (.aload_n 0, 1) := by decide +kernel
theorem dX12_token_9 : decode cX12_token 9 = .ok (.aload_n 0, 1) := by decide +kernel
theorem dX12_token_10 : decode cX12_token 10 = .ok (.getfield 307, 3) := by decide +kernel
theorem dX12_token_13 : decode cX12_token 13 = .ok (.invokevirtual 310, 3) := by decide +kernel
theorem dX12_token_16 : decode cX12_token 16 = .ok (.bipush 32, 2) := by decide +kernel
theorem dX12_token_18 : decode cX12_token 18 = .ok (.if_icmp .ne 16, 3) := by decide +kernel
theorem dX12_token_21 : decode cX12_token 21 = .ok (.aload_n 0, 1) := by decide +kernel
theorem dX12_token_22 : decode cX12_token 22 = .ok (.dup, 1) := by decide +kernel
theorem dX12_token_23 : decode cX12_token 23 = .ok (.getfield 307, 3) := by decide +kernel
theorem dX12_token_26 : decode cX12_token 26 = .ok (.iconst 1, 1) := by decide +kernel
theorem dX12_token_27 : decode cX12_token 27 = .ok (.iadd, 1) := by decide +kernel
theorem dX12_token_28 : decode cX12_token 28 = .ok (.putfield 307, 3) := by decide +kernel
theorem dX12_token_31 : decode cX12_token 31 = .ok (.goto (-23), 3) := by decide +kernel
theorem dX12_token_34 : decode cX12_token 34 = .ok (.aload_n 0, 1) := by decide +kernel
theorem dX12_token_35 : decode cX12_token 35 = .ok (.aload_n 0, 1) := by decide +kernel
theorem dX12_token_36 : decode cX12_token 36 = .ok (.getfield 307, 3) := by decide +kernel
theorem dX12_token_39 : decode cX12_token 39 = .ok (.invokevirtual 310, 3) := by decide +kernel
theorem dX12_token_42 : decode cX12_token 42 = .ok (.invokestatic 313, 3) := by decide +kernel
theorem dX12_token_45 : decode cX12_token 45 = .ok (.istore_n 1, 1) := by decide +kernel
theorem dX12_token_46 : decode cX12_token 46 = .ok (.aload_n 0, 1) := by decide +kernel
theorem dX12_token_47 : decode cX12_token 47 = .ok (.aload_n 0, 1) := by decide +kernel
theorem dX12_token_48 : decode cX12_token 48 = .ok (.getfield 307, 3) := by decide +kernel
theorem dX12_token_51 : decode cX12_token 51 = .ok (.invokevirtual 310, 3) := by decide +kernel
theorem dX12_token_54 : decode cX12_token 54 = .ok (.invokestatic 316, 3) := by decide +kernel
theorem dX12_token_57 : decode cX12_token 57 = .ok (.istore_n 2, 1) := by decide +kernel
theorem dX12_token_58 : decode cX12_token 58 = .ok (.aload_n 0, 1) := by decide +kernel
theorem dX12_token_59 : decode cX12_token 59 = .ok (.aload_n 0, 1) := by decide +kernel
theorem dX12_token_60 : decode cX12_token 60 = .ok (.getfield 307, 3) := by decide +kernel
theorem dX12_token_63 : decode cX12_token 63 = .ok (.aload_n 0, 1) := by decide +kernel
theorem dX12_token_64 : decode cX12_token 64 = .ok (.getfield 291, 3) := by decide +kernel
theorem dX12_token_67 : decode cX12_token 67 = .ok (.if_icmp .ge 12, 3) := by decide +kernel
theorem dX12_token_70 : decode cX12_token 70 = .ok (.aload_n 0, 1) := by decide +kernel
theorem dX12_token_71 : decode cX12_token 71 = .ok (.getfield 307, 3) := by decide +kernel
theorem dX12_token_74 : decode cX12_token 74 = .ok (.iconst 1, 1) := by decide +kernel
theorem dX12_token_75 : decode cX12_token 75 = .ok (.iadd, 1) := by decide +kernel
theorem dX12_token_76 : decode cX12_token 76 = .ok (.goto 7, 3) := by decide +kernel
theorem dX12_token_79 : decode cX12_token 79 = .ok (.aload_n 0, 1) := by decide +kernel
theorem dX12_token_80 : decode cX12_token 80 = .ok (.getfield 307, 3) := by decide +kernel
theorem dX12_token_83 : decode cX12_token 83 = .ok (.putfield 304, 3) := by decide +kernel
theorem dX12_token_86 : decode cX12_token 86 = .ok (.iload_n 1, 1) := by decide +kernel
theorem dX12_token_87 : decode cX12_token 87 = .ok (.ifCond .eq 17, 3) := by decide +kernel
theorem dX12_token_90 : decode cX12_token 90 = .ok (.aload_n 0, 1) := by decide +kernel
theorem dX12_token_91 : decode cX12_token 91 = .ok (.aload_n 0, 1) := by decide +kernel
theorem dX12_token_92 : decode cX12_token 92 = .ok (.getfield 304, 3) := by decide +kernel
theorem dX12_token_95 : decode cX12_token 95 = .ok (.invokevirtual 310, 3) := by decide +kernel
theorem dX12_token_98 : decode cX12_token 98 = .ok (.invokestatic 313, 3) := by decide +kernel
theorem dX12_token_101 : decode cX12_token 101 = .ok (.ifCond .ne 21, 3) := by decide +kernel
theorem dX12_token_104 : decode cX12_token 104 = .ok (.iload_n 2, 1) := by decide +kernel
theorem dX12_token_105 : decode cX12_token 105 = .ok (.ifCond .eq 30, 3) := by decide +kernel
theorem dX12_token_108 : decode cX12_token 108 = .ok (.aload_n 0, 1) := by decide +kernel
theorem dX12_token_109 : decode cX12_token 109 = .ok (.aload_n 0, 1) := by decide +kernel
theorem dX12_token_110 : decode cX12_token 110 = .ok (.getfield 304, 3) := by decide +kernel
theorem dX12_token_113 : decode cX12_token 113 = .ok (.invokevirtual 310, 3) := by decide +kernel
theorem dX12_token_116 : decode cX12_token 116 = .ok (.invokestatic 316, 3) := by decide +kernel
theorem dX12_token_119 : decode cX12_token 119 = .ok (.ifCond .eq 16, 3) := by decide +kernel
theorem dX12_token_122 : decode cX12_token 122 = .ok (.aload_n 0, 1) := by decide +kernel
theorem dX12_token_123 : decode cX12_token 123 = .ok (.dup, 1) := by decide +kernel
theorem dX12_token_124 : decode cX12_token 124 = .ok (.getfield 304, 3) := by decide +kernel
theorem dX12_token_127 : decode cX12_token 127 = .ok (.iconst 1, 1) := by decide +kernel
theorem dX12_token_128 : decode cX12_token 128 = .ok (.iadd, 1) := by decide +kernel
theorem dX12_token_129 : decode cX12_token 129 = .ok (.putfield 304, 3) := by decide +kernel
theorem dX12_token_132 : decode cX12_token 132 = .ok (.goto (-46), 3) := by decide +kernel
theorem dX12_token_135 : decode cX12_token 135 = .ok (.return_, 1) := by decide +kernel
theorem dX12_wants_0 : decode cX12_wants 0 = .ok (.aload_n 0, 1) := by decide +kernel
theorem dX12_wants_1 : decode cX12_wants 1 = .ok (.aload_n 0, 1) := by decide +kernel
theorem dX12_wants_2 : decode cX12_wants 2 = .ok (.getfield 319, 3) := by decide +kernel
theorem dX12_wants_5 : decode cX12_wants 5 = .ok (.ifCond .ne 7, 3) := by decide +kernel
theorem dX12_wants_8 : decode cX12_wants 8 = .ok (.iload_n 1, 1) := by decide +kernel
theorem dX12_wants_9 : decode cX12_wants 9 = .ok (.ifCond .ne 7, 3) := by decide +kernel
theorem dX12_wants_12 : decode cX12_wants 12 = .ok (.iconst 1, 1) := by decide +kernel
theorem dX12_wants_13 : decode cX12_wants 13 = .ok (.goto 4, 3) := by decide +kernel
theorem dX12_wants_16 : decode cX12_wants 16 = .ok (.iconst 0, 1) := by decide +kernel
theorem dX12_wants_17 : decode cX12_wants 17 = .ok (.putfield 319, 3) := by decide +kernel
theorem dX12_wants_20 : decode cX12_wants 20 = .ok (.aload_n 0, 1) := by decide +kernel
theorem dX12_wants_21 : decode cX12_wants 21 = .ok (.getfield 319, 3) := by decide +kernel
theorem dX12_wants_24 : decode cX12_wants 24 = .ok (.ifCond .ne 7, 3) := by decide +kernel
theorem dX12_wants_27 : decode cX12_wants 27 = .ok (.aload_n 0, 1) := by decide +kernel
theorem dX12_wants_28 : decode cX12_wants 28 = .ok (.invokevirtual 323, 3) := by decide +kernel
theorem dX12_wants_31 : decode cX12_wants 31 = .ok (.return_, 1) := by decide +kernel
theorem dX12_word_0 : decode cX12_word 0 = .ok (.lconst 0, 1) := by decide +kernel
theorem dX12_word_1 : decode cX12_word 1 = .ok (.lstore_n 1, 1) := by decide +kernel
theorem dX12_word_2 : decode cX12_word 2 = .ok (.aload_n 0, 1) := by decide +kernel
theorem dX12_word_3 : decode cX12_word 3 = .ok (.getfield 307, 3) := by decide +kernel
theorem dX12_word_6 : decode cX12_word 6 = .ok (.istore_n 3, 1) := by decide +kernel
theorem dX12_word_7 : decode cX12_word 7 = .ok (.iload_n 3, 1) := by decide +kernel
theorem dX12_word_8 : decode cX12_word 8 = .ok (.aload_n 0, 1) := by decide +kernel
theorem dX12_word_9 : decode cX12_word 9 = .ok (.getfield 304, 3) := by decide +kernel
theorem dX12_word_12 : decode cX12_word 12 = .ok (.if_icmp .ge 38, 3) := by decide +kernel
theorem dX12_word_15 : decode cX12_word 15 = .ok (.lload_n 1, 1) := by decide +kernel
theorem dX12_word_16 : decode cX12_word 16 = .ok (.ldc2_w 326, 3) := by decide +kernel
theorem dX12_word_19 : decode cX12_word 19 = .ok (.lcmp, 1) := by decide +kernel
theorem dX12_word_20 : decode cX12_word 20 = .ok (.ifCond .le 7, 3) := by decide +kernel
theorem dX12_word_23 : decode cX12_word 23 = .ok (.lload_n 1, 1) := by decide +kernel
theorem dX12_word_24 : decode cX12_word 24 = .ok (.goto 19, 3) := by decide +kernel
theorem dX12_word_27 : decode cX12_word 27 = .ok (.ldc2_w 328, 3) := by decide +kernel
theorem dX12_word_30 : decode cX12_word 30 = .ok (.lload_n 1, 1) := by decide +kernel
theorem dX12_word_31 : decode cX12_word 31 = .ok (.lmul, 1) := by decide +kernel
theorem dX12_word_32 : decode cX12_word 32 = .ok (.aload_n 0, 1) := by decide +kernel
theorem dX12_word_33 : decode cX12_word 33 = .ok (.getfield 34, 3) := by decide +kernel
theorem dX12_word_36 : decode cX12_word 36 = .ok (.iload_n 3, 1) := by decide +kernel
theorem dX12_word_37 : decode cX12_word 37 = .ok (.iaload, 1) := by decide +kernel
theorem dX12_word_38 : decode cX12_word 38 = .ok (.bipush 96, 2) := by decide +kernel
theorem dX12_word_40 : decode cX12_word 40 = .ok (.isub, 1) := by decide +kernel
theorem dX12_word_41 : decode cX12_word 41 = .ok (.i2l, 1) := by decide +kernel
theorem dX12_word_42 : decode cX12_word 42 = .ok (.ladd, 1) := by decide +kernel
theorem dX12_word_43 : decode cX12_word 43 = .ok (.lstore_n 1, 1) := by decide +kernel
theorem dX12_word_44 : decode cX12_word 44 = .ok (.iinc 3 1, 3) := by decide +kernel
theorem dX12_word_47 : decode cX12_word 47 = .ok (.goto (-40), 3) := by decide +kernel
theorem dX12_word_50 : decode cX12_word 50 = .ok (.aload_n 0, 1) := by decide +kernel
theorem dX12_word_51 : decode cX12_word 51 = .ok (.getfield 319, 3) := by decide +kernel
theorem dX12_word_54 : decode cX12_word 54 = .ok (.ifCond .ne 17, 3) := by decide +kernel
theorem dX12_word_57 : decode cX12_word 57 = .ok (.aload_n 0, 1) := by decide +kernel
theorem dX12_word_58 : decode cX12_word 58 = .ok (.aload_n 0, 1) := by decide +kernel
theorem dX12_word_59 : decode cX12_word 59 = .ok (.getfield 307, 3) := by decide +kernel
theorem dX12_word_62 : decode cX12_word 62 = .ok (.invokevirtual 310, 3) := by decide +kernel
theorem dX12_word_65 : decode cX12_word 65 = .ok (.invokestatic 313, 3) := by decide +kernel
theorem dX12_word_68 : decode cX12_word 68 = .ok (.ifCond .ne 7, 3) := by decide +kernel
theorem dX12_word_71 : decode cX12_word 71 = .ok (.lconst 0, 1) := by decide +kernel
theorem dX12_word_72 : decode cX12_word 72 = .ok (.goto 4, 3) := by decide +kernel
theorem dX12_word_75 : decode cX12_word 75 = .ok (.lload_n 1, 1) := by decide +kernel
theorem dX12_word_76 : decode cX12_word 76 = .ok (.lreturn, 1) := by decide +kernel
theorem dX12_number_0 : decode cX12_number 0 = .ok (.aload_n 0, 1) := by decide +kernel
theorem dX12_number_1 : decode cX12_number 1 = .ok (.aload_n 0, 1) := by decide +kernel
theorem dX12_number_2 : decode cX12_number 2 = .ok (.getfield 307, 3) := by decide +kernel
theorem dX12_number_5 : decode cX12_number 5 = .ok (.invokevirtual 310, 3) := by decide +kernel
theorem dX12_number_8 : decode cX12_number 8 = .ok (.invokestatic 316, 3) := by decide +kernel
theorem dX12_number_11 : decode cX12_number 11 = .ok (.ifCond .eq 20, 3) := by decide +kernel
theorem dX12_number_14 : decode cX12_number 14 = .ok (.aload_n 0, 1) := by decide +kernel
theorem dX12_number_15 : decode cX12_number 15 = .ok (.getfield 304, 3) := by decide +kernel
theorem dX12_number_18 : decode cX12_number 18 = .ok (.aload_n 0, 1) := by decide +kernel
theorem dX12_number_19 : decode cX12_number 19 = .ok (.getfield 307, 3) := by decide +kernel
theorem dX12_number_22 : decode cX12_number 22 = .ok (.isub, 1) := by decide +kernel
theorem dX12_number_23 : decode cX12_number 23 = .ok (.iconst 5, 1) := by decide +kernel
theorem dX12_number_24 : decode cX12_number 24 = .ok (.if_icmp .ge 7, 3) := by decide +kernel
theorem dX12_number_27 : decode cX12_number 27 = .ok (.iconst 1, 1) := by decide +kernel
theorem dX12_number_28 : decode cX12_number 28 = .ok (.goto 4, 3) := by decide +kernel
theorem dX12_number_31 : decode cX12_number 31 = .ok (.iconst 0, 1) := by decide +kernel
theorem dX12_number_32 : decode cX12_number 32 = .ok (.istore_n 2, 1) := by decide +kernel
theorem dX12_number_33 : decode cX12_number 33 = .ok (.aload_n 0, 1) := by decide +kernel
theorem dX12_number_34 : decode cX12_number 34 = .ok (.iconst 0, 1) := by decide +kernel
theorem dX12_number_35 : decode cX12_number 35 = .ok (.putfield 330, 3) := by decide +kernel
theorem dX12_number_38 : decode cX12_number 38 = .ok (.aload_n 0, 1) := by decide +kernel
theorem dX12_number_39 : decode cX12_number 39 = .ok (.getfield 307, 3) := by decide +kernel
theorem dX12_number_42 : decode cX12_number 42 = .ok (.istore_n 3, 1) := by decide +kernel
theorem dX12_number_43 : decode cX12_number 43 = .ok (.iload_n 3, 1) := by decide +kernel
theorem dX12_number_44 : decode cX12_number 44 = .ok (.aload_n 0, 1) := by decide +kernel
theorem dX12_number_45 : decode cX12_number 45 = .ok (.getfield 304, 3) := by decide +kernel
theorem dX12_number_48 : decode cX12_number 48 = .ok (.if_icmp .ge 34, 3) := by decide +kernel
theorem dX12_number_51 : decode cX12_number 51 = .ok (.iload_n 2, 1) := by decide +kernel
theorem dX12_number_52 : decode cX12_number 52 = .ok (.ifCond .eq 30, 3) := by decide +kernel
theorem dX12_number_55 : decode cX12_number 55 = .ok (.aload_n 0, 1) := by decide +kernel
theorem dX12_number_56 : decode cX12_number 56 = .ok (.bipush 10, 2) := by decide +kernel
theorem dX12_number_58 : decode cX12_number 58 = .ok (.aload_n 0, 1) := by decide +kernel
theorem dX12_number_59 : decode cX12_number 59 = .ok (.getfield 330, 3) := by decide +kernel
theorem dX12_number_62 : decode cX12_number 62 = .ok (.imul, 1) := by decide +kernel
theorem dX12_number_63 : decode cX12_number 63 = .ok (.aload_n 0, 1) := by decide +kernel
theorem dX12_number_64 : decode cX12_number 64 = .ok (.getfield 34, 3) := by decide +kernel
theorem dX12_number_67 : decode cX12_number 67 = .ok (.iload_n 3, 1) := by decide +kernel
theorem dX12_number_68 : decode cX12_number 68 = .ok (.iaload, 1) := by decide +kernel
theorem dX12_number_69 : decode cX12_number 69 = .ok (.iadd, 1) := by decide +kernel
theorem dX12_number_70 : decode cX12_number 70 = .ok (.bipush 48, 2) := by decide +kernel
theorem dX12_number_72 : decode cX12_number 72 = .ok (.isub, 1) := by decide +kernel
theorem dX12_number_73 : decode cX12_number 73 = .ok (.putfield 330, 3) := by decide +kernel
theorem dX12_number_76 : decode cX12_number 76 = .ok (.iinc 3 1, 3) := by decide +kernel
theorem dX12_number_79 : decode cX12_number 79 = .ok (.goto (-36), 3) := by decide +kernel
theorem dX12_number_82 : decode cX12_number 82 = .ok (.aload_n 0, 1) := by decide +kernel
theorem dX12_number_83 : decode cX12_number 83 = .ok (.iload_n 2, 1) := by decide +kernel
theorem dX12_number_84 : decode cX12_number 84 = .ok (.ifCond .eq 15, 3) := by decide +kernel
theorem dX12_number_87 : decode cX12_number 87 = .ok (.aload_n 0, 1) := by decide +kernel
theorem dX12_number_88 : decode cX12_number 88 = .ok (.getfield 330, 3) := by decide +kernel
theorem dX12_number_91 : decode cX12_number 91 = .ok (.iload_n 1, 1) := by decide +kernel
theorem dX12_number_92 : decode cX12_number 92 = .ok (.if_icmp .gt 7, 3) := by decide +kernel
theorem dX12_number_95 : decode cX12_number 95 = .ok (.iconst 1, 1) := by decide +kernel
theorem dX12_number_96 : decode cX12_number 96 = .ok (.goto 4, 3) := by decide +kernel
theorem dX12_number_99 : decode cX12_number 99 = .ok (.iconst 0, 1) := by decide +kernel
theorem dX12_number_100 : decode cX12_number 100 = .ok (.invokevirtual 333, 3) := by decide +kernel
theorem dX12_number_103 : decode cX12_number 103 = .ok (.return_, 1) := by decide +kernel
theorem dX12_kindHere_0 : decode cX12_kindHere 0 = .ok (.aload_n 0, 1) := by decide +kernel
theorem dX12_kindHere_1 : decode cX12_kindHere 1 = .ok (.invokevirtual 337, 3) := by decide +kernel
theorem dX12_kindHere_4 : decode cX12_kindHere 4 = .ok (.lstore_n 1, 1) := by decide +kernel
theorem dX12_kindHere_5 : decode cX12_kindHere 5 = .ok (.lload_n 1, 1) := by decide +kernel
theorem dX12_kindHere_6 : decode cX12_kindHere 6 = .ok (.ldc2_w 341, 3) := by decide +kernel
theorem dX12_kindHere_9 : decode cX12_kindHere 9 = .ok (.lcmp, 1) := by decide +kernel
theorem dX12_kindHere_10 : decode cX12_kindHere 10 = .ok (.ifCond .ne 7, 3) := by decide +kernel
theorem dX12_kindHere_13 : decode cX12_kindHere 13 = .ok (.iconst 0, 1) := by decide +kernel
theorem dX12_kindHere_14 : decode cX12_kindHere 14 = .ok (.goto 64, 3) := by decide +kernel
theorem dX12_kindHere_17 : decode cX12_kindHere 17 = .ok (.lload_n 1, 1) := by decide +kernel
theorem dX12_kindHere_18 : decode cX12_kindHere 18 = .ok (.ldc2_w 343, 3) := by decide +kernel
theorem dX12_kindHere_21 : decode cX12_kindHere 21 = .ok (.lcmp, 1) := by decide +kernel
theorem dX12_kindHere_22 : decode cX12_kindHere 22 = .ok (.ifCond .ne 7, 3) := by decide +kernel
theorem dX12_kindHere_25 : decode cX12_kindHere 25 = .ok (.iconst 1, 1) := by decide +kernel
theorem dX12_kindHere_26 : decode cX12_kindHere 26 = .ok (.goto 52, 3) := by decide +kernel
theorem dX12_kindHere_29 : decode cX12_kindHere 29 = .ok (.lload_n 1, 1) := by decide +kernel
theorem dX12_kindHere_30 : decode cX12_kindHere 30 = .ok (.ldc2_w 345, 3) := by decide +kernel
theorem dX12_kindHere_33 : decode cX12_kindHere 33 = .ok (.lcmp, 1) := by decide +kernel
theorem dX12_kindHere_34 : decode cX12_kindHere 34 = .ok (.ifCond .ne 7, 3) := by decide +kernel
theorem dX12_kindHere_37 : decode cX12_kindHere 37 = .ok (.iconst 2, 1) := by decide +kernel
theorem dX12_kindHere_38 : decode cX12_kindHere 38 = .ok (.goto 40, 3) := by decide +kernel
theorem dX12_kindHere_41 : decode cX12_kindHere 41 = .ok (.lload_n 1, 1) := by decide +kernel
theorem dX12_kindHere_42 : decode cX12_kindHere 42 = .ok (.ldc2_w 347, 3) := by decide +kernel
theorem dX12_kindHere_45 : decode cX12_kindHere 45 = .ok (.lcmp, 1) := by decide +kernel
theorem dX12_kindHere_46 : decode cX12_kindHere 46 = .ok (.ifCond .ne 7, 3) := by decide +kernel
theorem dX12_kindHere_49 : decode cX12_kindHere 49 = .ok (.iconst 3, 1) := by decide +kernel
theorem dX12_kindHere_50 : decode cX12_kindHere 50 = .ok (.goto 28, 3) := by decide +kernel
theorem dX12_kindHere_53 : decode cX12_kindHere 53 = .ok (.lload_n 1, 1) := by decide +kernel
theorem dX12_kindHere_54 : decode cX12_kindHere 54 = .ok (.ldc2_w 349, 3) := by decide +kernel
theorem dX12_kindHere_57 : decode cX12_kindHere 57 = .ok (.lcmp, 1) := by decide +kernel
theorem dX12_kindHere_58 : decode cX12_kindHere 58 = .ok (.ifCond .ne 7, 3) := by decide +kernel
theorem dX12_kindHere_61 : decode cX12_kindHere 61 = .ok (.iconst 4, 1) := by decide +kernel
theorem dX12_kindHere_62 : decode cX12_kindHere 62 = .ok (.goto 16, 3) := by decide +kernel
theorem dX12_kindHere_65 : decode cX12_kindHere 65 = .ok (.lload_n 1, 1) := by decide +kernel
theorem dX12_kindHere_66 : decode cX12_kindHere 66 = .ok (.ldc2_w 351, 3) := by decide +kernel
theorem dX12_kindHere_69 : decode cX12_kindHere 69 = .ok (.lcmp, 1) := by decide +kernel
theorem dX12_kindHere_70 : decode cX12_kindHere 70 = .ok (.ifCond .ne 7, 3) := by decide +kernel
theorem dX12_kindHere_73 : decode cX12_kindHere 73 = .ok (.iconst 5, 1) := by decide +kernel
theorem dX12_kindHere_74 : decode cX12_kindHere 74 = .ok (.goto 4, 3) := by decide +kernel
theorem dX12_kindHere_77 : decode cX12_kindHere 77 = .ok (.iconst (-1), 1) := by decide +kernel
theorem dX12_kindHere_78 : decode cX12_kindHere 78 = .ok (.ireturn, 1) := by decide +kernel
theorem dX12_factHere_0 : decode cX12_factHere 0 = .ok (.aload_n 0, 1) := by decide +kernel
theorem dX12_factHere_1 : decode cX12_factHere 1 = .ok (.invokevirtual 337, 3) := by decide +kernel
theorem dX12_factHere_4 : decode cX12_factHere 4 = .ok (.lstore_n 1, 1) := by decide +kernel
theorem dX12_factHere_5 : decode cX12_factHere 5 = .ok (.lload_n 1, 1) := by decide +kernel
theorem dX12_factHere_6 : decode cX12_factHere 6 = .ok (.ldc2_w 353, 3) := by decide +kernel
theorem dX12_factHere_9 : decode cX12_factHere 9 = .ok (.lcmp, 1) := by decide +kernel
theorem dX12_factHere_10 : decode cX12_factHere 10 = .ok (.ifCond .ne 7, 3) := by decide +kernel
theorem dX12_factHere_13 : decode cX12_factHere 13 = .ok (.iconst (-1), 1) := by decide +kernel
theorem dX12_factHere_14 : decode cX12_factHere 14 = .ok (.goto 56, 3) := by decide +kernel
theorem dX12_factHere_17 : decode cX12_factHere 17 = .ok (.lload_n 1, 1) := by decide +kernel
theorem dX12_factHere_18 : decode cX12_factHere 18 = .ok (.ldc2_w 355, 3) := by decide +kernel
theorem dX12_factHere_21 : decode cX12_factHere 21 = .ok (.lcmp, 1) := by decide +kernel
theorem dX12_factHere_22 : decode cX12_factHere 22 = .ok (.ifCond .ne 8, 3) := by decide +kernel
theorem dX12_factHere_25 : decode cX12_factHere 25 = .ok (.bipush (-2), 2) := by decide +kernel
theorem dX12_factHere_27 : decode cX12_factHere 27 = .ok (.goto 43, 3) := by decide +kernel
theorem dX12_factHere_30 : decode cX12_factHere 30 = .ok (.lload_n 1, 1) := by decide +kernel
theorem dX12_factHere_31 : decode cX12_factHere 31 = .ok (.ldc2_w 357, 3) := by decide +kernel
theorem dX12_factHere_34 : decode cX12_factHere 34 = .ok (.lcmp, 1) := by decide +kernel
theorem dX12_factHere_35 : decode cX12_factHere 35 = .ok (.ifCond .ne 8, 3) := by decide +kernel
theorem dX12_factHere_38 : decode cX12_factHere 38 = .ok (.bipush (-3), 2) := by decide +kernel
theorem dX12_factHere_40 : decode cX12_factHere 40 = .ok (.goto 30, 3) := by decide +kernel
theorem dX12_factHere_43 : decode cX12_factHere 43 = .ok (.lload_n 1, 1) := by decide +kernel
theorem dX12_factHere_44 : decode cX12_factHere 44 = .ok (.ldc2_w 359, 3) := by decide +kernel
theorem dX12_factHere_47 : decode cX12_factHere 47 = .ok (.lcmp, 1) := by decide +kernel
theorem dX12_factHere_48 : decode cX12_factHere 48 = .ok (.ifCond .ne 8, 3) := by decide +kernel
theorem dX12_factHere_51 : decode cX12_factHere 51 = .ok (.bipush (-4), 2) := by decide +kernel
theorem dX12_factHere_53 : decode cX12_factHere 53 = .ok (.goto 17, 3) := by decide +kernel
theorem dX12_factHere_56 : decode cX12_factHere 56 = .ok (.lload_n 1, 1) := by decide +kernel
theorem dX12_factHere_57 : decode cX12_factHere 57 = .ok (.ldc2_w 361, 3) := by decide +kernel
theorem dX12_factHere_60 : decode cX12_factHere 60 = .ok (.lcmp, 1) := by decide +kernel
theorem dX12_factHere_61 : decode cX12_factHere 61 = .ok (.ifCond .ne 8, 3) := by decide +kernel
theorem dX12_factHere_64 : decode cX12_factHere 64 = .ok (.bipush (-5), 2) := by decide +kernel
theorem dX12_factHere_66 : decode cX12_factHere 66 = .ok (.goto 4, 3) := by decide +kernel
theorem dX12_factHere_69 : decode cX12_factHere 69 = .ok (.iconst 0, 1) := by decide +kernel
theorem dX12_factHere_70 : decode cX12_factHere 70 = .ok (.ireturn, 1) := by decide +kernel
theorem dX12_writes_0 : decode cX12_writes 0 = .ok (.aload_n 0, 1) := by decide +kernel
theorem dX12_writes_1 : decode cX12_writes 1 = .ok (.getfield 319, 3) := by decide +kernel
theorem dX12_writes_4 : decode cX12_writes 4 = .ok (.ifCond .ne 26, 3) := by decide +kernel
theorem dX12_writes_7 : decode cX12_writes 7 = .ok (.aload_n 0, 1) := by decide +kernel
theorem dX12_writes_8 : decode cX12_writes 8 = .ok (.getfield 7, 3) := by decide +kernel
theorem dX12_writes_11 : decode cX12_writes 11 = .ok (.bipush 119, 2) := by decide +kernel
theorem dX12_writes_13 : decode cX12_writes 13 = .ok (.aload_n 0, 1) := by decide +kernel
theorem dX12_writes_14 : decode cX12_writes 14 = .ok (.getfield 363, 3) := by decide +kernel
theorem dX12_writes_17 : decode cX12_writes 17 = .ok (.iadd, 1) := by decide +kernel
theorem dX12_writes_18 : decode cX12_writes 18 = .ok (.iload_n 1, 1) := by decide +kernel
theorem dX12_writes_19 : decode cX12_writes 19 = .ok (.iastore, 1) := by decide +kernel
theorem dX12_writes_20 : decode cX12_writes 20 = .ok (.aload_n 0, 1) := by decide +kernel
theorem dX12_writes_21 : decode cX12_writes 21 = .ok (.dup, 1) := by decide +kernel
theorem dX12_writes_22 : decode cX12_writes 22 = .ok (.getfield 363, 3) := by decide +kernel
theorem dX12_writes_25 : decode cX12_writes 25 = .ok (.iconst 1, 1) := by decide +kernel
theorem dX12_writes_26 : decode cX12_writes 26 = .ok (.iadd, 1) := by decide +kernel
theorem dX12_writes_27 : decode cX12_writes 27 = .ok (.putfield 363, 3) := by decide +kernel
theorem dX12_writes_30 : decode cX12_writes 30 = .ok (.return_, 1) := by decide +kernel
theorem dX12_valueHere_0 : decode cX12_valueHere 0 = .ok (.aload_n 0, 1) := by decide +kernel
theorem dX12_valueHere_1 : decode cX12_valueHere 1 = .ok (.invokevirtual 366, 3) := by decide +kernel
theorem dX12_valueHere_4 : decode cX12_valueHere 4 = .ok (.istore_n 1, 1) := by decide +kernel
theorem dX12_valueHere_5 : decode cX12_valueHere 5 = .ok (.iload_n 1, 1) := by decide +kernel
theorem dX12_valueHere_6 : decode cX12_valueHere 6 = .ok (.ifCond .ge 16, 3) := by decide +kernel
theorem dX12_valueHere_9 : decode cX12_valueHere 9 = .ok (.aload_n 0, 1) := by decide +kernel
theorem dX12_valueHere_10 : decode cX12_valueHere 10 = .ok (.iconst 1, 1) := by decide +kernel
theorem dX12_valueHere_11 : decode cX12_valueHere 11 = .ok (.invokevirtual 333, 3) := by decide +kernel
theorem dX12_valueHere_14 : decode cX12_valueHere 14 = .ok (.aload_n 0, 1) := by decide +kernel
theorem dX12_valueHere_15 : decode cX12_valueHere 15 = .ok (.iload_n 1, 1) := by decide +kernel
theorem dX12_valueHere_16 : decode cX12_valueHere 16 = .ok (.invokevirtual 369, 3) := by decide +kernel
theorem dX12_valueHere_19 : decode cX12_valueHere 19 = .ok (.goto 25, 3) := by decide +kernel
theorem dX12_valueHere_22 : decode cX12_valueHere 22 = .ok (.aload_n 0, 1) := by decide +kernel
theorem dX12_valueHere_23 : decode cX12_valueHere 23 = .ok (.getfield 319, 3) := by decide +kernel
theorem dX12_valueHere_26 : decode cX12_valueHere 26 = .ok (.ifCond .ne 18, 3) := by decide +kernel
theorem dX12_valueHere_29 : decode cX12_valueHere 29 = .ok (.aload_n 0, 1) := by decide +kernel
theorem dX12_valueHere_30 : decode cX12_valueHere 30 = .ok (.sipush 9999, 3) := by decide +kernel
theorem dX12_valueHere_33 : decode cX12_valueHere 33 = .ok (.invokevirtual 372, 3) := by decide +kernel
theorem dX12_valueHere_36 : decode cX12_valueHere 36 = .ok (.aload_n 0, 1) := by decide +kernel
theorem dX12_valueHere_37 : decode cX12_valueHere 37 = .ok (.aload_n 0, 1) := by decide +kernel
theorem dX12_valueHere_38 : decode cX12_valueHere 38 = .ok (.getfield 330, 3) := by decide +kernel
theorem dX12_valueHere_41 : decode cX12_valueHere 41 = .ok (.invokevirtual 369, 3) := by decide +kernel
theorem dX12_valueHere_44 : decode cX12_valueHere 44 = .ok (.return_, 1) := by decide +kernel
theorem dX12_comparison_0 : decode cX12_comparison 0 = .ok (.aload_n 0, 1) := by decide +kernel
theorem dX12_comparison_1 : decode cX12_comparison 1 = .ok (.invokevirtual 375, 3) := by decide +kernel
theorem dX12_comparison_4 : decode cX12_comparison 4 = .ok (.aload_n 0, 1) := by decide +kernel
theorem dX12_comparison_5 : decode cX12_comparison 5 = .ok (.getfield 319, 3) := by decide +kernel
theorem dX12_comparison_8 : decode cX12_comparison 8 = .ok (.ifCond .eq 7, 3) := by decide +kernel
theorem dX12_comparison_11 : decode cX12_comparison 11 = .ok (.iconst (-1), 1) := by decide +kernel
theorem dX12_comparison_12 : decode cX12_comparison 12 = .ok (.goto 11, 3) := by decide +kernel
theorem dX12_comparison_15 : decode cX12_comparison 15 = .ok (.aload_n 0, 1) := by decide +kernel
theorem dX12_comparison_16 : decode cX12_comparison 16 = .ok (.aload_n 0, 1) := by decide +kernel
theorem dX12_comparison_17 : decode cX12_comparison 17 = .ok (.getfield 307, 3) := by decide +kernel
theorem dX12_comparison_20 : decode cX12_comparison 20 = .ok (.invokevirtual 310, 3) := by decide +kernel
theorem dX12_comparison_23 : decode cX12_comparison 23 = .ok (.istore_n 1, 1) := by decide +kernel
theorem dX12_comparison_24 : decode cX12_comparison 24 = .ok (.aload_n 0, 1) := by decide +kernel
theorem dX12_comparison_25 : decode cX12_comparison 25 = .ok (.iload_n 1, 1) := by decide +kernel
theorem dX12_comparison_26 : decode cX12_comparison 26 = .ok (.bipush 60, 2) := by decide +kernel
theorem dX12_comparison_28 : decode cX12_comparison 28 = .ok (.if_icmp .eq 15, 3) := by decide +kernel
theorem dX12_comparison_31 : decode cX12_comparison 31 = .ok (.iload_n 1, 1) := by decide +kernel
theorem dX12_comparison_32 : decode cX12_comparison 32 = .ok (.bipush 61, 2) := by decide +kernel
theorem dX12_comparison_34 : decode cX12_comparison 34 = .ok (.if_icmp .eq 9, 3) := by decide +kernel
theorem dX12_comparison_37 : decode cX12_comparison 37 = .ok (.iload_n 1, 1) := by decide +kernel
theorem dX12_comparison_38 : decode cX12_comparison 38 = .ok (.bipush 62, 2) := by decide +kernel
theorem dX12_comparison_40 : decode cX12_comparison 40 = .ok (.if_icmp .ne 7, 3) := by decide +kernel
theorem dX12_comparison_43 : decode cX12_comparison 43 = .ok (.iconst 1, 1) := by decide +kernel
theorem dX12_comparison_44 : decode cX12_comparison 44 = .ok (.goto 4, 3) := by decide +kernel
theorem dX12_comparison_47 : decode cX12_comparison 47 = .ok (.iconst 0, 1) := by decide +kernel
theorem dX12_comparison_48 : decode cX12_comparison 48 = .ok (.invokevirtual 333, 3) := by decide +kernel
theorem dX12_comparison_51 : decode cX12_comparison 51 = .ok (.aload_n 0, 1) := by decide +kernel
theorem dX12_comparison_52 : decode cX12_comparison 52 = .ok (.invokevirtual 375, 3) := by decide +kernel
theorem dX12_comparison_55 : decode cX12_comparison 55 = .ok (.aload_n 0, 1) := by decide +kernel
theorem dX12_comparison_56 : decode cX12_comparison 56 = .ok (.iload_n 1, 1) := by decide +kernel
theorem dX12_comparison_57 : decode cX12_comparison 57 = .ok (.bipush 60, 2) := by decide +kernel
theorem dX12_comparison_59 : decode cX12_comparison 59 = .ok (.if_icmp .ne 8, 3) := by decide +kernel
theorem dX12_comparison_62 : decode cX12_comparison 62 = .ok (.bipush (-11), 2) := by decide +kernel
theorem dX12_comparison_64 : decode cX12_comparison 64 = .ok (.goto 16, 3) := by decide +kernel
theorem dX12_comparison_67 : decode cX12_comparison 67 = .ok (.iload_n 1, 1) := by decide +kernel
theorem dX12_comparison_68 : decode cX12_comparison 68 = .ok (.bipush 61, 2) := by decide +kernel
theorem dX12_comparison_70 : decode cX12_comparison 70 = .ok (.if_icmp .ne 8, 3) := by decide +kernel
theorem dX12_comparison_73 : decode cX12_comparison 73 = .ok (.bipush (-12), 2) := by decide +kernel
theorem dX12_comparison_75 : decode cX12_comparison 75 = .ok (.goto 5, 3) := by decide +kernel
theorem dX12_comparison_78 : decode cX12_comparison 78 = .ok (.bipush (-13), 2) := by decide +kernel
theorem dX12_comparison_80 : decode cX12_comparison 80 = .ok (.invokevirtual 369, 3) := by decide +kernel
theorem dX12_comparison_83 : decode cX12_comparison 83 = .ok (.return_, 1) := by decide +kernel
theorem dX12_one_0 : decode cX12_one 0 = .ok (.iconst 0, 1) := by decide +kernel
theorem dX12_one_1 : decode cX12_one 1 = .ok (.istore_n 1, 1) := by decide +kernel
theorem dX12_one_2 : decode cX12_one 2 = .ok (.aload_n 0, 1) := by decide +kernel
theorem dX12_one_3 : decode cX12_one 3 = .ok (.invokevirtual 337, 3) := by decide +kernel
theorem dX12_one_6 : decode cX12_one 6 = .ok (.ldc2_w 378, 3) := by decide +kernel
theorem dX12_one_9 : decode cX12_one 9 = .ok (.lcmp, 1) := by decide +kernel
theorem dX12_one_10 : decode cX12_one 10 = .ok (.ifCond .ne 21, 3) := by decide +kernel
theorem dX12_one_13 : decode cX12_one 13 = .ok (.iload_n 1, 1) := by decide +kernel
theorem dX12_one_14 : decode cX12_one 14 = .ok (.ifCond .ne 7, 3) := by decide +kernel
theorem dX12_one_17 : decode cX12_one 17 = .ok (.iconst 1, 1) := by decide +kernel
theorem dX12_one_18 : decode cX12_one 18 = .ok (.goto 4, 3) := by decide +kernel
theorem dX12_one_21 : decode cX12_one 21 = .ok (.iconst 0, 1) := by decide +kernel
theorem dX12_one_22 : decode cX12_one 22 = .ok (.istore_n 1, 1) := by decide +kernel
theorem dX12_one_23 : decode cX12_one 23 = .ok (.aload_n 0, 1) := by decide +kernel
theorem dX12_one_24 : decode cX12_one 24 = .ok (.iconst 1, 1) := by decide +kernel
theorem dX12_one_25 : decode cX12_one 25 = .ok (.invokevirtual 333, 3) := by decide +kernel
theorem dX12_one_28 : decode cX12_one 28 = .ok (.goto (-26), 3) := by decide +kernel
theorem dX12_one_31 : decode cX12_one 31 = .ok (.aload_n 0, 1) := by decide +kernel
theorem dX12_one_32 : decode cX12_one 32 = .ok (.getfield 319, 3) := by decide +kernel
theorem dX12_one_35 : decode cX12_one 35 = .ok (.ifCond .ne 89, 3) := by decide +kernel
theorem dX12_one_38 : decode cX12_one 38 = .ok (.aload_n 0, 1) := by decide +kernel
theorem dX12_one_39 : decode cX12_one 39 = .ok (.aload_n 0, 1) := by decide +kernel
theorem dX12_one_40 : decode cX12_one 40 = .ok (.getfield 307, 3) := by decide +kernel
theorem dX12_one_43 : decode cX12_one 43 = .ok (.invokevirtual 310, 3) := by decide +kernel
theorem dX12_one_46 : decode cX12_one 46 = .ok (.bipush 40, 2) := by decide +kernel
theorem dX12_one_48 : decode cX12_one 48 = .ok (.if_icmp .ne 76, 3) := by decide +kernel
theorem dX12_one_51 : decode cX12_one 51 = .ok (.aload_n 0, 1) := by decide +kernel
theorem dX12_one_52 : decode cX12_one 52 = .ok (.aload_n 0, 1) := by decide +kernel
theorem dX12_one_53 : decode cX12_one 53 = .ok (.getfield 380, 3) := by decide +kernel
theorem dX12_one_56 : decode cX12_one 56 = .ok (.iconst 3, 1) := by decide +kernel
theorem dX12_one_57 : decode cX12_one 57 = .ok (.if_icmp .ge 7, 3) := by decide +kernel
theorem dX12_one_60 : decode cX12_one 60 = .ok (.iconst 1, 1) := by decide +kernel
theorem dX12_one_61 : decode cX12_one 61 = .ok (.goto 4, 3) := by decide +kernel
theorem dX12_one_64 : decode cX12_one 64 = .ok (.iconst 0, 1) := by decide +kernel
theorem dX12_one_65 : decode cX12_one 65 = .ok (.invokevirtual 333, 3) := by decide +kernel
theorem dX12_one_68 : decode cX12_one 68 = .ok (.aload_n 0, 1) := by decide +kernel
theorem dX12_one_69 : decode cX12_one 69 = .ok (.dup, 1) := by decide +kernel
theorem dX12_one_70 : decode cX12_one 70 = .ok (.getfield 380, 3) := by decide +kernel
theorem dX12_one_73 : decode cX12_one 73 = .ok (.iconst 1, 1) := by decide +kernel
theorem dX12_one_74 : decode cX12_one 74 = .ok (.iadd, 1) := by decide +kernel
theorem dX12_one_75 : decode cX12_one 75 = .ok (.putfield 380, 3) := by decide +kernel
theorem dX12_one_78 : decode cX12_one 78 = .ok (.aload_n 0, 1) := by decide +kernel
theorem dX12_one_79 : decode cX12_one 79 = .ok (.invokevirtual 383, 3) := by decide +kernel
theorem dX12_one_82 : decode cX12_one 82 = .ok (.aload_n 0, 1) := by decide +kernel
theorem dX12_one_83 : decode cX12_one 83 = .ok (.dup, 1) := by decide +kernel
theorem dX12_one_84 : decode cX12_one 84 = .ok (.getfield 380, 3) := by decide +kernel
theorem dX12_one_87 : decode cX12_one 87 = .ok (.iconst 1, 1) := by decide +kernel
theorem dX12_one_88 : decode cX12_one 88 = .ok (.isub, 1) := by decide +kernel
theorem dX12_one_89 : decode cX12_one 89 = .ok (.putfield 380, 3) := by decide +kernel
theorem dX12_one_92 : decode cX12_one 92 = .ok (.aload_n 0, 1) := by decide +kernel
theorem dX12_one_93 : decode cX12_one 93 = .ok (.aload_n 0, 1) := by decide +kernel
theorem dX12_one_94 : decode cX12_one 94 = .ok (.getfield 319, 3) := by decide +kernel
theorem dX12_one_97 : decode cX12_one 97 = .ok (.ifCond .ne 20, 3) := by decide +kernel
theorem dX12_one_100 : decode cX12_one 100 = .ok (.aload_n 0, 1) := by decide +kernel
theorem dX12_one_101 : decode cX12_one 101 = .ok (.aload_n 0, 1) := by decide +kernel
theorem dX12_one_102 : decode cX12_one 102 = .ok (.getfield 307, 3) := by decide +kernel
theorem dX12_one_105 : decode cX12_one 105 = .ok (.invokevirtual 310, 3) := by decide +kernel
theorem dX12_one_108 : decode cX12_one 108 = .ok (.bipush 41, 2) := by decide +kernel
theorem dX12_one_110 : decode cX12_one 110 = .ok (.if_icmp .ne 7, 3) := by decide +kernel
theorem dX12_one_113 : decode cX12_one 113 = .ok (.iconst 1, 1) := by decide +kernel
theorem dX12_one_114 : decode cX12_one 114 = .ok (.goto 4, 3) := by decide +kernel
theorem dX12_one_117 : decode cX12_one 117 = .ok (.iconst 0, 1) := by decide +kernel
theorem dX12_one_118 : decode cX12_one 118 = .ok (.invokevirtual 333, 3) := by decide +kernel
theorem dX12_one_121 : decode cX12_one 121 = .ok (.goto 7, 3) := by decide +kernel
theorem dX12_one_124 : decode cX12_one 124 = .ok (.aload_n 0, 1) := by decide +kernel
theorem dX12_one_125 : decode cX12_one 125 = .ok (.invokevirtual 386, 3) := by decide +kernel
theorem dX12_one_128 : decode cX12_one 128 = .ok (.iload_n 1, 1) := by decide +kernel
theorem dX12_one_129 : decode cX12_one 129 = .ok (.ifCond .eq 9, 3) := by decide +kernel
theorem dX12_one_132 : decode cX12_one 132 = .ok (.aload_n 0, 1) := by decide +kernel
theorem dX12_one_133 : decode cX12_one 133 = .ok (.bipush (-20), 2) := by decide +kernel
theorem dX12_one_135 : decode cX12_one 135 = .ok (.invokevirtual 369, 3) := by decide +kernel
theorem dX12_one_138 : decode cX12_one 138 = .ok (.return_, 1) := by decide +kernel
theorem dX12_all_0 : decode cX12_all 0 = .ok (.aload_n 0, 1) := by decide +kernel
theorem dX12_all_1 : decode cX12_all 1 = .ok (.invokevirtual 389, 3) := by decide +kernel
theorem dX12_all_4 : decode cX12_all 4 = .ok (.aload_n 0, 1) := by decide +kernel
theorem dX12_all_5 : decode cX12_all 5 = .ok (.invokevirtual 337, 3) := by decide +kernel
theorem dX12_all_8 : decode cX12_all 8 = .ok (.ldc2_w 392, 3) := by decide +kernel
theorem dX12_all_11 : decode cX12_all 11 = .ok (.lcmp, 1) := by decide +kernel
theorem dX12_all_12 : decode cX12_all 12 = .ok (.ifCond .ne 21, 3) := by decide +kernel
theorem dX12_all_15 : decode cX12_all 15 = .ok (.aload_n 0, 1) := by decide +kernel
theorem dX12_all_16 : decode cX12_all 16 = .ok (.iconst 1, 1) := by decide +kernel
theorem dX12_all_17 : decode cX12_all 17 = .ok (.invokevirtual 333, 3) := by decide +kernel
theorem dX12_all_20 : decode cX12_all 20 = .ok (.aload_n 0, 1) := by decide +kernel
theorem dX12_all_21 : decode cX12_all 21 = .ok (.invokevirtual 389, 3) := by decide +kernel
theorem dX12_all_24 : decode cX12_all 24 = .ok (.aload_n 0, 1) := by decide +kernel
theorem dX12_all_25 : decode cX12_all 25 = .ok (.bipush (-21), 2) := by decide +kernel
theorem dX12_all_27 : decode cX12_all 27 = .ok (.invokevirtual 369, 3) := by decide +kernel
theorem dX12_all_30 : decode cX12_all 30 = .ok (.goto (-26), 3) := by decide +kernel
theorem dX12_all_33 : decode cX12_all 33 = .ok (.return_, 1) := by decide +kernel
theorem dX12_condition_0 : decode cX12_condition 0 = .ok (.aload_n 0, 1) := by decide +kernel
theorem dX12_condition_1 : decode cX12_condition 1 = .ok (.getfield 319, 3) := by decide +kernel
theorem dX12_condition_4 : decode cX12_condition 4 = .ok (.ifCond .eq 4, 3) := by decide +kernel
theorem dX12_condition_7 : decode cX12_condition 7 = .ok (.return_, 1) := by decide +kernel
theorem dX12_condition_8 : decode cX12_condition 8 = .ok (.aload_n 0, 1) := by decide +kernel
theorem dX12_condition_9 : decode cX12_condition 9 = .ok (.invokevirtual 394, 3) := by decide +kernel
theorem dX12_condition_12 : decode cX12_condition 12 = .ok (.aload_n 0, 1) := by decide +kernel
theorem dX12_condition_13 : decode cX12_condition 13 = .ok (.invokevirtual 337, 3) := by decide +kernel
theorem dX12_condition_16 : decode cX12_condition 16 = .ok (.ldc2_w 397, 3) := by decide +kernel
theorem dX12_condition_19 : decode cX12_condition 19 = .ok (.lcmp, 1) := by decide +kernel
theorem dX12_condition_20 : decode cX12_condition 20 = .ok (.ifCond .ne 21, 3) := by decide +kernel
theorem dX12_condition_23 : decode cX12_condition 23 = .ok (.aload_n 0, 1) := by decide +kernel
theorem dX12_condition_24 : decode cX12_condition 24 = .ok (.iconst 1, 1) := by decide +kernel
theorem dX12_condition_25 : decode cX12_condition 25 = .ok (.invokevirtual 333, 3) := by decide +kernel
theorem dX12_condition_28 : decode cX12_condition 28 = .ok (.aload_n 0, 1) := by decide +kernel
theorem dX12_condition_29 : decode cX12_condition 29 = .ok (.invokevirtual 394, 3) := by decide +kernel
theorem dX12_condition_32 : decode cX12_condition 32 = .ok (.aload_n 0, 1) := by decide +kernel
theorem dX12_condition_33 : decode cX12_condition 33 = .ok (.bipush (-22), 2) := by decide +kernel
theorem dX12_condition_35 : decode cX12_condition 35 = .ok (.invokevirtual 369, 3) := by decide +kernel
theorem dX12_condition_38 : decode cX12_condition 38 = .ok (.goto (-26), 3) := by decide +kernel
theorem dX12_condition_41 : decode cX12_condition 41 = .ok (.return_, 1) := by decide +kernel
theorem dX12_rule_0 : decode cX12_rule 0 = .ok (.aload_n 0, 1) := by decide +kernel
theorem dX12_rule_1 : decode cX12_rule 1 = .ok (.invokevirtual 399, 3) := by decide +kernel
theorem dX12_rule_4 : decode cX12_rule 4 = .ok (.istore_n 1, 1) := by decide +kernel
theorem dX12_rule_5 : decode cX12_rule 5 = .ok (.aload_n 0, 1) := by decide +kernel
theorem dX12_rule_6 : decode cX12_rule 6 = .ok (.iload_n 1, 1) := by decide +kernel
theorem dX12_rule_7 : decode cX12_rule 7 = .ok (.ifCond .lt 18, 3) := by decide +kernel
theorem dX12_rule_10 : decode cX12_rule 10 = .ok (.aload_n 0, 1) := by decide +kernel
theorem dX12_rule_11 : decode cX12_rule 11 = .ok (.getfield 7, 3) := by decide +kernel
theorem dX12_rule_14 : decode cX12_rule 14 = .ok (.iconst 1, 1) := by decide +kernel
theorem dX12_rule_15 : decode cX12_rule 15 = .ok (.iaload, 1) := by decide +kernel
theorem dX12_rule_16 : decode cX12_rule 16 = .ok (.bipush 8, 2) := by decide +kernel
theorem dX12_rule_18 : decode cX12_rule 18 = .ok (.if_icmp .ge 7, 3) := by decide +kernel
theorem dX12_rule_21 : decode cX12_rule 21 = .ok (.iconst 1, 1) := by decide +kernel
theorem dX12_rule_22 : decode cX12_rule 22 = .ok (.goto 4, 3) := by decide +kernel
theorem dX12_rule_25 : decode cX12_rule 25 = .ok (.iconst 0, 1) := by decide +kernel
theorem dX12_rule_26 : decode cX12_rule 26 = .ok (.invokevirtual 333, 3) := by decide +kernel
theorem dX12_rule_29 : decode cX12_rule 29 = .ok (.aload_n 0, 1) := by decide +kernel
theorem dX12_rule_30 : decode cX12_rule 30 = .ok (.invokevirtual 337, 3) := by decide +kernel
theorem dX12_rule_33 : decode cX12_rule 33 = .ok (.ldc2_w 402, 3) := by decide +kernel
theorem dX12_rule_36 : decode cX12_rule 36 = .ok (.lcmp, 1) := by decide +kernel
theorem dX12_rule_37 : decode cX12_rule 37 = .ok (.ifCond .ne 12, 3) := by decide +kernel
theorem dX12_rule_40 : decode cX12_rule 40 = .ok (.aload_n 0, 1) := by decide +kernel
theorem dX12_rule_41 : decode cX12_rule 41 = .ok (.iconst 1, 1) := by decide +kernel
theorem dX12_rule_42 : decode cX12_rule 42 = .ok (.invokevirtual 333, 3) := by decide +kernel
theorem dX12_rule_45 : decode cX12_rule 45 = .ok (.aload_n 0, 1) := by decide +kernel
theorem dX12_rule_46 : decode cX12_rule 46 = .ok (.invokevirtual 383, 3) := by decide +kernel
theorem dX12_rule_49 : decode cX12_rule 49 = .ok (.aload_n 0, 1) := by decide +kernel
theorem dX12_rule_50 : decode cX12_rule 50 = .ok (.invokevirtual 337, 3) := by decide +kernel
theorem dX12_rule_53 : decode cX12_rule 53 = .ok (.lstore_n 2, 1) := by decide +kernel
theorem dX12_rule_54 : decode cX12_rule 54 = .ok (.lload_n 2, 1) := by decide +kernel
theorem dX12_rule_55 : decode cX12_rule 55 = .ok (.ldc2_w 404, 3) := by decide +kernel
theorem dX12_rule_58 : decode cX12_rule 58 = .ok (.lcmp, 1) := by decide +kernel
theorem dX12_rule_59 : decode cX12_rule 59 = .ok (.ifCond .ne 7, 3) := by decide +kernel
theorem dX12_rule_62 : decode cX12_rule 62 = .ok (.iconst 0, 1) := by decide +kernel
theorem dX12_rule_63 : decode cX12_rule 63 = .ok (.goto 28, 3) := by decide +kernel
theorem dX12_rule_66 : decode cX12_rule 66 = .ok (.lload_n 2, 1) := by decide +kernel
theorem dX12_rule_67 : decode cX12_rule 67 = .ok (.ldc2_w 406, 3) := by decide +kernel
theorem dX12_rule_70 : decode cX12_rule 70 = .ok (.lcmp, 1) := by decide +kernel
theorem dX12_rule_71 : decode cX12_rule 71 = .ok (.ifCond .ne 7, 3) := by decide +kernel
theorem dX12_rule_74 : decode cX12_rule 74 = .ok (.iconst 1, 1) := by decide +kernel
theorem dX12_rule_75 : decode cX12_rule 75 = .ok (.goto 16, 3) := by decide +kernel
theorem dX12_rule_78 : decode cX12_rule 78 = .ok (.lload_n 2, 1) := by decide +kernel
theorem dX12_rule_79 : decode cX12_rule 79 = .ok (.ldc2_w 408, 3) := by decide +kernel
theorem dX12_rule_82 : decode cX12_rule 82 = .ok (.lcmp, 1) := by decide +kernel
theorem dX12_rule_83 : decode cX12_rule 83 = .ok (.ifCond .ne 7, 3) := by decide +kernel
theorem dX12_rule_86 : decode cX12_rule 86 = .ok (.iconst 2, 1) := by decide +kernel
theorem dX12_rule_87 : decode cX12_rule 87 = .ok (.goto 4, 3) := by decide +kernel
theorem dX12_rule_90 : decode cX12_rule 90 = .ok (.iconst (-1), 1) := by decide +kernel
theorem dX12_rule_91 : decode cX12_rule 91 = .ok (.istore 4, 2) := by decide +kernel
theorem dX12_rule_93 : decode cX12_rule 93 = .ok (.aload_n 0, 1) := by decide +kernel
theorem dX12_rule_94 : decode cX12_rule 94 = .ok (.iload 4, 2) := by decide +kernel
theorem dX12_rule_96 : decode cX12_rule 96 = .ok (.ifCond .lt 7, 3) := by decide +kernel
theorem dX12_rule_99 : decode cX12_rule 99 = .ok (.iconst 1, 1) := by decide +kernel
theorem dX12_rule_100 : decode cX12_rule 100 = .ok (.goto 4, 3) := by decide +kernel
theorem dX12_rule_103 : decode cX12_rule 103 = .ok (.iconst 0, 1) := by decide +kernel
theorem dX12_rule_104 : decode cX12_rule 104 = .ok (.invokevirtual 333, 3) := by decide +kernel
theorem dX12_rule_107 : decode cX12_rule 107 = .ok (.aload_n 0, 1) := by decide +kernel
theorem dX12_rule_108 : decode cX12_rule 108 = .ok (.aload_n 0, 1) := by decide +kernel
theorem dX12_rule_109 : decode cX12_rule 109 = .ok (.getfield 319, 3) := by decide +kernel
theorem dX12_rule_112 : decode cX12_rule 112 = .ok (.ifCond .ne 20, 3) := by decide +kernel
theorem dX12_rule_115 : decode cX12_rule 115 = .ok (.aload_n 0, 1) := by decide +kernel
theorem dX12_rule_116 : decode cX12_rule 116 = .ok (.aload_n 0, 1) := by decide +kernel
theorem dX12_rule_117 : decode cX12_rule 117 = .ok (.getfield 307, 3) := by decide +kernel
theorem dX12_rule_120 : decode cX12_rule 120 = .ok (.invokevirtual 310, 3) := by decide +kernel
theorem dX12_rule_123 : decode cX12_rule 123 = .ok (.bipush 59, 2) := by decide +kernel
theorem dX12_rule_125 : decode cX12_rule 125 = .ok (.if_icmp .ne 7, 3) := by decide +kernel
theorem dX12_rule_128 : decode cX12_rule 128 = .ok (.iconst 1, 1) := by decide +kernel
theorem dX12_rule_129 : decode cX12_rule 129 = .ok (.goto 4, 3) := by decide +kernel
theorem dX12_rule_132 : decode cX12_rule 132 = .ok (.iconst 0, 1) := by decide +kernel
theorem dX12_rule_133 : decode cX12_rule 133 = .ok (.invokevirtual 333, 3) := by decide +kernel
theorem dX12_rule_136 : decode cX12_rule 136 = .ok (.aload_n 0, 1) := by decide +kernel
theorem dX12_rule_137 : decode cX12_rule 137 = .ok (.getfield 319, 3) := by decide +kernel
theorem dX12_rule_140 : decode cX12_rule 140 = .ok (.ifCond .ne 60, 3) := by decide +kernel
theorem dX12_rule_143 : decode cX12_rule 143 = .ok (.bipush 95, 2) := by decide +kernel
theorem dX12_rule_145 : decode cX12_rule 145 = .ok (.iconst 3, 1) := by decide +kernel
theorem dX12_rule_146 : decode cX12_rule 146 = .ok (.aload_n 0, 1) := by decide +kernel
theorem dX12_rule_147 : decode cX12_rule 147 = .ok (.getfield 7, 3) := by decide +kernel
theorem dX12_rule_150 : decode cX12_rule 150 = .ok (.iconst 1, 1) := by decide +kernel
theorem dX12_rule_151 : decode cX12_rule 151 = .ok (.iaload, 1) := by decide +kernel
theorem dX12_rule_152 : decode cX12_rule 152 = .ok (.imul, 1) := by decide +kernel
theorem dX12_rule_153 : decode cX12_rule 153 = .ok (.iadd, 1) := by decide +kernel
theorem dX12_rule_154 : decode cX12_rule 154 = .ok (.istore 5, 2) := by decide +kernel
theorem dX12_rule_156 : decode cX12_rule 156 = .ok (.aload_n 0, 1) := by decide +kernel
theorem dX12_rule_157 : decode cX12_rule 157 = .ok (.getfield 7, 3) := by decide +kernel
theorem dX12_rule_160 : decode cX12_rule 160 = .ok (.iload 5, 2) := by decide +kernel
theorem dX12_rule_162 : decode cX12_rule 162 = .ok (.iconst 0, 1) := by decide +kernel
theorem dX12_rule_163 : decode cX12_rule 163 = .ok (.iadd, 1) := by decide +kernel
theorem dX12_rule_164 : decode cX12_rule 164 = .ok (.iload_n 1, 1) := by decide +kernel
theorem dX12_rule_165 : decode cX12_rule 165 = .ok (.iastore, 1) := by decide +kernel
theorem dX12_rule_166 : decode cX12_rule 166 = .ok (.aload_n 0, 1) := by decide +kernel
theorem dX12_rule_167 : decode cX12_rule 167 = .ok (.getfield 7, 3) := by decide +kernel
theorem dX12_rule_170 : decode cX12_rule 170 = .ok (.iload 5, 2) := by decide +kernel
theorem dX12_rule_172 : decode cX12_rule 172 = .ok (.iconst 1, 1) := by decide +kernel
theorem dX12_rule_173 : decode cX12_rule 173 = .ok (.iadd, 1) := by decide +kernel
theorem dX12_rule_174 : decode cX12_rule 174 = .ok (.iload 4, 2) := by decide +kernel
theorem dX12_rule_176 : decode cX12_rule 176 = .ok (.iastore, 1) := by decide +kernel
theorem dX12_rule_177 : decode cX12_rule 177 = .ok (.aload_n 0, 1) := by decide +kernel
theorem dX12_rule_178 : decode cX12_rule 178 = .ok (.getfield 7, 3) := by decide +kernel
theorem dX12_rule_181 : decode cX12_rule 181 = .ok (.iload 5, 2) := by decide +kernel
theorem dX12_rule_183 : decode cX12_rule 183 = .ok (.iconst 2, 1) := by decide +kernel
theorem dX12_rule_184 : decode cX12_rule 184 = .ok (.iadd, 1) := by decide +kernel
theorem dX12_rule_185 : decode cX12_rule 185 = .ok (.aload_n 0, 1) := by decide +kernel
theorem dX12_rule_186 : decode cX12_rule 186 = .ok (.getfield 363, 3) := by decide +kernel
theorem dX12_rule_189 : decode cX12_rule 189 = .ok (.iastore, 1) := by decide +kernel
theorem dX12_rule_190 : decode cX12_rule 190 = .ok (.aload_n 0, 1) := by decide +kernel
theorem dX12_rule_191 : decode cX12_rule 191 = .ok (.getfield 7, 3) := by decide +kernel
theorem dX12_rule_194 : decode cX12_rule 194 = .ok (.iconst 1, 1) := by decide +kernel
theorem dX12_rule_195 : decode cX12_rule 195 = .ok (.dup2, 1) := by decide +kernel
theorem dX12_rule_196 : decode cX12_rule 196 = .ok (.iaload, 1) := by decide +kernel
theorem dX12_rule_197 : decode cX12_rule 197 = .ok (.iconst 1, 1) := by decide +kernel
theorem dX12_rule_198 : decode cX12_rule 198 = .ok (.iadd, 1) := by decide +kernel
theorem dX12_rule_199 : decode cX12_rule 199 = .ok (.iastore, 1) := by decide +kernel
theorem dX12_rule_200 : decode cX12_rule 200 = .ok (.return_, 1) := by decide +kernel
theorem dX12_rules_0 : decode cX12_rules 0 = .ok (.aload_n 0, 1) := by decide +kernel
theorem dX12_rules_1 : decode cX12_rules 1 = .ok (.invokevirtual 174, 3) := by decide +kernel
theorem dX12_rules_4 : decode cX12_rules 4 = .ok (.aload_n 0, 1) := by decide +kernel
theorem dX12_rules_5 : decode cX12_rules 5 = .ok (.getfield 7, 3) := by decide +kernel
theorem dX12_rules_8 : decode cX12_rules 8 = .ok (.iconst 1, 1) := by decide +kernel
theorem dX12_rules_9 : decode cX12_rules 9 = .ok (.iconst 0, 1) := by decide +kernel
theorem dX12_rules_10 : decode cX12_rules 10 = .ok (.iastore, 1) := by decide +kernel
theorem dX12_rules_11 : decode cX12_rules 11 = .ok (.aload_n 0, 1) := by decide +kernel
theorem dX12_rules_12 : decode cX12_rules 12 = .ok (.iconst 0, 1) := by decide +kernel
theorem dX12_rules_13 : decode cX12_rules 13 = .ok (.putfield 363, 3) := by decide +kernel
theorem dX12_rules_16 : decode cX12_rules 16 = .ok (.aload_n 0, 1) := by decide +kernel
theorem dX12_rules_17 : decode cX12_rules 17 = .ok (.iconst 0, 1) := by decide +kernel
theorem dX12_rules_18 : decode cX12_rules 18 = .ok (.putfield 380, 3) := by decide +kernel
theorem dX12_rules_21 : decode cX12_rules 21 = .ok (.aload_n 0, 1) := by decide +kernel
theorem dX12_rules_22 : decode cX12_rules 22 = .ok (.iconst 0, 1) := by decide +kernel
theorem dX12_rules_23 : decode cX12_rules 23 = .ok (.putfield 304, 3) := by decide +kernel
theorem dX12_rules_26 : decode cX12_rules 26 = .ok (.aload_n 0, 1) := by decide +kernel
theorem dX12_rules_27 : decode cX12_rules 27 = .ok (.iconst 0, 1) := by decide +kernel
theorem dX12_rules_28 : decode cX12_rules 28 = .ok (.putfield 319, 3) := by decide +kernel
theorem dX12_rules_31 : decode cX12_rules 31 = .ok (.aload_n 0, 1) := by decide +kernel
theorem dX12_rules_32 : decode cX12_rules 32 = .ok (.invokevirtual 323, 3) := by decide +kernel
theorem dX12_rules_35 : decode cX12_rules 35 = .ok (.aload_n 0, 1) := by decide +kernel
theorem dX12_rules_36 : decode cX12_rules 36 = .ok (.getfield 319, 3) := by decide +kernel
theorem dX12_rules_39 : decode cX12_rules 39 = .ok (.ifCond .ne 21, 3) := by decide +kernel
theorem dX12_rules_42 : decode cX12_rules 42 = .ok (.aload_n 0, 1) := by decide +kernel
theorem dX12_rules_43 : decode cX12_rules 43 = .ok (.getfield 307, 3) := by decide +kernel
theorem dX12_rules_46 : decode cX12_rules 46 = .ok (.aload_n 0, 1) := by decide +kernel
theorem dX12_rules_47 : decode cX12_rules 47 = .ok (.getfield 291, 3) := by decide +kernel
theorem dX12_rules_50 : decode cX12_rules 50 = .ok (.if_icmp .ge 10, 3) := by decide +kernel
theorem dX12_rules_53 : decode cX12_rules 53 = .ok (.aload_n 0, 1) := by decide +kernel
theorem dX12_rules_54 : decode cX12_rules 54 = .ok (.invokevirtual 410, 3) := by decide +kernel
theorem dX12_rules_57 : decode cX12_rules 57 = .ok (.goto (-22), 3) := by decide +kernel
theorem dX12_rules_60 : decode cX12_rules 60 = .ok (.aload_n 0, 1) := by decide +kernel
theorem dX12_rules_61 : decode cX12_rules 61 = .ok (.iconst 0, 1) := by decide +kernel
theorem dX12_rules_62 : decode cX12_rules 62 = .ok (.putfield 291, 3) := by decide +kernel
theorem dX12_rules_65 : decode cX12_rules 65 = .ok (.aload_n 0, 1) := by decide +kernel
theorem dX12_rules_66 : decode cX12_rules 66 = .ok (.getfield 319, 3) := by decide +kernel
theorem dX12_rules_69 : decode cX12_rules 69 = .ok (.ifCond .eq 15, 3) := by decide +kernel
theorem dX12_rules_72 : decode cX12_rules 72 = .ok (.aload_n 0, 1) := by decide +kernel
theorem dX12_rules_73 : decode cX12_rules 73 = .ok (.invokevirtual 180, 3) := by decide +kernel
theorem dX12_rules_76 : decode cX12_rules 76 = .ok (.bipush (-100), 2) := by decide +kernel
theorem dX12_rules_78 : decode cX12_rules 78 = .ok (.aload_n 0, 1) := by decide +kernel
theorem dX12_rules_79 : decode cX12_rules 79 = .ok (.getfield 307, 3) := by decide +kernel
theorem dX12_rules_82 : decode cX12_rules 82 = .ok (.isub, 1) := by decide +kernel
theorem dX12_rules_83 : decode cX12_rules 83 = .ok (.ireturn, 1) := by decide +kernel
theorem dX12_rules_84 : decode cX12_rules 84 = .ok (.aload_n 0, 1) := by decide +kernel
theorem dX12_rules_85 : decode cX12_rules 85 = .ok (.getfield 7, 3) := by decide +kernel
theorem dX12_rules_88 : decode cX12_rules 88 = .ok (.iconst 1, 1) := by decide +kernel
theorem dX12_rules_89 : decode cX12_rules 89 = .ok (.iaload, 1) := by decide +kernel
theorem dX12_rules_90 : decode cX12_rules 90 = .ok (.ireturn, 1) := by decide +kernel
theorem dX12_isOne_0 : decode cX12_isOne 0 = .ok (.iload_n 0, 1) := by decide +kernel
theorem dX12_isOne_1 : decode cX12_isOne 1 = .ok (.i2l, 1) := by decide +kernel
theorem dX12_isOne_2 : decode cX12_isOne 2 = .ok (.lconst 0, 1) := by decide +kernel
theorem dX12_isOne_3 : decode cX12_isOne 3 = .ok (.ldc2_w 238, 3) := by decide +kernel
theorem dX12_isOne_6 : decode cX12_isOne 6 = .ok (.invokestatic 58, 3) := by decide +kernel
theorem dX12_isOne_9 : decode cX12_isOne 9 = .ok (.ireturn, 1) := by decide +kernel
theorem dX12_sheet_0 : decode cX12_sheet 0 = .ok (.iload_n 1, 1) := by decide +kernel
theorem dX12_sheet_1 : decode cX12_sheet 1 = .ok (.invokestatic 413, 3) := by decide +kernel
theorem dX12_sheet_4 : decode cX12_sheet 4 = .ok (.ifCond .eq 27, 3) := by decide +kernel
theorem dX12_sheet_7 : decode cX12_sheet 7 = .ok (.iload_n 2, 1) := by decide +kernel
theorem dX12_sheet_8 : decode cX12_sheet 8 = .ok (.i2l, 1) := by decide +kernel
theorem dX12_sheet_9 : decode cX12_sheet 9 = .ok (.ldc2_w 416, 3) := by decide +kernel
theorem dX12_sheet_12 : decode cX12_sheet 12 = .ok (.ldc2_w 79, 3) := by decide +kernel
theorem dX12_sheet_15 : decode cX12_sheet 15 = .ok (.invokestatic 58, 3) := by decide +kernel
theorem dX12_sheet_18 : decode cX12_sheet 18 = .ok (.ifCond .eq 13, 3) := by decide +kernel
theorem dX12_sheet_21 : decode cX12_sheet 21 = .ok (.iload_n 2, 1) := by decide +kernel
theorem dX12_sheet_22 : decode cX12_sheet 22 = .ok (.ifCond .lt 11, 3) := by decide +kernel
theorem dX12_sheet_25 : decode cX12_sheet 25 = .ok (.iload_n 3, 1) := by decide +kernel
theorem dX12_sheet_26 : decode cX12_sheet 26 = .ok (.bipush 40, 2) := by decide +kernel
theorem dX12_sheet_28 : decode cX12_sheet 28 = .ok (.if_icmp .le 5, 3) := by decide +kernel
theorem dX12_sheet_31 : decode cX12_sheet 31 = .ok (.iconst (-1), 1) := by decide +kernel
theorem dX12_sheet_32 : decode cX12_sheet 32 = .ok (.ireturn, 1) := by decide +kernel
theorem dX12_sheet_33 : decode cX12_sheet 33 = .ok (.iload_n 2, 1) := by decide +kernel
theorem dX12_sheet_34 : decode cX12_sheet 34 = .ok (.ifCond .lt 10, 3) := by decide +kernel
theorem dX12_sheet_37 : decode cX12_sheet 37 = .ok (.iload_n 3, 1) := by decide +kernel
theorem dX12_sheet_38 : decode cX12_sheet 38 = .ok (.ifCond .ge 6, 3) := by decide +kernel
theorem dX12_sheet_41 : decode cX12_sheet 41 = .ok (.bipush (-14), 2) := by decide +kernel
theorem dX12_sheet_43 : decode cX12_sheet 43 = .ok (.ireturn, 1) := by decide +kernel
theorem dX12_sheet_44 : decode cX12_sheet 44 = .ok (.aload_n 0, 1) := by decide +kernel
theorem dX12_sheet_45 : decode cX12_sheet 45 = .ok (.getfield 37, 3) := by decide +kernel
theorem dX12_sheet_48 : decode cX12_sheet 48 = .ok (.iload_n 1, 1) := by decide +kernel
theorem dX12_sheet_49 : decode cX12_sheet 49 = .ok (.iload_n 2, 1) := by decide +kernel
theorem dX12_sheet_50 : decode cX12_sheet 50 = .ok (.iastore, 1) := by decide +kernel
theorem dX12_sheet_51 : decode cX12_sheet 51 = .ok (.aload_n 0, 1) := by decide +kernel
theorem dX12_sheet_52 : decode cX12_sheet 52 = .ok (.getfield 40, 3) := by decide +kernel
theorem dX12_sheet_55 : decode cX12_sheet 55 = .ok (.iload_n 1, 1) := by decide +kernel
theorem dX12_sheet_56 : decode cX12_sheet 56 = .ok (.iload_n 2, 1) := by decide +kernel
theorem dX12_sheet_57 : decode cX12_sheet 57 = .ok (.ifCond .ge 7, 3) := by decide +kernel
theorem dX12_sheet_60 : decode cX12_sheet 60 = .ok (.iconst 0, 1) := by decide +kernel
theorem dX12_sheet_61 : decode cX12_sheet 61 = .ok (.goto 4, 3) := by decide +kernel
theorem dX12_sheet_64 : decode cX12_sheet 64 = .ok (.iload_n 3, 1) := by decide +kernel
theorem dX12_sheet_65 : decode cX12_sheet 65 = .ok (.iastore, 1) := by decide +kernel
theorem dX12_sheet_66 : decode cX12_sheet 66 = .ok (.iconst 0, 1) := by decide +kernel
theorem dX12_sheet_67 : decode cX12_sheet 67 = .ok (.istore 4, 2) := by decide +kernel
theorem dX12_sheet_69 : decode cX12_sheet 69 = .ok (.iload 4, 2) := by decide +kernel
theorem dX12_sheet_71 : decode cX12_sheet 71 = .ok (.bipush 40, 2) := by decide +kernel
theorem dX12_sheet_73 : decode cX12_sheet 73 = .ok (.if_icmp .ge 22, 3) := by decide +kernel
theorem dX12_sheet_76 : decode cX12_sheet 76 = .ok (.aload_n 0, 1) := by decide +kernel
theorem dX12_sheet_77 : decode cX12_sheet 77 = .ok (.getfield 43, 3) := by decide +kernel
theorem dX12_sheet_80 : decode cX12_sheet 80 = .ok (.bipush 40, 2) := by decide +kernel
theorem dX12_sheet_82 : decode cX12_sheet 82 = .ok (.iload_n 1, 1) := by decide +kernel
theorem dX12_sheet_83 : decode cX12_sheet 83 = .ok (.imul, 1) := by decide +kernel
theorem dX12_sheet_84 : decode cX12_sheet 84 = .ok (.iload 4, 2) := by decide +kernel
theorem dX12_sheet_86 : decode cX12_sheet 86 = .ok (.iadd, 1) := by decide +kernel
theorem dX12_sheet_87 : decode cX12_sheet 87 = .ok (.iconst 0, 1) := by decide +kernel
theorem dX12_sheet_88 : decode cX12_sheet 88 = .ok (.iastore, 1) := by decide +kernel
theorem dX12_sheet_89 : decode cX12_sheet 89 = .ok (.iinc 4 1, 3) := by decide +kernel
theorem dX12_sheet_92 : decode cX12_sheet 92 = .ok (.goto (-23), 3) := by decide +kernel
theorem dX12_sheet_95 : decode cX12_sheet 95 = .ok (.iconst 1, 1) := by decide +kernel
theorem dX12_sheet_96 : decode cX12_sheet 96 = .ok (.ireturn, 1) := by decide +kernel
theorem dX12_narrowed_0 : decode cX12_narrowed 0 = .ok (.iload_n 0, 1) := by decide +kernel
theorem dX12_narrowed_1 : decode cX12_narrowed 1 = .ok (.ifCond .ne 8, 3) := by decide +kernel
theorem dX12_narrowed_4 : decode cX12_narrowed 4 = .ok (.iload_n 1, 1) := by decide +kernel
theorem dX12_narrowed_5 : decode cX12_narrowed 5 = .ok (.i2b, 1) := by decide +kernel
theorem dX12_narrowed_6 : decode cX12_narrowed 6 = .ok (.goto 31, 3) := by decide +kernel
theorem dX12_narrowed_9 : decode cX12_narrowed 9 = .ok (.iload_n 0, 1) := by decide +kernel
theorem dX12_narrowed_10 : decode cX12_narrowed 10 = .ok (.iconst 1, 1) := by decide +kernel
theorem dX12_narrowed_11 : decode cX12_narrowed 11 = .ok (.if_icmp .ne 8, 3) := by decide +kernel
theorem dX12_narrowed_14 : decode cX12_narrowed 14 = .ok (.iload_n 1, 1) := by decide +kernel
theorem dX12_narrowed_15 : decode cX12_narrowed 15 = .ok (.i2s, 1) := by decide +kernel
theorem dX12_narrowed_16 : decode cX12_narrowed 16 = .ok (.goto 21, 3) := by decide +kernel
theorem dX12_narrowed_19 : decode cX12_narrowed 19 = .ok (.iload_n 0, 1) := by decide +kernel
theorem dX12_narrowed_20 : decode cX12_narrowed 20 = .ok (.iconst 4, 1) := by decide +kernel
theorem dX12_narrowed_21 : decode cX12_narrowed 21 = .ok (.if_icmp .ne 15, 3) := by decide +kernel
theorem dX12_narrowed_24 : decode cX12_narrowed 24 = .ok (.iload_n 1, 1) := by decide +kernel
theorem dX12_narrowed_25 : decode cX12_narrowed 25 = .ok (.ifCond .ne 7, 3) := by decide +kernel
theorem dX12_narrowed_28 : decode cX12_narrowed 28 = .ok (.iconst 0, 1) := by decide +kernel
theorem dX12_narrowed_29 : decode cX12_narrowed 29 = .ok (.goto 8, 3) := by decide +kernel
theorem dX12_narrowed_32 : decode cX12_narrowed 32 = .ok (.iconst 1, 1) := by decide +kernel
theorem dX12_narrowed_33 : decode cX12_narrowed 33 = .ok (.goto 4, 3) := by decide +kernel
theorem dX12_narrowed_36 : decode cX12_narrowed 36 = .ok (.iload_n 1, 1) := by decide +kernel
theorem dX12_narrowed_37 : decode cX12_narrowed 37 = .ok (.ireturn, 1) := by decide +kernel
theorem dX12_write_0 : decode cX12_write 0 = .ok (.iload_n 1, 1) := by decide +kernel
theorem dX12_write_1 : decode cX12_write 1 = .ok (.invokestatic 413, 3) := by decide +kernel
theorem dX12_write_4 : decode cX12_write 4 = .ok (.ifCond .ne 5, 3) := by decide +kernel
theorem dX12_write_7 : decode cX12_write 7 = .ok (.iconst (-1), 1) := by decide +kernel
theorem dX12_write_8 : decode cX12_write 8 = .ok (.ireturn, 1) := by decide +kernel
theorem dX12_write_9 : decode cX12_write 9 = .ok (.aload_n 0, 1) := by decide +kernel
theorem dX12_write_10 : decode cX12_write 10 = .ok (.getfield 37, 3) := by decide +kernel
theorem dX12_write_13 : decode cX12_write 13 = .ok (.iload_n 1, 1) := by decide +kernel
theorem dX12_write_14 : decode cX12_write 14 = .ok (.iaload, 1) := by decide +kernel
theorem dX12_write_15 : decode cX12_write 15 = .ok (.ifCond .ge 6, 3) := by decide +kernel
theorem dX12_write_18 : decode cX12_write 18 = .ok (.bipush (-11), 2) := by decide +kernel
theorem dX12_write_20 : decode cX12_write 20 = .ok (.ireturn, 1) := by decide +kernel
theorem dX12_write_21 : decode cX12_write 21 = .ok (.iload_n 2, 1) := by decide +kernel
theorem dX12_write_22 : decode cX12_write 22 = .ok (.i2l, 1) := by decide +kernel
theorem dX12_write_23 : decode cX12_write 23 = .ok (.lconst 0, 1) := by decide +kernel
theorem dX12_write_24 : decode cX12_write 24 = .ok (.aload_n 0, 1) := by decide +kernel
theorem dX12_write_25 : decode cX12_write 25 = .ok (.getfield 40, 3) := by decide +kernel
theorem dX12_write_28 : decode cX12_write 28 = .ok (.iload_n 1, 1) := by decide +kernel
theorem dX12_write_29 : decode cX12_write 29 = .ok (.iaload, 1) := by decide +kernel
theorem dX12_write_30 : decode cX12_write 30 = .ok (.iconst 1, 1) := by decide +kernel
theorem dX12_write_31 : decode cX12_write 31 = .ok (.isub, 1) := by decide +kernel
theorem dX12_write_32 : decode cX12_write 32 = .ok (.i2l, 1) := by decide +kernel
theorem dX12_write_33 : decode cX12_write 33 = .ok (.invokestatic 58, 3) := by decide +kernel
theorem dX12_write_36 : decode cX12_write 36 = .ok (.ifCond .ne 6, 3) := by decide +kernel
theorem dX12_write_39 : decode cX12_write 39 = .ok (.bipush (-12), 2) := by decide +kernel
theorem dX12_write_41 : decode cX12_write 41 = .ok (.ireturn, 1) := by decide +kernel
theorem dX12_write_42 : decode cX12_write 42 = .ok (.aload_n 0, 1) := by decide +kernel
theorem dX12_write_43 : decode cX12_write 43 = .ok (.getfield 43, 3) := by decide +kernel
theorem dX12_write_46 : decode cX12_write 46 = .ok (.bipush 40, 2) := by decide +kernel
theorem dX12_write_48 : decode cX12_write 48 = .ok (.iload_n 1, 1) := by decide +kernel
theorem dX12_write_49 : decode cX12_write 49 = .ok (.imul, 1) := by decide +kernel
theorem dX12_write_50 : decode cX12_write 50 = .ok (.iload_n 2, 1) := by decide +kernel
theorem dX12_write_51 : decode cX12_write 51 = .ok (.iadd, 1) := by decide +kernel
theorem dX12_write_52 : decode cX12_write 52 = .ok (.aload_n 0, 1) := by decide +kernel
theorem dX12_write_53 : decode cX12_write 53 = .ok (.getfield 37, 3) := by decide +kernel
theorem dX12_write_56 : decode cX12_write 56 = .ok (.iload_n 1, 1) := by decide +kernel
theorem dX12_write_57 : decode cX12_write 57 = .ok (.iaload, 1) := by decide +kernel
theorem dX12_write_58 : decode cX12_write 58 = .ok (.iload_n 3, 1) := by decide +kernel
theorem dX12_write_59 : decode cX12_write 59 = .ok (.invokestatic 418, 3) := by decide +kernel
theorem dX12_write_62 : decode cX12_write 62 = .ok (.iastore, 1) := by decide +kernel
theorem dX12_write_63 : decode cX12_write 63 = .ok (.iconst 1, 1) := by decide +kernel
theorem dX12_write_64 : decode cX12_write 64 = .ok (.ireturn, 1) := by decide +kernel
theorem dX12_whyNot_0 : decode cX12_whyNot 0 = .ok (.aload_n 0, 1) := by decide +kernel
theorem dX12_whyNot_1 : decode cX12_whyNot 1 = .ok (.getfield 37, 3) := by decide +kernel
theorem dX12_whyNot_4 : decode cX12_whyNot 4 = .ok (.iload_n 1, 1) := by decide +kernel
theorem dX12_whyNot_5 : decode cX12_whyNot 5 = .ok (.iaload, 1) := by decide +kernel
theorem dX12_whyNot_6 : decode cX12_whyNot 6 = .ok (.ifCond .ge 8, 3) := by decide +kernel
theorem dX12_whyNot_9 : decode cX12_whyNot 9 = .ok (.bipush (-11), 2) := by decide +kernel
theorem dX12_whyNot_11 : decode cX12_whyNot 11 = .ok (.goto 19, 3) := by decide +kernel
theorem dX12_whyNot_14 : decode cX12_whyNot 14 = .ok (.aload_n 0, 1) := by decide +kernel
theorem dX12_whyNot_15 : decode cX12_whyNot 15 = .ok (.getfield 37, 3) := by decide +kernel
theorem dX12_whyNot_18 : decode cX12_whyNot 18 = .ok (.iload_n 1, 1) := by decide +kernel
theorem dX12_whyNot_19 : decode cX12_whyNot 19 = .ok (.iaload, 1) := by decide +kernel
theorem dX12_whyNot_20 : decode cX12_whyNot 20 = .ok (.iload_n 2, 1) := by decide +kernel
theorem dX12_whyNot_21 : decode cX12_whyNot 21 = .ok (.if_icmp .eq 8, 3) := by decide +kernel
theorem dX12_whyNot_24 : decode cX12_whyNot 24 = .ok (.bipush (-13), 2) := by decide +kernel
theorem dX12_whyNot_26 : decode cX12_whyNot 26 = .ok (.goto 4, 3) := by decide +kernel
theorem dX12_whyNot_29 : decode cX12_whyNot 29 = .ok (.iconst 0, 1) := by decide +kernel
theorem dX12_whyNot_30 : decode cX12_whyNot 30 = .ok (.ireturn, 1) := by decide +kernel
theorem dX12_item_0 : decode cX12_item 0 = .ok (.iload_n 1, 1) := by decide +kernel
theorem dX12_item_1 : decode cX12_item 1 = .ok (.invokestatic 413, 3) := by decide +kernel
theorem dX12_item_4 : decode cX12_item 4 = .ok (.ifCond .eq 15, 3) := by decide +kernel
theorem dX12_item_7 : decode cX12_item 7 = .ok (.iload_n 2, 1) := by decide +kernel
theorem dX12_item_8 : decode cX12_item 8 = .ok (.i2l, 1) := by decide +kernel
theorem dX12_item_9 : decode cX12_item 9 = .ok (.lconst 0, 1) := by decide +kernel
theorem dX12_item_10 : decode cX12_item 10 = .ok (.ldc2_w 79, 3) := by decide +kernel
theorem dX12_item_13 : decode cX12_item 13 = .ok (.invokestatic 58, 3) := by decide +kernel
theorem dX12_item_16 : decode cX12_item 16 = .ok (.ifCond .ne 5, 3) := by decide +kernel
theorem dX12_item_19 : decode cX12_item 19 = .ok (.iconst (-1), 1) := by decide +kernel
theorem dX12_item_20 : decode cX12_item 20 = .ok (.ireturn, 1) := by decide +kernel
theorem dX12_item_21 : decode cX12_item 21 = .ok (.aload_n 0, 1) := by decide +kernel
theorem dX12_item_22 : decode cX12_item 22 = .ok (.iload_n 1, 1) := by decide +kernel
theorem dX12_item_23 : decode cX12_item 23 = .ok (.iload_n 2, 1) := by decide +kernel
theorem dX12_item_24 : decode cX12_item 24 = .ok (.invokevirtual 421, 3) := by decide +kernel
theorem dX12_item_27 : decode cX12_item 27 = .ok (.istore 4, 2) := by decide +kernel
theorem dX12_item_29 : decode cX12_item 29 = .ok (.iload 4, 2) := by decide +kernel
theorem dX12_item_31 : decode cX12_item 31 = .ok (.ifCond .eq 8, 3) := by decide +kernel
theorem dX12_item_34 : decode cX12_item 34 = .ok (.iload 4, 2) := by decide +kernel
theorem dX12_item_36 : decode cX12_item 36 = .ok (.goto 37, 3) := by decide +kernel
theorem dX12_item_39 : decode cX12_item 39 = .ok (.iload_n 3, 1) := by decide +kernel
theorem dX12_item_40 : decode cX12_item 40 = .ok (.i2l, 1) := by decide +kernel
theorem dX12_item_41 : decode cX12_item 41 = .ok (.lconst 0, 1) := by decide +kernel
theorem dX12_item_42 : decode cX12_item 42 = .ok (.aload_n 0, 1) := by decide +kernel
theorem dX12_item_43 : decode cX12_item 43 = .ok (.getfield 40, 3) := by decide +kernel
theorem dX12_item_46 : decode cX12_item 46 = .ok (.iload_n 1, 1) := by decide +kernel
theorem dX12_item_47 : decode cX12_item 47 = .ok (.iaload, 1) := by decide +kernel
theorem dX12_item_48 : decode cX12_item 48 = .ok (.iconst 1, 1) := by decide +kernel
theorem dX12_item_49 : decode cX12_item 49 = .ok (.isub, 1) := by decide +kernel
theorem dX12_item_50 : decode cX12_item 50 = .ok (.i2l, 1) := by decide +kernel
theorem dX12_item_51 : decode cX12_item 51 = .ok (.invokestatic 58, 3) := by decide +kernel
theorem dX12_item_54 : decode cX12_item 54 = .ok (.ifCond .eq 17, 3) := by decide +kernel
theorem dX12_item_57 : decode cX12_item 57 = .ok (.aload_n 0, 1) := by decide +kernel
theorem dX12_item_58 : decode cX12_item 58 = .ok (.getfield 43, 3) := by decide +kernel
theorem dX12_item_61 : decode cX12_item 61 = .ok (.bipush 40, 2) := by decide +kernel
theorem dX12_item_63 : decode cX12_item 63 = .ok (.iload_n 1, 1) := by decide +kernel
theorem dX12_item_64 : decode cX12_item 64 = .ok (.imul, 1) := by decide +kernel
theorem dX12_item_65 : decode cX12_item 65 = .ok (.iload_n 3, 1) := by decide +kernel
theorem dX12_item_66 : decode cX12_item 66 = .ok (.iadd, 1) := by decide +kernel
theorem dX12_item_67 : decode cX12_item 67 = .ok (.iaload, 1) := by decide +kernel
theorem dX12_item_68 : decode cX12_item 68 = .ok (.goto 5, 3) := by decide +kernel
theorem dX12_item_71 : decode cX12_item 71 = .ok (.bipush (-12), 2) := by decide +kernel
theorem dX12_item_73 : decode cX12_item 73 = .ok (.ireturn, 1) := by decide +kernel
theorem dX12_isItem_0 : decode cX12_isItem 0 = .ok (.lload_n 2, 1) := by decide +kernel
theorem dX12_isItem_1 : decode cX12_isItem 1 = .ok (.lconst 0, 1) := by decide +kernel
theorem dX12_isItem_2 : decode cX12_isItem 2 = .ok (.aload_n 0, 1) := by decide +kernel
theorem dX12_isItem_3 : decode cX12_isItem 3 = .ok (.getfield 40, 3) := by decide +kernel
theorem dX12_isItem_6 : decode cX12_isItem 6 = .ok (.iload_n 1, 1) := by decide +kernel
theorem dX12_isItem_7 : decode cX12_isItem 7 = .ok (.iaload, 1) := by decide +kernel
theorem dX12_isItem_8 : decode cX12_isItem 8 = .ok (.iconst 1, 1) := by decide +kernel
theorem dX12_isItem_9 : decode cX12_isItem 9 = .ok (.isub, 1) := by decide +kernel
theorem dX12_isItem_10 : decode cX12_isItem 10 = .ok (.i2l, 1) := by decide +kernel
theorem dX12_isItem_11 : decode cX12_isItem 11 = .ok (.invokestatic 58, 3) := by decide +kernel
theorem dX12_isItem_14 : decode cX12_isItem 14 = .ok (.ireturn, 1) := by decide +kernel
theorem dX12_isSpan_0 : decode cX12_isSpan 0 = .ok (.iload_n 1, 1) := by decide +kernel
theorem dX12_isSpan_1 : decode cX12_isSpan 1 = .ok (.invokestatic 413, 3) := by decide +kernel
theorem dX12_isSpan_4 : decode cX12_isSpan 4 = .ok (.ifCond .eq 19, 3) := by decide +kernel
theorem dX12_isSpan_7 : decode cX12_isSpan 7 = .ok (.iload_n 2, 1) := by decide +kernel
theorem dX12_isSpan_8 : decode cX12_isSpan 8 = .ok (.i2l, 1) := by decide +kernel
theorem dX12_isSpan_9 : decode cX12_isSpan 9 = .ok (.lconst 0, 1) := by decide +kernel
theorem dX12_isSpan_10 : decode cX12_isSpan 10 = .ok (.ldc2_w 424, 3) := by decide +kernel
theorem dX12_isSpan_13 : decode cX12_isSpan 13 = .ok (.invokestatic 58, 3) := by decide +kernel
theorem dX12_isSpan_16 : decode cX12_isSpan 16 = .ok (.ifCond .eq 7, 3) := by decide +kernel
theorem dX12_isSpan_19 : decode cX12_isSpan 19 = .ok (.iconst 1, 1) := by decide +kernel
theorem dX12_isSpan_20 : decode cX12_isSpan 20 = .ok (.goto 4, 3) := by decide +kernel
theorem dX12_isSpan_23 : decode cX12_isSpan 23 = .ok (.iconst 0, 1) := by decide +kernel
theorem dX12_isSpan_24 : decode cX12_isSpan 24 = .ok (.ireturn, 1) := by decide +kernel
theorem dX12_goAll_0 : decode cX12_goAll 0 = .ok (.aload_n 0, 1) := by decide +kernel
theorem dX12_goAll_1 : decode cX12_goAll 1 = .ok (.iload_n 1, 1) := by decide +kernel
theorem dX12_goAll_2 : decode cX12_goAll 2 = .ok (.iload_n 3, 1) := by decide +kernel
theorem dX12_goAll_3 : decode cX12_goAll 3 = .ok (.invokevirtual 426, 3) := by decide +kernel
theorem dX12_goAll_6 : decode cX12_goAll 6 = .ok (.ifCond .ne 5, 3) := by decide +kernel
theorem dX12_goAll_9 : decode cX12_goAll 9 = .ok (.iconst (-1), 1) := by decide +kernel
theorem dX12_goAll_10 : decode cX12_goAll 10 = .ok (.ireturn, 1) := by decide +kernel
theorem dX12_goAll_11 : decode cX12_goAll 11 = .ok (.aload_n 0, 1) := by decide +kernel
theorem dX12_goAll_12 : decode cX12_goAll 12 = .ok (.iload_n 1, 1) := by decide +kernel
theorem dX12_goAll_13 : decode cX12_goAll 13 = .ok (.iconst 0, 1) := by decide +kernel
theorem dX12_goAll_14 : decode cX12_goAll 14 = .ok (.invokevirtual 421, 3) := by decide +kernel
theorem dX12_goAll_17 : decode cX12_goAll 17 = .ok (.istore 4, 2) := by decide +kernel
theorem dX12_goAll_19 : decode cX12_goAll 19 = .ok (.iload 4, 2) := by decide +kernel
theorem dX12_goAll_21 : decode cX12_goAll 21 = .ok (.ifCond .eq 6, 3) := by decide +kernel
theorem dX12_goAll_24 : decode cX12_goAll 24 = .ok (.iload 4, 2) := by decide +kernel
theorem dX12_goAll_26 : decode cX12_goAll 26 = .ok (.ireturn, 1) := by decide +kernel
theorem dX12_goAll_27 : decode cX12_goAll 27 = .ok (.iconst 0, 1) := by decide +kernel
theorem dX12_goAll_28 : decode cX12_goAll 28 = .ok (.istore 5, 2) := by decide +kernel
theorem dX12_goAll_30 : decode cX12_goAll 30 = .ok (.iconst 0, 1) := by decide +kernel
theorem dX12_goAll_31 : decode cX12_goAll 31 = .ok (.istore 6, 2) := by decide +kernel
theorem dX12_goAll_33 : decode cX12_goAll 33 = .ok (.iload 6, 2) := by decide +kernel
theorem dX12_goAll_35 : decode cX12_goAll 35 = .ok (.iload_n 3, 1) := by decide +kernel
theorem dX12_goAll_36 : decode cX12_goAll 36 = .ok (.if_icmp .ge 66, 3) := by decide +kernel
theorem dX12_goAll_39 : decode cX12_goAll 39 = .ok (.aload_n 0, 1) := by decide +kernel
theorem dX12_goAll_40 : decode cX12_goAll 40 = .ok (.iload_n 1, 1) := by decide +kernel
theorem dX12_goAll_41 : decode cX12_goAll 41 = .ok (.iload_n 2, 1) := by decide +kernel
theorem dX12_goAll_42 : decode cX12_goAll 42 = .ok (.i2l, 1) := by decide +kernel
theorem dX12_goAll_43 : decode cX12_goAll 43 = .ok (.iload 6, 2) := by decide +kernel
theorem dX12_goAll_45 : decode cX12_goAll 45 = .ok (.i2l, 1) := by decide +kernel
theorem dX12_goAll_46 : decode cX12_goAll 46 = .ok (.ladd, 1) := by decide +kernel
theorem dX12_goAll_47 : decode cX12_goAll 47 = .ok (.invokevirtual 429, 3) := by decide +kernel
theorem dX12_goAll_50 : decode cX12_goAll 50 = .ok (.ifCond .ne 6, 3) := by decide +kernel
theorem dX12_goAll_53 : decode cX12_goAll 53 = .ok (.bipush (-12), 2) := by decide +kernel
theorem dX12_goAll_55 : decode cX12_goAll 55 = .ok (.ireturn, 1) := by decide +kernel
theorem dX12_goAll_56 : decode cX12_goAll 56 = .ok (.aload_n 0, 1) := by decide +kernel
theorem dX12_goAll_57 : decode cX12_goAll 57 = .ok (.getfield 43, 3) := by decide +kernel
theorem dX12_goAll_60 : decode cX12_goAll 60 = .ok (.bipush 40, 2) := by decide +kernel
theorem dX12_goAll_62 : decode cX12_goAll 62 = .ok (.iload_n 1, 1) := by decide +kernel
theorem dX12_goAll_63 : decode cX12_goAll 63 = .ok (.imul, 1) := by decide +kernel
theorem dX12_goAll_64 : decode cX12_goAll 64 = .ok (.iload_n 2, 1) := by decide +kernel
theorem dX12_goAll_65 : decode cX12_goAll 65 = .ok (.iadd, 1) := by decide +kernel
theorem dX12_goAll_66 : decode cX12_goAll 66 = .ok (.iload 6, 2) := by decide +kernel
theorem dX12_goAll_68 : decode cX12_goAll 68 = .ok (.iadd, 1) := by decide +kernel
theorem dX12_goAll_69 : decode cX12_goAll 69 = .ok (.iaload, 1) := by decide +kernel
theorem dX12_goAll_70 : decode cX12_goAll 70 = .ok (.istore 7, 2) := by decide +kernel
theorem dX12_goAll_72 : decode cX12_goAll 72 = .ok (.iload 5, 2) := by decide +kernel
theorem dX12_goAll_74 : decode cX12_goAll 74 = .ok (.aload_n 0, 1) := by decide +kernel
theorem dX12_goAll_75 : decode cX12_goAll 75 = .ok (.iload 7, 2) := by decide +kernel
theorem dX12_goAll_77 : decode cX12_goAll 77 = .ok (.invokevirtual 286, 3) := by decide +kernel
theorem dX12_goAll_80 : decode cX12_goAll 80 = .ok (.ifCond .eq 12, 3) := by decide +kernel
theorem dX12_goAll_83 : decode cX12_goAll 83 = .ok (.aload_n 0, 1) := by decide +kernel
theorem dX12_goAll_84 : decode cX12_goAll 84 = .ok (.iload 7, 2) := by decide +kernel
theorem dX12_goAll_86 : decode cX12_goAll 86 = .ok (.invokevirtual 171, 3) := by decide +kernel
theorem dX12_goAll_89 : decode cX12_goAll 89 = .ok (.goto 4, 3) := by decide +kernel
theorem dX12_goAll_92 : decode cX12_goAll 92 = .ok (.iconst 0, 1) := by decide +kernel
theorem dX12_goAll_93 : decode cX12_goAll 93 = .ok (.iadd, 1) := by decide +kernel
theorem dX12_goAll_94 : decode cX12_goAll 94 = .ok (.istore 5, 2) := by decide +kernel
theorem dX12_goAll_96 : decode cX12_goAll 96 = .ok (.iinc 6 1, 3) := by decide +kernel
theorem dX12_goAll_99 : decode cX12_goAll 99 = .ok (.goto (-66), 3) := by decide +kernel
theorem dX12_goAll_102 : decode cX12_goAll 102 = .ok (.iload 5, 2) := by decide +kernel
theorem dX12_goAll_104 : decode cX12_goAll 104 = .ok (.ireturn, 1) := by decide +kernel
theorem dX12_wouldBe_0 : decode cX12_wouldBe 0 = .ok (.aload_n 0, 1) := by decide +kernel
theorem dX12_wouldBe_1 : decode cX12_wouldBe 1 = .ok (.iload_n 1, 1) := by decide +kernel
theorem dX12_wouldBe_2 : decode cX12_wouldBe 2 = .ok (.iload_n 3, 1) := by decide +kernel
theorem dX12_wouldBe_3 : decode cX12_wouldBe 3 = .ok (.invokevirtual 426, 3) := by decide +kernel
theorem dX12_wouldBe_6 : decode cX12_wouldBe 6 = .ok (.ifCond .ne 5, 3) := by decide +kernel
theorem dX12_wouldBe_9 : decode cX12_wouldBe 9 = .ok (.iconst (-1), 1) := by decide +kernel
theorem dX12_wouldBe_10 : decode cX12_wouldBe 10 = .ok (.ireturn, 1) := by decide +kernel
theorem dX12_wouldBe_11 : decode cX12_wouldBe 11 = .ok (.aload_n 0, 1) := by decide +kernel
theorem dX12_wouldBe_12 : decode cX12_wouldBe 12 = .ok (.iload_n 1, 1) := by decide +kernel
theorem dX12_wouldBe_13 : decode cX12_wouldBe 13 = .ok (.iconst 0, 1) := by decide +kernel
theorem dX12_wouldBe_14 : decode cX12_wouldBe 14 = .ok (.invokevirtual 421, 3) := by decide +kernel
theorem dX12_wouldBe_17 : decode cX12_wouldBe 17 = .ok (.istore 4, 2) := by decide +kernel
theorem dX12_wouldBe_19 : decode cX12_wouldBe 19 = .ok (.iload 4, 2) := by decide +kernel
theorem dX12_wouldBe_21 : decode cX12_wouldBe 21 = .ok (.ifCond .eq 6, 3) := by decide +kernel
theorem dX12_wouldBe_24 : decode cX12_wouldBe 24 = .ok (.iload 4, 2) := by decide +kernel
theorem dX12_wouldBe_26 : decode cX12_wouldBe 26 = .ok (.ireturn, 1) := by decide +kernel
theorem dX12_wouldBe_27 : decode cX12_wouldBe 27 = .ok (.aload_n 0, 1) := by decide +kernel
theorem dX12_wouldBe_28 : decode cX12_wouldBe 28 = .ok (.invokevirtual 174, 3) := by decide +kernel
theorem dX12_wouldBe_31 : decode cX12_wouldBe 31 = .ok (.iconst 0, 1) := by decide +kernel
theorem dX12_wouldBe_32 : decode cX12_wouldBe 32 = .ok (.istore 5, 2) := by decide +kernel
theorem dX12_wouldBe_34 : decode cX12_wouldBe 34 = .ok (.iconst 0, 1) := by decide +kernel
theorem dX12_wouldBe_35 : decode cX12_wouldBe 35 = .ok (.istore 6, 2) := by decide +kernel
theorem dX12_wouldBe_37 : decode cX12_wouldBe 37 = .ok (.iload 6, 2) := by decide +kernel
theorem dX12_wouldBe_39 : decode cX12_wouldBe 39 = .ok (.iload_n 3, 1) := by decide +kernel
theorem dX12_wouldBe_40 : decode cX12_wouldBe 40 = .ok (.if_icmp .ge 98, 3) := by decide +kernel
theorem dX12_wouldBe_43 : decode cX12_wouldBe 43 = .ok (.iload 4, 2) := by decide +kernel
theorem dX12_wouldBe_45 : decode cX12_wouldBe 45 = .ok (.ifCond .ne 93, 3) := by decide +kernel
theorem dX12_wouldBe_48 : decode cX12_wouldBe 48 = .ok (.aload_n 0, 1) := by decide +kernel
theorem dX12_wouldBe_49 : decode cX12_wouldBe 49 = .ok (.iload_n 1, 1) := by decide +kernel
theorem dX12_wouldBe_50 : decode cX12_wouldBe 50 = .ok (.iload_n 2, 1) := by decide +kernel
theorem dX12_wouldBe_51 : decode cX12_wouldBe 51 = .ok (.i2l, 1) := by decide +kernel
theorem dX12_wouldBe_52 : decode cX12_wouldBe 52 = .ok (.iload 6, 2) := by decide +kernel
theorem dX12_wouldBe_54 : decode cX12_wouldBe 54 = .ok (.i2l, 1) := by decide +kernel
theorem dX12_wouldBe_55 : decode cX12_wouldBe 55 = .ok (.ladd, 1) := by decide +kernel
theorem dX12_wouldBe_56 : decode cX12_wouldBe 56 = .ok (.invokevirtual 429, 3) := by decide +kernel
theorem dX12_wouldBe_59 : decode cX12_wouldBe 59 = .ok (.istore 7, 2) := by decide +kernel
theorem dX12_wouldBe_61 : decode cX12_wouldBe 61 = .ok (.iload 7, 2) := by decide +kernel
theorem dX12_wouldBe_63 : decode cX12_wouldBe 63 = .ok (.ifCond .ne 8, 3) := by decide +kernel
theorem dX12_wouldBe_66 : decode cX12_wouldBe 66 = .ok (.bipush (-12), 2) := by decide +kernel
theorem dX12_wouldBe_68 : decode cX12_wouldBe 68 = .ok (.goto 30, 3) := by decide +kernel
theorem dX12_wouldBe_71 : decode cX12_wouldBe 71 = .ok (.aload_n 0, 1) := by decide +kernel
theorem dX12_wouldBe_72 : decode cX12_wouldBe 72 = .ok (.aload_n 0, 1) := by decide +kernel
theorem dX12_wouldBe_73 : decode cX12_wouldBe 73 = .ok (.getfield 43, 3) := by decide +kernel
theorem dX12_wouldBe_76 : decode cX12_wouldBe 76 = .ok (.bipush 40, 2) := by decide +kernel
theorem dX12_wouldBe_78 : decode cX12_wouldBe 78 = .ok (.iload_n 1, 1) := by decide +kernel
theorem dX12_wouldBe_79 : decode cX12_wouldBe 79 = .ok (.imul, 1) := by decide +kernel
theorem dX12_wouldBe_80 : decode cX12_wouldBe 80 = .ok (.iload_n 2, 1) := by decide +kernel
theorem dX12_wouldBe_81 : decode cX12_wouldBe 81 = .ok (.iadd, 1) := by decide +kernel
theorem dX12_wouldBe_82 : decode cX12_wouldBe 82 = .ok (.iload 6, 2) := by decide +kernel
theorem dX12_wouldBe_84 : decode cX12_wouldBe 84 = .ok (.iadd, 1) := by decide +kernel
theorem dX12_wouldBe_85 : decode cX12_wouldBe 85 = .ok (.iaload, 1) := by decide +kernel
theorem dX12_wouldBe_86 : decode cX12_wouldBe 86 = .ok (.invokevirtual 286, 3) := by decide +kernel
theorem dX12_wouldBe_89 : decode cX12_wouldBe 89 = .ok (.ifCond .ne 8, 3) := by decide +kernel
theorem dX12_wouldBe_92 : decode cX12_wouldBe 92 = .ok (.bipush (-4), 2) := by decide +kernel
theorem dX12_wouldBe_94 : decode cX12_wouldBe 94 = .ok (.goto 4, 3) := by decide +kernel
theorem dX12_wouldBe_97 : decode cX12_wouldBe 97 = .ok (.iconst 0, 1) := by decide +kernel
theorem dX12_wouldBe_98 : decode cX12_wouldBe 98 = .ok (.istore 4, 2) := by decide +kernel
theorem dX12_wouldBe_100 : decode cX12_wouldBe 100 = .ok (.iload 5, 2) := by decide +kernel
theorem dX12_wouldBe_102 : decode cX12_wouldBe 102 = .ok (.iload 4, 2) := by decide +kernel
theorem dX12_wouldBe_104 : decode cX12_wouldBe 104 = .ok (.ifCond .ne 24, 3) := by decide +kernel
theorem dX12_wouldBe_107 : decode cX12_wouldBe 107 = .ok (.aload_n 0, 1) := by decide +kernel
theorem dX12_wouldBe_108 : decode cX12_wouldBe 108 = .ok (.aload_n 0, 1) := by decide +kernel
theorem dX12_wouldBe_109 : decode cX12_wouldBe 109 = .ok (.getfield 43, 3) := by decide +kernel
theorem dX12_wouldBe_112 : decode cX12_wouldBe 112 = .ok (.bipush 40, 2) := by decide +kernel
theorem dX12_wouldBe_114 : decode cX12_wouldBe 114 = .ok (.iload_n 1, 1) := by decide +kernel
theorem dX12_wouldBe_115 : decode cX12_wouldBe 115 = .ok (.imul, 1) := by decide +kernel
theorem dX12_wouldBe_116 : decode cX12_wouldBe 116 = .ok (.iload_n 2, 1) := by decide +kernel
theorem dX12_wouldBe_117 : decode cX12_wouldBe 117 = .ok (.iadd, 1) := by decide +kernel
theorem dX12_wouldBe_118 : decode cX12_wouldBe 118 = .ok (.iload 6, 2) := by decide +kernel
theorem dX12_wouldBe_120 : decode cX12_wouldBe 120 = .ok (.iadd, 1) := by decide +kernel
theorem dX12_wouldBe_121 : decode cX12_wouldBe 121 = .ok (.iaload, 1) := by decide +kernel
theorem dX12_wouldBe_122 : decode cX12_wouldBe 122 = .ok (.invokevirtual 171, 3) := by decide +kernel
theorem dX12_wouldBe_125 : decode cX12_wouldBe 125 = .ok (.goto 4, 3) := by decide +kernel
theorem dX12_wouldBe_128 : decode cX12_wouldBe 128 = .ok (.iconst 0, 1) := by decide +kernel
theorem dX12_wouldBe_129 : decode cX12_wouldBe 129 = .ok (.iadd, 1) := by decide +kernel
theorem dX12_wouldBe_130 : decode cX12_wouldBe 130 = .ok (.istore 5, 2) := by decide +kernel
theorem dX12_wouldBe_132 : decode cX12_wouldBe 132 = .ok (.iinc 6 1, 3) := by decide +kernel
theorem dX12_wouldBe_135 : decode cX12_wouldBe 135 = .ok (.goto (-98), 3) := by decide +kernel
theorem dX12_wouldBe_138 : decode cX12_wouldBe 138 = .ok (.aload_n 0, 1) := by decide +kernel
theorem dX12_wouldBe_139 : decode cX12_wouldBe 139 = .ok (.invokevirtual 180, 3) := by decide +kernel
theorem dX12_wouldBe_142 : decode cX12_wouldBe 142 = .ok (.iload 4, 2) := by decide +kernel
theorem dX12_wouldBe_144 : decode cX12_wouldBe 144 = .ok (.ifCond .eq 8, 3) := by decide +kernel
theorem dX12_wouldBe_147 : decode cX12_wouldBe 147 = .ok (.iload 4, 2) := by decide +kernel
theorem dX12_wouldBe_149 : decode cX12_wouldBe 149 = .ok (.goto 5, 3) := by decide +kernel
theorem dX12_wouldBe_152 : decode cX12_wouldBe 152 = .ok (.iload 5, 2) := by decide +kernel
theorem dX12_wouldBe_154 : decode cX12_wouldBe 154 = .ok (.ireturn, 1) := by decide +kernel
theorem dX12_shelf_0 : decode cX12_shelf 0 = .ok (.iload_n 1, 1) := by decide +kernel
theorem dX12_shelf_1 : decode cX12_shelf 1 = .ok (.invokestatic 413, 3) := by decide +kernel
theorem dX12_shelf_4 : decode cX12_shelf 4 = .ok (.ifCond .eq 39, 3) := by decide +kernel
theorem dX12_shelf_7 : decode cX12_shelf 7 = .ok (.iload_n 2, 1) := by decide +kernel
theorem dX12_shelf_8 : decode cX12_shelf 8 = .ok (.i2l, 1) := by decide +kernel
theorem dX12_shelf_9 : decode cX12_shelf 9 = .ok (.lconst 0, 1) := by decide +kernel
theorem dX12_shelf_10 : decode cX12_shelf 10 = .ok (.ldc2_w 267, 3) := by decide +kernel
theorem dX12_shelf_13 : decode cX12_shelf 13 = .ok (.invokestatic 58, 3) := by decide +kernel
theorem dX12_shelf_16 : decode cX12_shelf 16 = .ok (.ifCond .eq 27, 3) := by decide +kernel
theorem dX12_shelf_19 : decode cX12_shelf 19 = .ok (.iload_n 2, 1) := by decide +kernel
theorem dX12_shelf_20 : decode cX12_shelf 20 = .ok (.ifCond .ne 11, 3) := by decide +kernel
theorem dX12_shelf_23 : decode cX12_shelf 23 = .ok (.aload_n 0, 1) := by decide +kernel
theorem dX12_shelf_24 : decode cX12_shelf 24 = .ok (.iload_n 3, 1) := by decide +kernel
theorem dX12_shelf_25 : decode cX12_shelf 25 = .ok (.invokevirtual 109, 3) := by decide +kernel
theorem dX12_shelf_28 : decode cX12_shelf 28 = .ok (.ifCond .eq 15, 3) := by decide +kernel
theorem dX12_shelf_31 : decode cX12_shelf 31 = .ok (.iload_n 2, 1) := by decide +kernel
theorem dX12_shelf_32 : decode cX12_shelf 32 = .ok (.iconst 1, 1) := by decide +kernel
theorem dX12_shelf_33 : decode cX12_shelf 33 = .ok (.if_icmp .ne 12, 3) := by decide +kernel
theorem dX12_shelf_36 : decode cX12_shelf 36 = .ok (.iload_n 3, 1) := by decide +kernel
theorem dX12_shelf_37 : decode cX12_shelf 37 = .ok (.invokestatic 413, 3) := by decide +kernel
theorem dX12_shelf_40 : decode cX12_shelf 40 = .ok (.ifCond .ne 5, 3) := by decide +kernel
theorem dX12_shelf_43 : decode cX12_shelf 43 = .ok (.iconst (-1), 1) := by decide +kernel
theorem dX12_shelf_44 : decode cX12_shelf 44 = .ok (.ireturn, 1) := by decide +kernel
theorem dX12_shelf_45 : decode cX12_shelf 45 = .ok (.aload_n 0, 1) := by decide +kernel
theorem dX12_shelf_46 : decode cX12_shelf 46 = .ok (.getfield 46, 3) := by decide +kernel
theorem dX12_shelf_49 : decode cX12_shelf 49 = .ok (.iload_n 1, 1) := by decide +kernel
theorem dX12_shelf_50 : decode cX12_shelf 50 = .ok (.iload_n 2, 1) := by decide +kernel
theorem dX12_shelf_51 : decode cX12_shelf 51 = .ok (.ifCond .ne 7, 3) := by decide +kernel
theorem dX12_shelf_54 : decode cX12_shelf 54 = .ok (.iconst 1, 1) := by decide +kernel
theorem dX12_shelf_55 : decode cX12_shelf 55 = .ok (.goto 22, 3) := by decide +kernel
theorem dX12_shelf_58 : decode cX12_shelf 58 = .ok (.iload_n 2, 1) := by decide +kernel
theorem dX12_shelf_59 : decode cX12_shelf 59 = .ok (.iconst 1, 1) := by decide +kernel
theorem dX12_shelf_60 : decode cX12_shelf 60 = .ok (.if_icmp .ne 16, 3) := by decide +kernel
theorem dX12_shelf_63 : decode cX12_shelf 63 = .ok (.aload_n 0, 1) := by decide +kernel
theorem dX12_shelf_64 : decode cX12_shelf 64 = .ok (.getfield 37, 3) := by decide +kernel
theorem dX12_shelf_67 : decode cX12_shelf 67 = .ok (.iload_n 3, 1) := by decide +kernel
theorem dX12_shelf_68 : decode cX12_shelf 68 = .ok (.iaload, 1) := by decide +kernel
theorem dX12_shelf_69 : decode cX12_shelf 69 = .ok (.ifCond .lt 7, 3) := by decide +kernel
theorem dX12_shelf_72 : decode cX12_shelf 72 = .ok (.iconst 2, 1) := by decide +kernel
theorem dX12_shelf_73 : decode cX12_shelf 73 = .ok (.goto 4, 3) := by decide +kernel
theorem dX12_shelf_76 : decode cX12_shelf 76 = .ok (.iconst 0, 1) := by decide +kernel
theorem dX12_shelf_77 : decode cX12_shelf 77 = .ok (.iastore, 1) := by decide +kernel
theorem dX12_shelf_78 : decode cX12_shelf 78 = .ok (.aload_n 0, 1) := by decide +kernel
theorem dX12_shelf_79 : decode cX12_shelf 79 = .ok (.getfield 49, 3) := by decide +kernel
theorem dX12_shelf_82 : decode cX12_shelf 82 = .ok (.iload_n 1, 1) := by decide +kernel
theorem dX12_shelf_83 : decode cX12_shelf 83 = .ok (.iload_n 2, 1) := by decide +kernel
theorem dX12_shelf_84 : decode cX12_shelf 84 = .ok (.ifCond .ne 7, 3) := by decide +kernel
theorem dX12_shelf_87 : decode cX12_shelf 87 = .ok (.iload_n 3, 1) := by decide +kernel
theorem dX12_shelf_88 : decode cX12_shelf 88 = .ok (.goto 18, 3) := by decide +kernel
theorem dX12_shelf_91 : decode cX12_shelf 91 = .ok (.iload_n 2, 1) := by decide +kernel
theorem dX12_shelf_92 : decode cX12_shelf 92 = .ok (.iconst 1, 1) := by decide +kernel
theorem dX12_shelf_93 : decode cX12_shelf 93 = .ok (.if_icmp .ne 12, 3) := by decide +kernel
theorem dX12_shelf_96 : decode cX12_shelf 96 = .ok (.aload_n 0, 1) := by decide +kernel
theorem dX12_shelf_97 : decode cX12_shelf 97 = .ok (.getfield 40, 3) := by decide +kernel
theorem dX12_shelf_100 : decode cX12_shelf 100 = .ok (.iload_n 3, 1) := by decide +kernel
theorem dX12_shelf_101 : decode cX12_shelf 101 = .ok (.iaload, 1) := by decide +kernel
theorem dX12_shelf_102 : decode cX12_shelf 102 = .ok (.goto 4, 3) := by decide +kernel
theorem dX12_shelf_105 : decode cX12_shelf 105 = .ok (.iconst 0, 1) := by decide +kernel
theorem dX12_shelf_106 : decode cX12_shelf 106 = .ok (.iastore, 1) := by decide +kernel
theorem dX12_shelf_107 : decode cX12_shelf 107 = .ok (.aload_n 0, 1) := by decide +kernel
theorem dX12_shelf_108 : decode cX12_shelf 108 = .ok (.getfield 52, 3) := by decide +kernel
theorem dX12_shelf_111 : decode cX12_shelf 111 = .ok (.iload_n 1, 1) := by decide +kernel
theorem dX12_shelf_112 : decode cX12_shelf 112 = .ok (.iload_n 2, 1) := by decide +kernel
theorem dX12_shelf_113 : decode cX12_shelf 113 = .ok (.iconst 1, 1) := by decide +kernel
theorem dX12_shelf_114 : decode cX12_shelf 114 = .ok (.if_icmp .ne 12, 3) := by decide +kernel
theorem dX12_shelf_117 : decode cX12_shelf 117 = .ok (.aload_n 0, 1) := by decide +kernel
theorem dX12_shelf_118 : decode cX12_shelf 118 = .ok (.getfield 37, 3) := by decide +kernel
theorem dX12_shelf_121 : decode cX12_shelf 121 = .ok (.iload_n 3, 1) := by decide +kernel
theorem dX12_shelf_122 : decode cX12_shelf 122 = .ok (.iaload, 1) := by decide +kernel
theorem dX12_shelf_123 : decode cX12_shelf 123 = .ok (.goto 4, 3) := by decide +kernel
theorem dX12_shelf_126 : decode cX12_shelf 126 = .ok (.iconst 0, 1) := by decide +kernel
theorem dX12_shelf_127 : decode cX12_shelf 127 = .ok (.iastore, 1) := by decide +kernel
theorem dX12_shelf_128 : decode cX12_shelf 128 = .ok (.iconst 1, 1) := by decide +kernel
theorem dX12_shelf_129 : decode cX12_shelf 129 = .ok (.ireturn, 1) := by decide +kernel
theorem dX12_onShelf_0 : decode cX12_onShelf 0 = .ok (.iload_n 1, 1) := by decide +kernel
theorem dX12_onShelf_1 : decode cX12_onShelf 1 = .ok (.invokestatic 413, 3) := by decide +kernel
theorem dX12_onShelf_4 : decode cX12_onShelf 4 = .ok (.ifCond .eq 35, 3) := by decide +kernel
theorem dX12_onShelf_7 : decode cX12_onShelf 7 = .ok (.aload_n 0, 1) := by decide +kernel
theorem dX12_onShelf_8 : decode cX12_onShelf 8 = .ok (.getfield 46, 3) := by decide +kernel
theorem dX12_onShelf_11 : decode cX12_onShelf 11 = .ok (.iload_n 1, 1) := by decide +kernel
theorem dX12_onShelf_12 : decode cX12_onShelf 12 = .ok (.iaload, 1) := by decide +kernel
theorem dX12_onShelf_13 : decode cX12_onShelf 13 = .ok (.iconst 1, 1) := by decide +kernel
theorem dX12_onShelf_14 : decode cX12_onShelf 14 = .ok (.if_icmp .ne 25, 3) := by decide +kernel
theorem dX12_onShelf_17 : decode cX12_onShelf 17 = .ok (.aload_n 0, 1) := by decide +kernel
theorem dX12_onShelf_18 : decode cX12_onShelf 18 = .ok (.aload_n 0, 1) := by decide +kernel
theorem dX12_onShelf_19 : decode cX12_onShelf 19 = .ok (.getfield 49, 3) := by decide +kernel
theorem dX12_onShelf_22 : decode cX12_onShelf 22 = .ok (.iload_n 1, 1) := by decide +kernel
theorem dX12_onShelf_23 : decode cX12_onShelf 23 = .ok (.iaload, 1) := by decide +kernel
theorem dX12_onShelf_24 : decode cX12_onShelf 24 = .ok (.invokevirtual 109, 3) := by decide +kernel
theorem dX12_onShelf_27 : decode cX12_onShelf 27 = .ok (.ifCond .eq 12, 3) := by decide +kernel
theorem dX12_onShelf_30 : decode cX12_onShelf 30 = .ok (.aload_n 0, 1) := by decide +kernel
theorem dX12_onShelf_31 : decode cX12_onShelf 31 = .ok (.getfield 49, 3) := by decide +kernel
theorem dX12_onShelf_34 : decode cX12_onShelf 34 = .ok (.iload_n 1, 1) := by decide +kernel
theorem dX12_onShelf_35 : decode cX12_onShelf 35 = .ok (.iaload, 1) := by decide +kernel
theorem dX12_onShelf_36 : decode cX12_onShelf 36 = .ok (.goto 4, 3) := by decide +kernel
theorem dX12_onShelf_39 : decode cX12_onShelf 39 = .ok (.iconst (-1), 1) := by decide +kernel
theorem dX12_onShelf_40 : decode cX12_onShelf 40 = .ok (.ireturn, 1) := by decide +kernel
theorem dX12_taken_0 : decode cX12_taken 0 = .ok (.iload_n 1, 1) := by decide +kernel
theorem dX12_taken_1 : decode cX12_taken 1 = .ok (.invokestatic 413, 3) := by decide +kernel
theorem dX12_taken_4 : decode cX12_taken 4 = .ok (.ifCond .eq 29, 3) := by decide +kernel
theorem dX12_taken_7 : decode cX12_taken 7 = .ok (.iload_n 2, 1) := by decide +kernel
theorem dX12_taken_8 : decode cX12_taken 8 = .ok (.i2l, 1) := by decide +kernel
theorem dX12_taken_9 : decode cX12_taken 9 = .ok (.lconst 0, 1) := by decide +kernel
theorem dX12_taken_10 : decode cX12_taken 10 = .ok (.ldc2_w 66, 3) := by decide +kernel
theorem dX12_taken_13 : decode cX12_taken 13 = .ok (.invokestatic 58, 3) := by decide +kernel
theorem dX12_taken_16 : decode cX12_taken 16 = .ok (.ifCond .ne 19, 3) := by decide +kernel
theorem dX12_taken_19 : decode cX12_taken 19 = .ok (.iload_n 2, 1) := by decide +kernel
theorem dX12_taken_20 : decode cX12_taken 20 = .ok (.i2l, 1) := by decide +kernel
theorem dX12_taken_21 : decode cX12_taken 21 = .ok (.ldc2_w 433, 3) := by decide +kernel
theorem dX12_taken_24 : decode cX12_taken 24 = .ok (.ldc2_w 129, 3) := by decide +kernel
theorem dX12_taken_27 : decode cX12_taken 27 = .ok (.invokestatic 58, 3) := by decide +kernel
theorem dX12_taken_30 : decode cX12_taken 30 = .ok (.ifCond .ne 5, 3) := by decide +kernel
theorem dX12_taken_33 : decode cX12_taken 33 = .ok (.iconst (-1), 1) := by decide +kernel
theorem dX12_taken_34 : decode cX12_taken 34 = .ok (.ireturn, 1) := by decide +kernel
theorem dX12_taken_35 : decode cX12_taken 35 = .ok (.aload_n 0, 1) := by decide +kernel
theorem dX12_taken_36 : decode cX12_taken 36 = .ok (.iload_n 1, 1) := by decide +kernel
theorem dX12_taken_37 : decode cX12_taken 37 = .ok (.invokevirtual 435, 3) := by decide +kernel
theorem dX12_taken_40 : decode cX12_taken 40 = .ok (.istore_n 3, 1) := by decide +kernel
theorem dX12_taken_41 : decode cX12_taken 41 = .ok (.iload_n 3, 1) := by decide +kernel
theorem dX12_taken_42 : decode cX12_taken 42 = .ok (.ifCond .ge 16, 3) := by decide +kernel
theorem dX12_taken_45 : decode cX12_taken 45 = .ok (.aload_n 0, 1) := by decide +kernel
theorem dX12_taken_46 : decode cX12_taken 46 = .ok (.getfield 46, 3) := by decide +kernel
theorem dX12_taken_49 : decode cX12_taken 49 = .ok (.iload_n 1, 1) := by decide +kernel
theorem dX12_taken_50 : decode cX12_taken 50 = .ok (.iaload, 1) := by decide +kernel
theorem dX12_taken_51 : decode cX12_taken 51 = .ok (.iconst 2, 1) := by decide +kernel
theorem dX12_taken_52 : decode cX12_taken 52 = .ok (.if_icmp .ge 6, 3) := by decide +kernel
theorem dX12_taken_55 : decode cX12_taken 55 = .ok (.bipush (-11), 2) := by decide +kernel
theorem dX12_taken_57 : decode cX12_taken 57 = .ok (.ireturn, 1) := by decide +kernel
theorem dX12_taken_58 : decode cX12_taken 58 = .ok (.iload_n 3, 1) := by decide +kernel
theorem dX12_taken_59 : decode cX12_taken 59 = .ok (.ifCond .lt 30, 3) := by decide +kernel
theorem dX12_taken_62 : decode cX12_taken 62 = .ok (.iload_n 2, 1) := by decide +kernel
theorem dX12_taken_63 : decode cX12_taken 63 = .ok (.bipush 6, 2) := by decide +kernel
theorem dX12_taken_65 : decode cX12_taken 65 = .ok (.if_icmp .ge 20, 3) := by decide +kernel
theorem dX12_taken_68 : decode cX12_taken 68 = .ok (.aload_n 0, 1) := by decide +kernel
theorem dX12_taken_69 : decode cX12_taken 69 = .ok (.iload_n 3, 1) := by decide +kernel
theorem dX12_taken_70 : decode cX12_taken 70 = .ok (.iconst 0, 1) := by decide +kernel
theorem dX12_taken_71 : decode cX12_taken 71 = .ok (.invokevirtual 88, 3) := by decide +kernel
theorem dX12_taken_74 : decode cX12_taken 74 = .ok (.iload_n 2, 1) := by decide +kernel
theorem dX12_taken_75 : decode cX12_taken 75 = .ok (.invokestatic 147, 3) := by decide +kernel
theorem dX12_taken_78 : decode cX12_taken 78 = .ok (.ifCond .eq 7, 3) := by decide +kernel
theorem dX12_taken_81 : decode cX12_taken 81 = .ok (.iconst 1, 1) := by decide +kernel
theorem dX12_taken_82 : decode cX12_taken 82 = .ok (.goto 25, 3) := by decide +kernel
theorem dX12_taken_85 : decode cX12_taken 85 = .ok (.iconst 0, 1) := by decide +kernel
theorem dX12_taken_86 : decode cX12_taken 86 = .ok (.goto 21, 3) := by decide +kernel
theorem dX12_taken_89 : decode cX12_taken 89 = .ok (.iload_n 2, 1) := by decide +kernel
theorem dX12_taken_90 : decode cX12_taken 90 = .ok (.bipush 10, 2) := by decide +kernel
theorem dX12_taken_92 : decode cX12_taken 92 = .ok (.isub, 1) := by decide +kernel
theorem dX12_taken_93 : decode cX12_taken 93 = .ok (.aload_n 0, 1) := by decide +kernel
theorem dX12_taken_94 : decode cX12_taken 94 = .ok (.getfield 52, 3) := by decide +kernel
theorem dX12_taken_97 : decode cX12_taken 97 = .ok (.iload_n 1, 1) := by decide +kernel
theorem dX12_taken_98 : decode cX12_taken 98 = .ok (.iaload, 1) := by decide +kernel
theorem dX12_taken_99 : decode cX12_taken 99 = .ok (.if_icmp .ne 7, 3) := by decide +kernel
theorem dX12_taken_102 : decode cX12_taken 102 = .ok (.iconst 1, 1) := by decide +kernel
theorem dX12_taken_103 : decode cX12_taken 103 = .ok (.goto 4, 3) := by decide +kernel
theorem dX12_taken_106 : decode cX12_taken 106 = .ok (.iconst 0, 1) := by decide +kernel
theorem dX12_taken_107 : decode cX12_taken 107 = .ok (.istore 4, 2) := by decide +kernel
theorem dX12_taken_109 : decode cX12_taken 109 = .ok (.iload 4, 2) := by decide +kernel
theorem dX12_taken_111 : decode cX12_taken 111 = .ok (.ifCond .eq 12, 3) := by decide +kernel
theorem dX12_taken_114 : decode cX12_taken 114 = .ok (.aload_n 0, 1) := by decide +kernel
theorem dX12_taken_115 : decode cX12_taken 115 = .ok (.getfield 49, 3) := by decide +kernel
theorem dX12_taken_118 : decode cX12_taken 118 = .ok (.iload_n 1, 1) := by decide +kernel
theorem dX12_taken_119 : decode cX12_taken 119 = .ok (.iaload, 1) := by decide +kernel
theorem dX12_taken_120 : decode cX12_taken 120 = .ok (.goto 5, 3) := by decide +kernel
theorem dX12_taken_123 : decode cX12_taken 123 = .ok (.bipush (-13), 2) := by decide +kernel
theorem dX12_taken_125 : decode cX12_taken 125 = .ok (.ireturn, 1) := by decide +kernel
theorem dX12_runs_0 : decode cX12_runs 0 = .ok (.aload_n 0, 1) := by decide +kernel
theorem dX12_runs_1 : decode cX12_runs 1 = .ok (.getfield 438, 3) := by decide +kernel
theorem dX12_runs_4 : decode cX12_runs 4 = .ok (.ifCond .ne 32, 3) := by decide +kernel
theorem dX12_runs_7 : decode cX12_runs 7 = .ok (.aload_n 0, 1) := by decide +kernel
theorem dX12_runs_8 : decode cX12_runs 8 = .ok (.getfield 441, 3) := by decide +kernel
theorem dX12_runs_11 : decode cX12_runs 11 = .ok (.bipush 30, 2) := by decide +kernel
theorem dX12_runs_13 : decode cX12_runs 13 = .ok (.if_icmp .ge 13, 3) := by decide +kernel
theorem dX12_runs_16 : decode cX12_runs 16 = .ok (.aload_n 0, 1) := by decide +kernel
theorem dX12_runs_17 : decode cX12_runs 17 = .ok (.getfield 55, 3) := by decide +kernel
theorem dX12_runs_20 : decode cX12_runs 20 = .ok (.aload_n 0, 1) := by decide +kernel
theorem dX12_runs_21 : decode cX12_runs 21 = .ok (.getfield 441, 3) := by decide +kernel
theorem dX12_runs_24 : decode cX12_runs 24 = .ok (.iload_n 1, 1) := by decide +kernel
theorem dX12_runs_25 : decode cX12_runs 25 = .ok (.iastore, 1) := by decide +kernel
theorem dX12_runs_26 : decode cX12_runs 26 = .ok (.aload_n 0, 1) := by decide +kernel
theorem dX12_runs_27 : decode cX12_runs 27 = .ok (.dup, 1) := by decide +kernel
theorem dX12_runs_28 : decode cX12_runs 28 = .ok (.getfield 441, 3) := by decide +kernel
theorem dX12_runs_31 : decode cX12_runs 31 = .ok (.iconst 1, 1) := by decide +kernel
theorem dX12_runs_32 : decode cX12_runs 32 = .ok (.iadd, 1) := by decide +kernel
theorem dX12_runs_33 : decode cX12_runs 33 = .ok (.putfield 441, 3) := by decide +kernel
theorem dX12_runs_36 : decode cX12_runs 36 = .ok (.return_, 1) := by decide +kernel
theorem dX12_flies_0 : decode cX12_flies 0 = .ok (.aload_n 0, 1) := by decide +kernel
theorem dX12_flies_1 : decode cX12_flies 1 = .ok (.getfield 444, 3) := by decide +kernel
theorem dX12_flies_4 : decode cX12_flies 4 = .ok (.iconst 1, 1) := by decide +kernel
theorem dX12_flies_5 : decode cX12_flies 5 = .ok (.if_icmp .ne 9, 3) := by decide +kernel
theorem dX12_flies_8 : decode cX12_flies 8 = .ok (.aload_n 0, 1) := by decide +kernel
theorem dX12_flies_9 : decode cX12_flies 9 = .ok (.bipush 20, 2) := by decide +kernel
theorem dX12_flies_11 : decode cX12_flies 11 = .ok (.invokevirtual 447, 3) := by decide +kernel
theorem dX12_flies_14 : decode cX12_flies 14 = .ok (.aload_n 0, 1) := by decide +kernel
theorem dX12_flies_15 : decode cX12_flies 15 = .ok (.getfield 444, 3) := by decide +kernel
theorem dX12_flies_18 : decode cX12_flies 18 = .ok (.iconst 3, 1) := by decide +kernel
theorem dX12_flies_19 : decode cX12_flies 19 = .ok (.if_icmp .ne 9, 3) := by decide +kernel
theorem dX12_flies_22 : decode cX12_flies 22 = .ok (.aload_n 0, 1) := by decide +kernel
theorem dX12_flies_23 : decode cX12_flies 23 = .ok (.bipush 50, 2) := by decide +kernel
theorem dX12_flies_25 : decode cX12_flies 25 = .ok (.invokevirtual 447, 3) := by decide +kernel
theorem dX12_flies_28 : decode cX12_flies 28 = .ok (.aload_n 0, 1) := by decide +kernel
theorem dX12_flies_29 : decode cX12_flies 29 = .ok (.bipush 10, 2) := by decide +kernel
theorem dX12_flies_31 : decode cX12_flies 31 = .ok (.invokevirtual 447, 3) := by decide +kernel
theorem dX12_flies_34 : decode cX12_flies 34 = .ok (.iload_n 1, 1) := by decide +kernel
theorem dX12_flies_35 : decode cX12_flies 35 = .ok (.iconst 5, 1) := by decide +kernel
theorem dX12_flies_36 : decode cX12_flies 36 = .ok (.imul, 1) := by decide +kernel
theorem dX12_flies_37 : decode cX12_flies 37 = .ok (.aload_n 0, 1) := by decide +kernel
theorem dX12_flies_38 : decode cX12_flies 38 = .ok (.getfield 450, 3) := by decide +kernel
theorem dX12_flies_41 : decode cX12_flies 41 = .ok (.iadd, 1) := by decide +kernel
theorem dX12_flies_42 : decode cX12_flies 42 = .ok (.istore_n 2, 1) := by decide +kernel
theorem dX12_flies_43 : decode cX12_flies 43 = .ok (.aload_n 0, 1) := by decide +kernel
theorem dX12_flies_44 : decode cX12_flies 44 = .ok (.getfield 444, 3) := by decide +kernel
theorem dX12_flies_47 : decode cX12_flies 47 = .ok (.iconst 1, 1) := by decide +kernel
theorem dX12_flies_48 : decode cX12_flies 48 = .ok (.if_icmp .ne 9, 3) := by decide +kernel
theorem dX12_flies_51 : decode cX12_flies 51 = .ok (.iload_n 2, 1) := by decide +kernel
theorem dX12_flies_52 : decode cX12_flies 52 = .ok (.iconst 1, 1) := by decide +kernel
theorem dX12_flies_53 : decode cX12_flies 53 = .ok (.isub, 1) := by decide +kernel
theorem dX12_flies_54 : decode cX12_flies 54 = .ok (.goto 19, 3) := by decide +kernel
theorem dX12_flies_57 : decode cX12_flies 57 = .ok (.aload_n 0, 1) := by decide +kernel
theorem dX12_flies_58 : decode cX12_flies 58 = .ok (.getfield 444, 3) := by decide +kernel
theorem dX12_flies_61 : decode cX12_flies 61 = .ok (.iconst 3, 1) := by decide +kernel
theorem dX12_flies_62 : decode cX12_flies 62 = .ok (.if_icmp .ne 10, 3) := by decide +kernel
theorem dX12_flies_65 : decode cX12_flies 65 = .ok (.iload_n 2, 1) := by decide +kernel
theorem dX12_flies_66 : decode cX12_flies 66 = .ok (.bipush 6, 2) := by decide +kernel
theorem dX12_flies_68 : decode cX12_flies 68 = .ok (.ixor, 1) := by decide +kernel
theorem dX12_flies_69 : decode cX12_flies 69 = .ok (.goto 4, 3) := by decide +kernel
theorem dX12_flies_72 : decode cX12_flies 72 = .ok (.iload_n 2, 1) := by decide +kernel
theorem dX12_flies_73 : decode cX12_flies 73 = .ok (.ireturn, 1) := by decide +kernel
theorem dX12_reads_0 : decode cX12_reads 0 = .ok (.aload_n 0, 1) := by decide +kernel
theorem dX12_reads_1 : decode cX12_reads 1 = .ok (.getfield 444, 3) := by decide +kernel
theorem dX12_reads_4 : decode cX12_reads 4 = .ok (.iconst 2, 1) := by decide +kernel
theorem dX12_reads_5 : decode cX12_reads 5 = .ok (.if_icmp .eq 11, 3) := by decide +kernel
theorem dX12_reads_8 : decode cX12_reads 8 = .ok (.aload_n 0, 1) := by decide +kernel
theorem dX12_reads_9 : decode cX12_reads 9 = .ok (.getfield 444, 3) := by decide +kernel
theorem dX12_reads_12 : decode cX12_reads 12 = .ok (.iconst 3, 1) := by decide +kernel
theorem dX12_reads_13 : decode cX12_reads 13 = .ok (.if_icmp .ne 7, 3) := by decide +kernel
theorem dX12_reads_16 : decode cX12_reads 16 = .ok (.iconst 1, 1) := by decide +kernel
theorem dX12_reads_17 : decode cX12_reads 17 = .ok (.goto 4, 3) := by decide +kernel
theorem dX12_reads_20 : decode cX12_reads 20 = .ok (.iconst 0, 1) := by decide +kernel
theorem dX12_reads_21 : decode cX12_reads 21 = .ok (.istore_n 2, 1) := by decide +kernel
theorem dX12_reads_22 : decode cX12_reads 22 = .ok (.iload_n 2, 1) := by decide +kernel
theorem dX12_reads_23 : decode cX12_reads 23 = .ok (.ifCond .eq 9, 3) := by decide +kernel
theorem dX12_reads_26 : decode cX12_reads 26 = .ok (.aload_n 0, 1) := by decide +kernel
theorem dX12_reads_27 : decode cX12_reads 27 = .ok (.bipush 30, 2) := by decide +kernel
theorem dX12_reads_29 : decode cX12_reads 29 = .ok (.invokevirtual 447, 3) := by decide +kernel
theorem dX12_reads_32 : decode cX12_reads 32 = .ok (.aload_n 0, 1) := by decide +kernel
theorem dX12_reads_33 : decode cX12_reads 33 = .ok (.getfield 444, 3) := by decide +kernel
theorem dX12_reads_36 : decode cX12_reads 36 = .ok (.iconst 5, 1) := by decide +kernel
theorem dX12_reads_37 : decode cX12_reads 37 = .ok (.if_icmp .ne 9, 3) := by decide +kernel
theorem dX12_reads_40 : decode cX12_reads 40 = .ok (.aload_n 0, 1) := by decide +kernel
theorem dX12_reads_41 : decode cX12_reads 41 = .ok (.bipush 60, 2) := by decide +kernel
theorem dX12_reads_43 : decode cX12_reads 43 = .ok (.invokevirtual 447, 3) := by decide +kernel
theorem dX12_reads_46 : decode cX12_reads 46 = .ok (.aload_n 0, 1) := by decide +kernel
theorem dX12_reads_47 : decode cX12_reads 47 = .ok (.bipush 11, 2) := by decide +kernel
theorem dX12_reads_49 : decode cX12_reads 49 = .ok (.invokevirtual 447, 3) := by decide +kernel
theorem dX12_reads_52 : decode cX12_reads 52 = .ok (.aload_n 0, 1) := by decide +kernel
theorem dX12_reads_53 : decode cX12_reads 53 = .ok (.iload_n 2, 1) := by decide +kernel
theorem dX12_reads_54 : decode cX12_reads 54 = .ok (.ifCond .eq 12, 3) := by decide +kernel
theorem dX12_reads_57 : decode cX12_reads 57 = .ok (.iload_n 1, 1) := by decide +kernel
theorem dX12_reads_58 : decode cX12_reads 58 = .ok (.aload_n 0, 1) := by decide +kernel
theorem dX12_reads_59 : decode cX12_reads 59 = .ok (.getfield 450, 3) := by decide +kernel
theorem dX12_reads_62 : decode cX12_reads 62 = .ok (.iadd, 1) := by decide +kernel
theorem dX12_reads_63 : decode cX12_reads 63 = .ok (.goto 4, 3) := by decide +kernel
theorem dX12_reads_66 : decode cX12_reads 66 = .ok (.iload_n 1, 1) := by decide +kernel
theorem dX12_reads_67 : decode cX12_reads 67 = .ok (.invokevirtual 453, 3) := by decide +kernel
theorem dX12_reads_70 : decode cX12_reads 70 = .ok (.aload_n 0, 1) := by decide +kernel
theorem dX12_reads_71 : decode cX12_reads 71 = .ok (.getfield 456, 3) := by decide +kernel
theorem dX12_reads_74 : decode cX12_reads 74 = .ok (.ixor, 1) := by decide +kernel
theorem dX12_reads_75 : decode cX12_reads 75 = .ok (.istore_n 3, 1) := by decide +kernel
theorem dX12_reads_76 : decode cX12_reads 76 = .ok (.aload_n 0, 1) := by decide +kernel
theorem dX12_reads_77 : decode cX12_reads 77 = .ok (.getfield 444, 3) := by decide +kernel
theorem dX12_reads_80 : decode cX12_reads 80 = .ok (.iconst 5, 1) := by decide +kernel
theorem dX12_reads_81 : decode cX12_reads 81 = .ok (.if_icmp .ne 12, 3) := by decide +kernel
theorem dX12_reads_84 : decode cX12_reads 84 = .ok (.iload_n 3, 1) := by decide +kernel
theorem dX12_reads_85 : decode cX12_reads 85 = .ok (.aload_n 0, 1) := by decide +kernel
theorem dX12_reads_86 : decode cX12_reads 86 = .ok (.getfield 456, 3) := by decide +kernel
theorem dX12_reads_89 : decode cX12_reads 89 = .ok (.imul, 1) := by decide +kernel
theorem dX12_reads_90 : decode cX12_reads 90 = .ok (.goto 4, 3) := by decide +kernel
theorem dX12_reads_93 : decode cX12_reads 93 = .ok (.iload_n 3, 1) := by decide +kernel
theorem dX12_reads_94 : decode cX12_reads 94 = .ok (.ireturn, 1) := by decide +kernel
theorem dX12_plainParts_0 : decode cX12_plainParts 0 = .ok (.aload_n 0, 1) := by decide +kernel
theorem dX12_plainParts_1 : decode cX12_plainParts 1 = .ok (.bipush 12, 2) := by decide +kernel
theorem dX12_plainParts_3 : decode cX12_plainParts 3 = .ok (.invokevirtual 447, 3) := by decide +kernel
theorem dX12_plainParts_6 : decode cX12_plainParts 6 = .ok (.aload_n 0, 1) := by decide +kernel
theorem dX12_plainParts_7 : decode cX12_plainParts 7 = .ok (.getfield 450, 3) := by decide +kernel
theorem dX12_plainParts_10 : decode cX12_plainParts 10 = .ok (.aload_n 0, 1) := by decide +kernel
theorem dX12_plainParts_11 : decode cX12_plainParts 11 = .ok (.getfield 456, 3) := by decide +kernel
theorem dX12_plainParts_14 : decode cX12_plainParts 14 = .ok (.if_icmp .ne 10, 3) := by decide +kernel
theorem dX12_plainParts_17 : decode cX12_plainParts 17 = .ok (.aload_n 0, 1) := by decide +kernel
theorem dX12_plainParts_18 : decode cX12_plainParts 18 = .ok (.iconst 1, 1) := by decide +kernel
theorem dX12_plainParts_19 : decode cX12_plainParts 19 = .ok (.putfield 438, 3) := by decide +kernel
theorem dX12_plainParts_22 : decode cX12_plainParts 22 = .ok (.iconst 0, 1) := by decide +kernel
theorem dX12_plainParts_23 : decode cX12_plainParts 23 = .ok (.ireturn, 1) := by decide +kernel
theorem dX12_plainParts_24 : decode cX12_plainParts 24 = .ok (.iload_n 1, 1) := by decide +kernel
theorem dX12_plainParts_25 : decode cX12_plainParts 25 = .ok (.aload_n 0, 1) := by decide +kernel
theorem dX12_plainParts_26 : decode cX12_plainParts 26 = .ok (.getfield 450, 3) := by decide +kernel
theorem dX12_plainParts_29 : decode cX12_plainParts 29 = .ok (.aload_n 0, 1) := by decide +kernel
theorem dX12_plainParts_30 : decode cX12_plainParts 30 = .ok (.getfield 456, 3) := by decide +kernel
theorem dX12_plainParts_33 : decode cX12_plainParts 33 = .ok (.isub, 1) := by decide +kernel
theorem dX12_plainParts_34 : decode cX12_plainParts 34 = .ok (.irem, 1) := by decide +kernel
theorem dX12_plainParts_35 : decode cX12_plainParts 35 = .ok (.ireturn, 1) := by decide +kernel
theorem dX12_parts_0 : decode cX12_parts 0 = .ok (.aload_n 0, 1) := by decide +kernel
theorem dX12_parts_1 : decode cX12_parts 1 = .ok (.getfield 444, 3) := by decide +kernel
theorem dX12_parts_4 : decode cX12_parts 4 = .ok (.iconst 4, 1) := by decide +kernel
theorem dX12_parts_5 : decode cX12_parts 5 = .ok (.if_icmp .ne 17, 3) := by decide +kernel
theorem dX12_parts_8 : decode cX12_parts 8 = .ok (.aload_n 0, 1) := by decide +kernel
theorem dX12_parts_9 : decode cX12_parts 9 = .ok (.bipush 40, 2) := by decide +kernel
theorem dX12_parts_11 : decode cX12_parts 11 = .ok (.invokevirtual 447, 3) := by decide +kernel
theorem dX12_parts_14 : decode cX12_parts 14 = .ok (.iconst 0, 1) := by decide +kernel
theorem dX12_parts_15 : decode cX12_parts 15 = .ok (.aload_n 0, 1) := by decide +kernel
theorem dX12_parts_16 : decode cX12_parts 16 = .ok (.iload_n 1, 1) := by decide +kernel
theorem dX12_parts_17 : decode cX12_parts 17 = .ok (.invokevirtual 459, 3) := by decide +kernel
theorem dX12_parts_20 : decode cX12_parts 20 = .ok (.isub, 1) := by decide +kernel
theorem dX12_parts_21 : decode cX12_parts 21 = .ok (.ireturn, 1) := by decide +kernel
theorem dX12_parts_22 : decode cX12_parts 22 = .ok (.aload_n 0, 1) := by decide +kernel
theorem dX12_parts_23 : decode cX12_parts 23 = .ok (.getfield 444, 3) := by decide +kernel
theorem dX12_parts_26 : decode cX12_parts 26 = .ok (.iconst 5, 1) := by decide +kernel
theorem dX12_parts_27 : decode cX12_parts 27 = .ok (.if_icmp .ne 45, 3) := by decide +kernel
theorem dX12_parts_30 : decode cX12_parts 30 = .ok (.aload_n 0, 1) := by decide +kernel
theorem dX12_parts_31 : decode cX12_parts 31 = .ok (.bipush 61, 2) := by decide +kernel
theorem dX12_parts_33 : decode cX12_parts 33 = .ok (.invokevirtual 447, 3) := by decide +kernel
theorem dX12_parts_36 : decode cX12_parts 36 = .ok (.aload_n 0, 1) := by decide +kernel
theorem dX12_parts_37 : decode cX12_parts 37 = .ok (.bipush 40, 2) := by decide +kernel
theorem dX12_parts_39 : decode cX12_parts 39 = .ok (.invokevirtual 447, 3) := by decide +kernel
theorem dX12_parts_42 : decode cX12_parts 42 = .ok (.iconst 0, 1) := by decide +kernel
theorem dX12_parts_43 : decode cX12_parts 43 = .ok (.aload_n 0, 1) := by decide +kernel
theorem dX12_parts_44 : decode cX12_parts 44 = .ok (.iload_n 1, 1) := by decide +kernel
theorem dX12_parts_45 : decode cX12_parts 45 = .ok (.invokevirtual 459, 3) := by decide +kernel
theorem dX12_parts_48 : decode cX12_parts 48 = .ok (.isub, 1) := by decide +kernel
theorem dX12_parts_49 : decode cX12_parts 49 = .ok (.istore_n 2, 1) := by decide +kernel
theorem dX12_parts_50 : decode cX12_parts 50 = .ok (.aload_n 0, 1) := by decide +kernel
theorem dX12_parts_51 : decode cX12_parts 51 = .ok (.getfield 438, 3) := by decide +kernel
theorem dX12_parts_54 : decode cX12_parts 54 = .ok (.ifCond .eq 7, 3) := by decide +kernel
theorem dX12_parts_57 : decode cX12_parts 57 = .ok (.iconst 0, 1) := by decide +kernel
theorem dX12_parts_58 : decode cX12_parts 58 = .ok (.goto 13, 3) := by decide +kernel
theorem dX12_parts_61 : decode cX12_parts 61 = .ok (.iload_n 2, 1) := by decide +kernel
theorem dX12_parts_62 : decode cX12_parts 62 = .ok (.aload_n 0, 1) := by decide +kernel
theorem dX12_parts_63 : decode cX12_parts 63 = .ok (.aload_n 0, 1) := by decide +kernel
theorem dX12_parts_64 : decode cX12_parts 64 = .ok (.getfield 450, 3) := by decide +kernel
theorem dX12_parts_67 : decode cX12_parts 67 = .ok (.invokevirtual 453, 3) := by decide +kernel
theorem dX12_parts_70 : decode cX12_parts 70 = .ok (.iadd, 1) := by decide +kernel
theorem dX12_parts_71 : decode cX12_parts 71 = .ok (.ireturn, 1) := by decide +kernel
theorem dX12_parts_72 : decode cX12_parts 72 = .ok (.aload_n 0, 1) := by decide +kernel
theorem dX12_parts_73 : decode cX12_parts 73 = .ok (.iload_n 1, 1) := by decide +kernel
theorem dX12_parts_74 : decode cX12_parts 74 = .ok (.invokevirtual 459, 3) := by decide +kernel
theorem dX12_parts_77 : decode cX12_parts 77 = .ok (.ireturn, 1) := by decide +kernel
theorem dX12_calls_0 : decode cX12_calls 0 = .ok (.aload_n 0, 1) := by decide +kernel
theorem dX12_calls_1 : decode cX12_calls 1 = .ok (.getfield 444, 3) := by decide +kernel
theorem dX12_calls_4 : decode cX12_calls 4 = .ok (.iconst 3, 1) := by decide +kernel
theorem dX12_calls_5 : decode cX12_calls 5 = .ok (.if_icmp .ne 9, 3) := by decide +kernel
theorem dX12_calls_8 : decode cX12_calls 8 = .ok (.aload_n 0, 1) := by decide +kernel
theorem dX12_calls_9 : decode cX12_calls 9 = .ok (.bipush 51, 2) := by decide +kernel
theorem dX12_calls_11 : decode cX12_calls 11 = .ok (.invokevirtual 447, 3) := by decide +kernel
theorem dX12_calls_14 : decode cX12_calls 14 = .ok (.aload_n 0, 1) := by decide +kernel
theorem dX12_calls_15 : decode cX12_calls 15 = .ok (.bipush 13, 2) := by decide +kernel
theorem dX12_calls_17 : decode cX12_calls 17 = .ok (.invokevirtual 447, 3) := by decide +kernel
theorem dX12_calls_20 : decode cX12_calls 20 = .ok (.aload_n 0, 1) := by decide +kernel
theorem dX12_calls_21 : decode cX12_calls 21 = .ok (.iload_n 1, 1) := by decide +kernel
theorem dX12_calls_22 : decode cX12_calls 22 = .ok (.invokevirtual 462, 3) := by decide +kernel
theorem dX12_calls_25 : decode cX12_calls 25 = .ok (.istore_n 2, 1) := by decide +kernel
theorem dX12_calls_26 : decode cX12_calls 26 = .ok (.iload_n 2, 1) := by decide +kernel
theorem dX12_calls_27 : decode cX12_calls 27 = .ok (.aload_n 0, 1) := by decide +kernel
theorem dX12_calls_28 : decode cX12_calls 28 = .ok (.iload_n 1, 1) := by decide +kernel
theorem dX12_calls_29 : decode cX12_calls 29 = .ok (.invokevirtual 465, 3) := by decide +kernel
theorem dX12_calls_32 : decode cX12_calls 32 = .ok (.iconst 2, 1) := by decide +kernel
theorem dX12_calls_33 : decode cX12_calls 33 = .ok (.imul, 1) := by decide +kernel
theorem dX12_calls_34 : decode cX12_calls 34 = .ok (.iadd, 1) := by decide +kernel
theorem dX12_calls_35 : decode cX12_calls 35 = .ok (.istore_n 2, 1) := by decide +kernel
theorem dX12_calls_36 : decode cX12_calls 36 = .ok (.aload_n 0, 1) := by decide +kernel
theorem dX12_calls_37 : decode cX12_calls 37 = .ok (.getfield 444, 3) := by decide +kernel
theorem dX12_calls_40 : decode cX12_calls 40 = .ok (.iconst 3, 1) := by decide +kernel
theorem dX12_calls_41 : decode cX12_calls 41 = .ok (.if_icmp .ne 23, 3) := by decide +kernel
theorem dX12_calls_44 : decode cX12_calls 44 = .ok (.aload_n 0, 1) := by decide +kernel
theorem dX12_calls_45 : decode cX12_calls 45 = .ok (.getfield 438, 3) := by decide +kernel
theorem dX12_calls_48 : decode cX12_calls 48 = .ok (.ifCond .ne 16, 3) := by decide +kernel
theorem dX12_calls_51 : decode cX12_calls 51 = .ok (.iload_n 2, 1) := by decide +kernel
theorem dX12_calls_52 : decode cX12_calls 52 = .ok (.aload_n 0, 1) := by decide +kernel
theorem dX12_calls_53 : decode cX12_calls 53 = .ok (.aload_n 0, 1) := by decide +kernel
theorem dX12_calls_54 : decode cX12_calls 54 = .ok (.getfield 450, 3) := by decide +kernel
theorem dX12_calls_57 : decode cX12_calls 57 = .ok (.invokevirtual 462, 3) := by decide +kernel
theorem dX12_calls_60 : decode cX12_calls 60 = .ok (.isub, 1) := by decide +kernel
theorem dX12_calls_61 : decode cX12_calls 61 = .ok (.goto 4, 3) := by decide +kernel
theorem dX12_calls_64 : decode cX12_calls 64 = .ok (.iload_n 2, 1) := by decide +kernel
theorem dX12_calls_65 : decode cX12_calls 65 = .ok (.ireturn, 1) := by decide +kernel
theorem dX12_act_0 : decode cX12_act 0 = .ok (.aload_n 0, 1) := by decide +kernel
theorem dX12_act_1 : decode cX12_act 1 = .ok (.iconst 0, 1) := by decide +kernel
theorem dX12_act_2 : decode cX12_act 2 = .ok (.putfield 441, 3) := by decide +kernel
theorem dX12_act_5 : decode cX12_act 5 = .ok (.aload_n 0, 1) := by decide +kernel
theorem dX12_act_6 : decode cX12_act 6 = .ok (.iconst 0, 1) := by decide +kernel
theorem dX12_act_7 : decode cX12_act 7 = .ok (.putfield 438, 3) := by decide +kernel
theorem dX12_act_10 : decode cX12_act 10 = .ok (.aload_n 0, 1) := by decide +kernel
theorem dX12_act_11 : decode cX12_act 11 = .ok (.aload_n 0, 1) := by decide +kernel
theorem dX12_act_12 : decode cX12_act 12 = .ok (.iload_n 1, 1) := by decide +kernel
theorem dX12_act_13 : decode cX12_act 13 = .ok (.invokevirtual 435, 3) := by decide +kernel
theorem dX12_act_16 : decode cX12_act 16 = .ok (.putfield 450, 3) := by decide +kernel
theorem dX12_act_19 : decode cX12_act 19 = .ok (.aload_n 0, 1) := by decide +kernel
theorem dX12_act_20 : decode cX12_act 20 = .ok (.getfield 450, 3) := by decide +kernel
theorem dX12_act_23 : decode cX12_act 23 = .ok (.ifCond .lt 15, 3) := by decide +kernel
theorem dX12_act_26 : decode cX12_act 26 = .ok (.iload_n 2, 1) := by decide +kernel
theorem dX12_act_27 : decode cX12_act 27 = .ok (.i2l, 1) := by decide +kernel
theorem dX12_act_28 : decode cX12_act 28 = .ok (.lconst 0, 1) := by decide +kernel
theorem dX12_act_29 : decode cX12_act 29 = .ok (.ldc2_w 238, 3) := by decide +kernel
theorem dX12_act_32 : decode cX12_act 32 = .ok (.invokestatic 58, 3) := by decide +kernel
theorem dX12_act_35 : decode cX12_act 35 = .ok (.ifCond .ne 5, 3) := by decide +kernel
theorem dX12_act_38 : decode cX12_act 38 = .ok (.iconst 0, 1) := by decide +kernel
theorem dX12_act_39 : decode cX12_act 39 = .ok (.ireturn, 1) := by decide +kernel
theorem dX12_act_40 : decode cX12_act 40 = .ok (.aload_n 0, 1) := by decide +kernel
theorem dX12_act_41 : decode cX12_act 41 = .ok (.aload_n 0, 1) := by decide +kernel
theorem dX12_act_42 : decode cX12_act 42 = .ok (.aload_n 0, 1) := by decide +kernel
theorem dX12_act_43 : decode cX12_act 43 = .ok (.getfield 450, 3) := by decide +kernel
theorem dX12_act_46 : decode cX12_act 46 = .ok (.iconst 3, 1) := by decide +kernel
theorem dX12_act_47 : decode cX12_act 47 = .ok (.invokevirtual 88, 3) := by decide +kernel
theorem dX12_act_50 : decode cX12_act 50 = .ok (.putfield 456, 3) := by decide +kernel
theorem dX12_act_53 : decode cX12_act 53 = .ok (.aload_n 0, 1) := by decide +kernel
theorem dX12_act_54 : decode cX12_act 54 = .ok (.aload_n 0, 1) := by decide +kernel
theorem dX12_act_55 : decode cX12_act 55 = .ok (.aload_n 0, 1) := by decide +kernel
theorem dX12_act_56 : decode cX12_act 56 = .ok (.getfield 450, 3) := by decide +kernel
theorem dX12_act_59 : decode cX12_act 59 = .ok (.iconst 0, 1) := by decide +kernel
theorem dX12_act_60 : decode cX12_act 60 = .ok (.invokevirtual 88, 3) := by decide +kernel
theorem dX12_act_63 : decode cX12_act 63 = .ok (.putfield 444, 3) := by decide +kernel
theorem dX12_act_66 : decode cX12_act 66 = .ok (.iload_n 2, 1) := by decide +kernel
theorem dX12_act_67 : decode cX12_act 67 = .ok (.ifCond .ne 11, 3) := by decide +kernel
theorem dX12_act_70 : decode cX12_act 70 = .ok (.aload_n 0, 1) := by decide +kernel
theorem dX12_act_71 : decode cX12_act 71 = .ok (.iload_n 3, 1) := by decide +kernel
theorem dX12_act_72 : decode cX12_act 72 = .ok (.invokevirtual 453, 3) := by decide +kernel
theorem dX12_act_75 : decode cX12_act 75 = .ok (.goto 34, 3) := by decide +kernel
theorem dX12_act_78 : decode cX12_act 78 = .ok (.iload_n 2, 1) := by decide +kernel
theorem dX12_act_79 : decode cX12_act 79 = .ok (.iconst 1, 1) := by decide +kernel
theorem dX12_act_80 : decode cX12_act 80 = .ok (.if_icmp .ne 11, 3) := by decide +kernel
theorem dX12_act_83 : decode cX12_act 83 = .ok (.aload_n 0, 1) := by decide +kernel
theorem dX12_act_84 : decode cX12_act 84 = .ok (.iload_n 3, 1) := by decide +kernel
theorem dX12_act_85 : decode cX12_act 85 = .ok (.invokevirtual 462, 3) := by decide +kernel
theorem dX12_act_88 : decode cX12_act 88 = .ok (.goto 21, 3) := by decide +kernel
theorem dX12_act_91 : decode cX12_act 91 = .ok (.iload_n 2, 1) := by decide +kernel
theorem dX12_act_92 : decode cX12_act 92 = .ok (.iconst 2, 1) := by decide +kernel
theorem dX12_act_93 : decode cX12_act 93 = .ok (.if_icmp .ne 11, 3) := by decide +kernel
theorem dX12_act_96 : decode cX12_act 96 = .ok (.aload_n 0, 1) := by decide +kernel
theorem dX12_act_97 : decode cX12_act 97 = .ok (.iload_n 3, 1) := by decide +kernel
theorem dX12_act_98 : decode cX12_act 98 = .ok (.invokevirtual 465, 3) := by decide +kernel
theorem dX12_act_101 : decode cX12_act 101 = .ok (.goto 8, 3) := by decide +kernel
theorem dX12_act_104 : decode cX12_act 104 = .ok (.aload_n 0, 1) := by decide +kernel
theorem dX12_act_105 : decode cX12_act 105 = .ok (.iload_n 3, 1) := by decide +kernel
theorem dX12_act_106 : decode cX12_act 106 = .ok (.invokevirtual 468, 3) := by decide +kernel
theorem dX12_act_109 : decode cX12_act 109 = .ok (.istore 4, 2) := by decide +kernel
theorem dX12_act_111 : decode cX12_act 111 = .ok (.aload_n 0, 1) := by decide +kernel
theorem dX12_act_112 : decode cX12_act 112 = .ok (.getfield 438, 3) := by decide +kernel
theorem dX12_act_115 : decode cX12_act 115 = .ok (.ifCond .eq 8, 3) := by decide +kernel
theorem dX12_act_118 : decode cX12_act 118 = .ok (.bipush (-15), 2) := by decide +kernel
theorem dX12_act_120 : decode cX12_act 120 = .ok (.goto 5, 3) := by decide +kernel
theorem dX12_act_123 : decode cX12_act 123 = .ok (.iload 4, 2) := by decide +kernel
theorem dX12_act_125 : decode cX12_act 125 = .ok (.ireturn, 1) := by decide +kernel
theorem dX12_traced_0 : decode cX12_traced 0 = .ok (.aload_n 0, 1) := by decide +kernel
theorem dX12_traced_1 : decode cX12_traced 1 = .ok (.getfield 441, 3) := by decide +kernel
theorem dX12_traced_4 : decode cX12_traced 4 = .ok (.bipush 30, 2) := by decide +kernel
theorem dX12_traced_6 : decode cX12_traced 6 = .ok (.if_icmp .ge 10, 3) := by decide +kernel
theorem dX12_traced_9 : decode cX12_traced 9 = .ok (.aload_n 0, 1) := by decide +kernel
theorem dX12_traced_10 : decode cX12_traced 10 = .ok (.getfield 441, 3) := by decide +kernel
theorem dX12_traced_13 : decode cX12_traced 13 = .ok (.goto 5, 3) := by decide +kernel
theorem dX12_traced_16 : decode cX12_traced 16 = .ok (.bipush 30, 2) := by decide +kernel
theorem dX12_traced_18 : decode cX12_traced 18 = .ok (.ireturn, 1) := by decide +kernel
theorem dX12_trace_0 : decode cX12_trace 0 = .ok (.iload_n 1, 1) := by decide +kernel
theorem dX12_trace_1 : decode cX12_trace 1 = .ok (.i2l, 1) := by decide +kernel
theorem dX12_trace_2 : decode cX12_trace 2 = .ok (.lconst 0, 1) := by decide +kernel
theorem dX12_trace_3 : decode cX12_trace 3 = .ok (.aload_n 0, 1) := by decide +kernel
theorem dX12_trace_4 : decode cX12_trace 4 = .ok (.invokevirtual 471, 3) := by decide +kernel
theorem dX12_trace_7 : decode cX12_trace 7 = .ok (.iconst 1, 1) := by decide +kernel
theorem dX12_trace_8 : decode cX12_trace 8 = .ok (.isub, 1) := by decide +kernel
theorem dX12_trace_9 : decode cX12_trace 9 = .ok (.i2l, 1) := by decide +kernel
theorem dX12_trace_10 : decode cX12_trace 10 = .ok (.invokestatic 58, 3) := by decide +kernel
theorem dX12_trace_13 : decode cX12_trace 13 = .ok (.ifCond .eq 12, 3) := by decide +kernel
theorem dX12_trace_16 : decode cX12_trace 16 = .ok (.aload_n 0, 1) := by decide +kernel
theorem dX12_trace_17 : decode cX12_trace 17 = .ok (.getfield 55, 3) := by decide +kernel
theorem dX12_trace_20 : decode cX12_trace 20 = .ok (.iload_n 1, 1) := by decide +kernel
theorem dX12_trace_21 : decode cX12_trace 21 = .ok (.iaload, 1) := by decide +kernel
theorem dX12_trace_22 : decode cX12_trace 22 = .ok (.goto 5, 3) := by decide +kernel
theorem dX12_trace_25 : decode cX12_trace 25 = .ok (.bipush (-3), 2) := by decide +kernel
theorem dX12_trace_27 : decode cX12_trace 27 = .ok (.ireturn, 1) := by decide +kernel
theorem dX12_many_0 : decode cX12_many 0 = .ok (.iload_n 1, 1) := by decide +kernel
theorem dX12_many_1 : decode cX12_many 1 = .ok (.tableswitch 88 0 6 #[43, 50, 57, 66, 73, 78, 83], 43) := by decide +kernel
theorem dX12_many_44 : decode cX12_many 44 = .ok (.aload_n 0, 1) := by decide +kernel
theorem dX12_many_45 : decode cX12_many 45 = .ok (.getfield 7, 3) := by decide +kernel
theorem dX12_many_48 : decode cX12_many 48 = .ok (.iconst 0, 1) := by decide +kernel
theorem dX12_many_49 : decode cX12_many 49 = .ok (.iaload, 1) := by decide +kernel
theorem dX12_many_50 : decode cX12_many 50 = .ok (.ireturn, 1) := by decide +kernel
theorem dX12_many_51 : decode cX12_many 51 = .ok (.aload_n 0, 1) := by decide +kernel
theorem dX12_many_52 : decode cX12_many 52 = .ok (.getfield 7, 3) := by decide +kernel
theorem dX12_many_55 : decode cX12_many 55 = .ok (.iconst 1, 1) := by decide +kernel
theorem dX12_many_56 : decode cX12_many 56 = .ok (.iaload, 1) := by decide +kernel
theorem dX12_many_57 : decode cX12_many 57 = .ok (.ireturn, 1) := by decide +kernel
theorem dX12_many_58 : decode cX12_many 58 = .ok (.aload_n 0, 1) := by decide +kernel
theorem dX12_many_59 : decode cX12_many 59 = .ok (.iconst 5, 1) := by decide +kernel
theorem dX12_many_60 : decode cX12_many 60 = .ok (.invokevirtual 137, 3) := by decide +kernel
theorem dX12_many_63 : decode cX12_many 63 = .ok (.invokestatic 474, 3) := by decide +kernel
theorem dX12_many_66 : decode cX12_many 66 = .ok (.ireturn, 1) := by decide +kernel
theorem dX12_many_67 : decode cX12_many 67 = .ok (.aload_n 0, 1) := by decide +kernel
theorem dX12_many_68 : decode cX12_many 68 = .ok (.getfield 7, 3) := by decide +kernel
theorem dX12_many_71 : decode cX12_many 71 = .ok (.iconst 5, 1) := by decide +kernel
theorem dX12_many_72 : decode cX12_many 72 = .ok (.iaload, 1) := by decide +kernel
theorem dX12_many_73 : decode cX12_many 73 = .ok (.ireturn, 1) := by decide +kernel
theorem dX12_many_74 : decode cX12_many 74 = .ok (.aload_n 0, 1) := by decide +kernel
theorem dX12_many_75 : decode cX12_many 75 = .ok (.getfield 280, 3) := by decide +kernel
theorem dX12_many_78 : decode cX12_many 78 = .ok (.ireturn, 1) := by decide +kernel
theorem dX12_many_79 : decode cX12_many 79 = .ok (.aload_n 0, 1) := by decide +kernel
theorem dX12_many_80 : decode cX12_many 80 = .ok (.getfield 291, 3) := by decide +kernel
theorem dX12_many_83 : decode cX12_many 83 = .ok (.ireturn, 1) := by decide +kernel
theorem dX12_many_84 : decode cX12_many 84 = .ok (.aload_n 0, 1) := by decide +kernel
theorem dX12_many_85 : decode cX12_many 85 = .ok (.invokevirtual 471, 3) := by decide +kernel
theorem dX12_many_88 : decode cX12_many 88 = .ok (.ireturn, 1) := by decide +kernel
theorem dX12_many_89 : decode cX12_many 89 = .ok (.iconst (-1), 1) := by decide +kernel
theorem dX12_many_90 : decode cX12_many 90 = .ok (.ireturn, 1) := by decide +kernel
theorem dX12_keep_0 : decode cX12_keep 0 = .ok (.iconst 0, 1) := by decide +kernel
theorem dX12_keep_1 : decode cX12_keep 1 = .ok (.istore_n 1, 1) := by decide +kernel
theorem dX12_keep_2 : decode cX12_keep 2 = .ok (.iload_n 1, 1) := by decide +kernel
theorem dX12_keep_3 : decode cX12_keep 3 = .ok (.sipush 319, 3) := by decide +kernel
theorem dX12_keep_6 : decode cX12_keep 6 = .ok (.if_icmp .ge 21, 3) := by decide +kernel
theorem dX12_keep_9 : decode cX12_keep 9 = .ok (.aload_n 0, 1) := by decide +kernel
theorem dX12_keep_10 : decode cX12_keep 10 = .ok (.getfield 13, 3) := by decide +kernel
theorem dX12_keep_13 : decode cX12_keep 13 = .ok (.iload_n 1, 1) := by decide +kernel
theorem dX12_keep_14 : decode cX12_keep 14 = .ok (.aload_n 0, 1) := by decide +kernel
theorem dX12_keep_15 : decode cX12_keep 15 = .ok (.getfield 7, 3) := by decide +kernel
theorem dX12_keep_18 : decode cX12_keep 18 = .ok (.iload_n 1, 1) := by decide +kernel
theorem dX12_keep_19 : decode cX12_keep 19 = .ok (.iaload, 1) := by decide +kernel
theorem dX12_keep_20 : decode cX12_keep 20 = .ok (.iastore, 1) := by decide +kernel
theorem dX12_keep_21 : decode cX12_keep 21 = .ok (.iinc 1 1, 3) := by decide +kernel
theorem dX12_keep_24 : decode cX12_keep 24 = .ok (.goto (-22), 3) := by decide +kernel
theorem dX12_keep_27 : decode cX12_keep 27 = .ok (.aload_n 0, 1) := by decide +kernel
theorem dX12_keep_28 : decode cX12_keep 28 = .ok (.iconst 1, 1) := by decide +kernel
theorem dX12_keep_29 : decode cX12_keep 29 = .ok (.putfield 477, 3) := by decide +kernel
theorem dX12_keep_32 : decode cX12_keep 32 = .ok (.iconst 1, 1) := by decide +kernel
theorem dX12_keep_33 : decode cX12_keep 33 = .ok (.ireturn, 1) := by decide +kernel
theorem dX12_again_0 : decode cX12_again 0 = .ok (.aload_n 0, 1) := by decide +kernel
theorem dX12_again_1 : decode cX12_again 1 = .ok (.getfield 477, 3) := by decide +kernel
theorem dX12_again_4 : decode cX12_again 4 = .ok (.ifCond .ne 6, 3) := by decide +kernel
theorem dX12_again_7 : decode cX12_again 7 = .ok (.bipush (-3), 2) := by decide +kernel
theorem dX12_again_9 : decode cX12_again 9 = .ok (.ireturn, 1) := by decide +kernel
theorem dX12_again_10 : decode cX12_again 10 = .ok (.iconst 0, 1) := by decide +kernel
theorem dX12_again_11 : decode cX12_again 11 = .ok (.istore_n 1, 1) := by decide +kernel
theorem dX12_again_12 : decode cX12_again 12 = .ok (.iload_n 1, 1) := by decide +kernel
theorem dX12_again_13 : decode cX12_again 13 = .ok (.sipush 319, 3) := by decide +kernel
theorem dX12_again_16 : decode cX12_again 16 = .ok (.if_icmp .ge 21, 3) := by decide +kernel
theorem dX12_again_19 : decode cX12_again 19 = .ok (.aload_n 0, 1) := by decide +kernel
theorem dX12_again_20 : decode cX12_again 20 = .ok (.getfield 7, 3) := by decide +kernel
theorem dX12_again_23 : decode cX12_again 23 = .ok (.iload_n 1, 1) := by decide +kernel
theorem dX12_again_24 : decode cX12_again 24 = .ok (.aload_n 0, 1) := by decide +kernel
theorem dX12_again_25 : decode cX12_again 25 = .ok (.getfield 13, 3) := by decide +kernel
theorem dX12_again_28 : decode cX12_again 28 = .ok (.iload_n 1, 1) := by decide +kernel
theorem dX12_again_29 : decode cX12_again 29 = .ok (.iaload, 1) := by decide +kernel
theorem dX12_again_30 : decode cX12_again 30 = .ok (.iastore, 1) := by decide +kernel
theorem dX12_again_31 : decode cX12_again 31 = .ok (.iinc 1 1, 3) := by decide +kernel
theorem dX12_again_34 : decode cX12_again 34 = .ok (.goto (-22), 3) := by decide +kernel
theorem dX12_again_37 : decode cX12_again 37 = .ok (.aload_n 0, 1) := by decide +kernel
theorem dX12_again_38 : decode cX12_again 38 = .ok (.getfield 7, 3) := by decide +kernel
theorem dX12_again_41 : decode cX12_again 41 = .ok (.iconst 0, 1) := by decide +kernel
theorem dX12_again_42 : decode cX12_again 42 = .ok (.iaload, 1) := by decide +kernel
theorem dX12_again_43 : decode cX12_again 43 = .ok (.ireturn, 1) := by decide +kernel
