theorem dX9_at_21 : decode cX9_at 21 = .ok (.iconst 5, 1) := by decide +kernel
theorem dX9_at_22 : decode cX9_at 22 = .ok (.iload_n 1, 1) := by decide +kernel
theorem dX9_at_23 : decode cX9_at 23 = .ok (.imul, 1) := by decide +kernel
theorem dX9_at_24 : decode cX9_at 24 = .ok (.iload_n 2, 1) := by decide +kernel
theorem dX9_at_25 : decode cX9_at 25 = .ok (.iadd, 1) := by decide +kernel
theorem dX9_at_26 : decode cX9_at 26 = .ok (.iaload, 1) := by decide +kernel
theorem dX9_at_27 : decode cX9_at 27 = .ok (.imul, 1) := by decide +kernel
theorem dX9_at_28 : decode cX9_at 28 = .ok (.iload_n 3, 1) := by decide +kernel
theorem dX9_at_29 : decode cX9_at 29 = .ok (.iadd, 1) := by decide +kernel
theorem dX9_at_30 : decode cX9_at 30 = .ok (.iaload, 1) := by decide +kernel
theorem dX9_at_31 : decode cX9_at 31 = .ok (.ireturn, 1) := by decide +kernel
theorem dX9_at_32 : decode cX9_at 32 = .ok (.aload_n 0, 1) := by decide +kernel
theorem dX9_at_33 : decode cX9_at 33 = .ok (.getfield 41, 3) := by decide +kernel
theorem dX9_at_36 : decode cX9_at 36 = .ok (.iload_n 1, 1) := by decide +kernel
theorem dX9_at_37 : decode cX9_at 37 = .ok (.dup2, 1) := by decide +kernel
theorem dX9_at_38 : decode cX9_at 38 = .ok (.iaload, 1) := by decide +kernel
theorem dX9_at_39 : decode cX9_at 39 = .ok (.iconst 1, 1) := by decide +kernel
theorem dX9_at_40 : decode cX9_at 40 = .ok (.iadd, 1) := by decide +kernel
theorem dX9_at_41 : decode cX9_at 41 = .ok (.iastore, 1) := by decide +kernel
theorem dX9_at_42 : decode cX9_at 42 = .ok (.iload_n 2, 1) := by decide +kernel
theorem dX9_at_43 : decode cX9_at 43 = .ok (.ifCond .eq 8, 3) := by decide +kernel
theorem dX9_at_46 : decode cX9_at 46 = .ok (.iload_n 2, 1) := by decide +kernel
theorem dX9_at_47 : decode cX9_at 47 = .ok (.iconst 2, 1) := by decide +kernel
theorem dX9_at_48 : decode cX9_at 48 = .ok (.if_icmp .ne 7, 3) := by decide +kernel
theorem dX9_at_51 : decode cX9_at 51 = .ok (.iconst 1, 1) := by decide +kernel
theorem dX9_at_52 : decode cX9_at 52 = .ok (.goto 26, 3) := by decide +kernel
theorem dX9_at_55 : decode cX9_at 55 = .ok (.iload_n 2, 1) := by decide +kernel
theorem dX9_at_56 : decode cX9_at 56 = .ok (.iconst 1, 1) := by decide +kernel
theorem dX9_at_57 : decode cX9_at 57 = .ok (.if_icmp .ne 8, 3) := by decide +kernel
theorem dX9_at_60 : decode cX9_at 60 = .ok (.bipush 60, 2) := by decide +kernel
theorem dX9_at_62 : decode cX9_at 62 = .ok (.goto 16, 3) := by decide +kernel
theorem dX9_at_65 : decode cX9_at 65 = .ok (.iload_n 2, 1) := by decide +kernel
theorem dX9_at_66 : decode cX9_at 66 = .ok (.iconst 3, 1) := by decide +kernel
theorem dX9_at_67 : decode cX9_at 67 = .ok (.if_icmp .ne 10, 3) := by decide +kernel
theorem dX9_at_70 : decode cX9_at 70 = .ok (.fconst 1, 1) := by decide +kernel
theorem dX9_at_71 : decode cX9_at 71 = .ok (.invokestatic 74, 3) := by decide +kernel
theorem dX9_at_74 : decode cX9_at 74 = .ok (.goto 4, 3) := by decide +kernel
theorem dX9_at_77 : decode cX9_at 77 = .ok (.iconst 0, 1) := by decide +kernel
theorem dX9_at_78 : decode cX9_at 78 = .ok (.ireturn, 1) := by decide +kernel
theorem dX9_sounds_0 : decode cX9_sounds 0 = .ok (.aload_n 0, 1) := by decide +kernel
theorem dX9_sounds_1 : decode cX9_sounds 1 = .ok (.iload_n 1, 1) := by decide +kernel
theorem dX9_sounds_2 : decode cX9_sounds 2 = .ok (.iconst 0, 1) := by decide +kernel
theorem dX9_sounds_3 : decode cX9_sounds 3 = .ok (.iload_n 2, 1) := by decide +kernel
theorem dX9_sounds_4 : decode cX9_sounds 4 = .ok (.invokevirtual 120, 3) := by decide +kernel
theorem dX9_sounds_7 : decode cX9_sounds 7 = .ok (.istore_n 3, 1) := by decide +kernel
theorem dX9_sounds_8 : decode cX9_sounds 8 = .ok (.aload_n 0, 1) := by decide +kernel
theorem dX9_sounds_9 : decode cX9_sounds 9 = .ok (.iload_n 1, 1) := by decide +kernel
theorem dX9_sounds_10 : decode cX9_sounds 10 = .ok (.iconst 1, 1) := by decide +kernel
theorem dX9_sounds_11 : decode cX9_sounds 11 = .ok (.iload_n 2, 1) := by decide +kernel
theorem dX9_sounds_12 : decode cX9_sounds 12 = .ok (.invokevirtual 120, 3) := by decide +kernel
theorem dX9_sounds_15 : decode cX9_sounds 15 = .ok (.istore 4, 2) := by decide +kernel
theorem dX9_sounds_17 : decode cX9_sounds 17 = .ok (.aload_n 0, 1) := by decide +kernel
theorem dX9_sounds_18 : decode cX9_sounds 18 = .ok (.iload_n 1, 1) := by decide +kernel
theorem dX9_sounds_19 : decode cX9_sounds 19 = .ok (.iconst 2, 1) := by decide +kernel
theorem dX9_sounds_20 : decode cX9_sounds 20 = .ok (.iload_n 2, 1) := by decide +kernel
theorem dX9_sounds_21 : decode cX9_sounds 21 = .ok (.invokevirtual 120, 3) := by decide +kernel
theorem dX9_sounds_24 : decode cX9_sounds 24 = .ok (.istore 5, 2) := by decide +kernel
theorem dX9_sounds_26 : decode cX9_sounds 26 = .ok (.aload_n 0, 1) := by decide +kernel
theorem dX9_sounds_27 : decode cX9_sounds 27 = .ok (.iload_n 1, 1) := by decide +kernel
theorem dX9_sounds_28 : decode cX9_sounds 28 = .ok (.iconst 3, 1) := by decide +kernel
theorem dX9_sounds_29 : decode cX9_sounds 29 = .ok (.iload_n 2, 1) := by decide +kernel
theorem dX9_sounds_30 : decode cX9_sounds 30 = .ok (.invokevirtual 120, 3) := by decide +kernel
theorem dX9_sounds_33 : decode cX9_sounds 33 = .ok (.istore 6, 2) := by decide +kernel
theorem dX9_sounds_35 : decode cX9_sounds 35 = .ok (.iload 4, 2) := by decide +kernel
theorem dX9_sounds_37 : decode cX9_sounds 37 = .ok (.aload_n 0, 1) := by decide +kernel
theorem dX9_sounds_38 : decode cX9_sounds 38 = .ok (.iload_n 1, 1) := by decide +kernel
theorem dX9_sounds_39 : decode cX9_sounds 39 = .ok (.iconst 4, 1) := by decide +kernel
theorem dX9_sounds_40 : decode cX9_sounds 40 = .ok (.iload_n 2, 1) := by decide +kernel
theorem dX9_sounds_41 : decode cX9_sounds 41 = .ok (.invokevirtual 120, 3) := by decide +kernel
theorem dX9_sounds_44 : decode cX9_sounds 44 = .ok (.iadd, 1) := by decide +kernel
theorem dX9_sounds_45 : decode cX9_sounds 45 = .ok (.istore 7, 2) := by decide +kernel
theorem dX9_sounds_47 : decode cX9_sounds 47 = .ok (.aload_n 0, 1) := by decide +kernel
theorem dX9_sounds_48 : decode cX9_sounds 48 = .ok (.getfield 38, 3) := by decide +kernel
theorem dX9_sounds_51 : decode cX9_sounds 51 = .ok (.iload_n 1, 1) := by decide +kernel
theorem dX9_sounds_52 : decode cX9_sounds 52 = .ok (.dup2, 1) := by decide +kernel
theorem dX9_sounds_53 : decode cX9_sounds 53 = .ok (.iaload, 1) := by decide +kernel
theorem dX9_sounds_54 : decode cX9_sounds 54 = .ok (.iconst 1, 1) := by decide +kernel
theorem dX9_sounds_55 : decode cX9_sounds 55 = .ok (.iadd, 1) := by decide +kernel
theorem dX9_sounds_56 : decode cX9_sounds 56 = .ok (.iastore, 1) := by decide +kernel
theorem dX9_sounds_57 : decode cX9_sounds 57 = .ok (.iload_n 3, 1) := by decide +kernel
theorem dX9_sounds_58 : decode cX9_sounds 58 = .ok (.ifCond .ne 5, 3) := by decide +kernel
theorem dX9_sounds_61 : decode cX9_sounds 61 = .ok (.iconst 0, 1) := by decide +kernel
theorem dX9_sounds_62 : decode cX9_sounds 62 = .ok (.ireturn, 1) := by decide +kernel
theorem dX9_sounds_63 : decode cX9_sounds 63 = .ok (.aload_n 0, 1) := by decide +kernel
theorem dX9_sounds_64 : decode cX9_sounds 64 = .ok (.getfield 44, 3) := by decide +kernel
theorem dX9_sounds_67 : decode cX9_sounds 67 = .ok (.iload_n 1, 1) := by decide +kernel
theorem dX9_sounds_68 : decode cX9_sounds 68 = .ok (.dup2, 1) := by decide +kernel
theorem dX9_sounds_69 : decode cX9_sounds 69 = .ok (.laload, 1) := by decide +kernel
theorem dX9_sounds_70 : decode cX9_sounds 70 = .ok (.iload 7, 2) := by decide +kernel
theorem dX9_sounds_72 : decode cX9_sounds 72 = .ok (.i2l, 1) := by decide +kernel
theorem dX9_sounds_73 : decode cX9_sounds 73 = .ok (.iload 5, 2) := by decide +kernel
theorem dX9_sounds_75 : decode cX9_sounds 75 = .ok (.i2l, 1) := by decide +kernel
theorem dX9_sounds_76 : decode cX9_sounds 76 = .ok (.lmul, 1) := by decide +kernel
theorem dX9_sounds_77 : decode cX9_sounds 77 = .ok (.ladd, 1) := by decide +kernel
theorem dX9_sounds_78 : decode cX9_sounds 78 = .ok (.lastore, 1) := by decide +kernel
theorem dX9_sounds_79 : decode cX9_sounds 79 = .ok (.aload_n 0, 1) := by decide +kernel
theorem dX9_sounds_80 : decode cX9_sounds 80 = .ok (.getfield 35, 3) := by decide +kernel
theorem dX9_sounds_83 : decode cX9_sounds 83 = .ok (.iload_n 1, 1) := by decide +kernel
theorem dX9_sounds_84 : decode cX9_sounds 84 = .ok (.iaload, 1) := by decide +kernel
theorem dX9_sounds_85 : decode cX9_sounds 85 = .ok (.ifCond .eq 14, 3) := by decide +kernel
theorem dX9_sounds_88 : decode cX9_sounds 88 = .ok (.iload 7, 2) := by decide +kernel
theorem dX9_sounds_90 : decode cX9_sounds 90 = .ok (.aload_n 0, 1) := by decide +kernel
theorem dX9_sounds_91 : decode cX9_sounds 91 = .ok (.getfield 48, 3) := by decide +kernel
theorem dX9_sounds_94 : decode cX9_sounds 94 = .ok (.iload_n 1, 1) := by decide +kernel
theorem dX9_sounds_95 : decode cX9_sounds 95 = .ok (.iaload, 1) := by decide +kernel
theorem dX9_sounds_96 : decode cX9_sounds 96 = .ok (.if_icmp .le 11, 3) := by decide +kernel
theorem dX9_sounds_99 : decode cX9_sounds 99 = .ok (.aload_n 0, 1) := by decide +kernel
theorem dX9_sounds_100 : decode cX9_sounds 100 = .ok (.getfield 48, 3) := by decide +kernel
theorem dX9_sounds_103 : decode cX9_sounds 103 = .ok (.iload_n 1, 1) := by decide +kernel
theorem dX9_sounds_104 : decode cX9_sounds 104 = .ok (.iload 7, 2) := by decide +kernel
theorem dX9_sounds_106 : decode cX9_sounds 106 = .ok (.iastore, 1) := by decide +kernel
theorem dX9_sounds_107 : decode cX9_sounds 107 = .ok (.aload_n 0, 1) := by decide +kernel
theorem dX9_sounds_108 : decode cX9_sounds 108 = .ok (.getfield 35, 3) := by decide +kernel
theorem dX9_sounds_111 : decode cX9_sounds 111 = .ok (.iload_n 1, 1) := by decide +kernel
theorem dX9_sounds_112 : decode cX9_sounds 112 = .ok (.iaload, 1) := by decide +kernel
theorem dX9_sounds_113 : decode cX9_sounds 113 = .ok (.ifCond .eq 21, 3) := by decide +kernel
theorem dX9_sounds_116 : decode cX9_sounds 116 = .ok (.iload 6, 2) := by decide +kernel
theorem dX9_sounds_118 : decode cX9_sounds 118 = .ok (.invokestatic 83, 3) := by decide +kernel
theorem dX9_sounds_121 : decode cX9_sounds 121 = .ok (.aload_n 0, 1) := by decide +kernel
theorem dX9_sounds_122 : decode cX9_sounds 122 = .ok (.getfield 51, 3) := by decide +kernel
theorem dX9_sounds_125 : decode cX9_sounds 125 = .ok (.iload_n 1, 1) := by decide +kernel
theorem dX9_sounds_126 : decode cX9_sounds 126 = .ok (.iaload, 1) := by decide +kernel
theorem dX9_sounds_127 : decode cX9_sounds 127 = .ok (.invokestatic 83, 3) := by decide +kernel
theorem dX9_sounds_130 : decode cX9_sounds 130 = .ok (.fcmp .l, 1) := by decide +kernel
theorem dX9_sounds_131 : decode cX9_sounds 131 = .ok (.ifCond .le 11, 3) := by decide +kernel
theorem dX9_sounds_134 : decode cX9_sounds 134 = .ok (.aload_n 0, 1) := by decide +kernel
theorem dX9_sounds_135 : decode cX9_sounds 135 = .ok (.getfield 51, 3) := by decide +kernel
theorem dX9_sounds_138 : decode cX9_sounds 138 = .ok (.iload_n 1, 1) := by decide +kernel
theorem dX9_sounds_139 : decode cX9_sounds 139 = .ok (.iload 6, 2) := by decide +kernel
theorem dX9_sounds_141 : decode cX9_sounds 141 = .ok (.iastore, 1) := by decide +kernel
theorem dX9_sounds_142 : decode cX9_sounds 142 = .ok (.aload_n 0, 1) := by decide +kernel
theorem dX9_sounds_143 : decode cX9_sounds 143 = .ok (.getfield 35, 3) := by decide +kernel
theorem dX9_sounds_146 : decode cX9_sounds 146 = .ok (.iload_n 1, 1) := by decide +kernel
theorem dX9_sounds_147 : decode cX9_sounds 147 = .ok (.dup2, 1) := by decide +kernel
theorem dX9_sounds_148 : decode cX9_sounds 148 = .ok (.iaload, 1) := by decide +kernel
theorem dX9_sounds_149 : decode cX9_sounds 149 = .ok (.iconst 1, 1) := by decide +kernel
theorem dX9_sounds_150 : decode cX9_sounds 150 = .ok (.iadd, 1) := by decide +kernel
theorem dX9_sounds_151 : decode cX9_sounds 151 = .ok (.iastore, 1) := by decide +kernel
theorem dX9_sounds_152 : decode cX9_sounds 152 = .ok (.iconst 1, 1) := by decide +kernel
theorem dX9_sounds_153 : decode cX9_sounds 153 = .ok (.ireturn, 1) := by decide +kernel
theorem dX9_play_0 : decode cX9_play 0 = .ok (.iload_n 1, 1) := by decide +kernel
theorem dX9_play_1 : decode cX9_play 1 = .ok (.invokestatic 90, 3) := by decide +kernel
theorem dX9_play_4 : decode cX9_play 4 = .ok (.ifCond .ne 9, 3) := by decide +kernel
theorem dX9_play_7 : decode cX9_play 7 = .ok (.aload_n 0, 1) := by decide +kernel
theorem dX9_play_8 : decode cX9_play 8 = .ok (.iconst (-1), 1) := by decide +kernel
theorem dX9_play_9 : decode cX9_play 9 = .ok (.invokevirtual 96, 3) := by decide +kernel
theorem dX9_play_12 : decode cX9_play 12 = .ok (.ireturn, 1) := by decide +kernel
theorem dX9_play_13 : decode cX9_play 13 = .ok (.iload_n 2, 1) := by decide +kernel
theorem dX9_play_14 : decode cX9_play 14 = .ok (.iconst 0, 1) := by decide +kernel
theorem dX9_play_15 : decode cX9_play 15 = .ok (.bipush 20, 2) := by decide +kernel
theorem dX9_play_17 : decode cX9_play 17 = .ok (.invokestatic 58, 3) := by decide +kernel
theorem dX9_play_20 : decode cX9_play 20 = .ok (.ifCond .ne 10, 3) := by decide +kernel
theorem dX9_play_23 : decode cX9_play 23 = .ok (.aload_n 0, 1) := by decide +kernel
theorem dX9_play_24 : decode cX9_play 24 = .ok (.bipush (-4), 2) := by decide +kernel
theorem dX9_play_26 : decode cX9_play 26 = .ok (.invokevirtual 96, 3) := by decide +kernel
theorem dX9_play_29 : decode cX9_play 29 = .ok (.ireturn, 1) := by decide +kernel
theorem dX9_play_30 : decode cX9_play 30 = .ok (.iconst 0, 1) := by decide +kernel
theorem dX9_play_31 : decode cX9_play 31 = .ok (.istore_n 3, 1) := by decide +kernel
theorem dX9_play_32 : decode cX9_play 32 = .ok (.iconst 1, 1) := by decide +kernel
theorem dX9_play_33 : decode cX9_play 33 = .ok (.istore 4, 2) := by decide +kernel
theorem dX9_play_35 : decode cX9_play 35 = .ok (.iconst 0, 1) := by decide +kernel
theorem dX9_play_36 : decode cX9_play 36 = .ok (.istore 5, 2) := by decide +kernel
theorem dX9_play_38 : decode cX9_play 38 = .ok (.iload 5, 2) := by decide +kernel
theorem dX9_play_40 : decode cX9_play 40 = .ok (.iload_n 2, 1) := by decide +kernel
theorem dX9_play_41 : decode cX9_play 41 = .ok (.if_icmp .ge 100, 3) := by decide +kernel
theorem dX9_play_44 : decode cX9_play 44 = .ok (.iload 4, 2) := by decide +kernel
theorem dX9_play_46 : decode cX9_play 46 = .ok (.ifCond .eq 95, 3) := by decide +kernel
theorem dX9_play_49 : decode cX9_play 49 = .ok (.aload_n 0, 1) := by decide +kernel
theorem dX9_play_50 : decode cX9_play 50 = .ok (.getfield 32, 3) := by decide +kernel
theorem dX9_play_53 : decode cX9_play 53 = .ok (.iload_n 1, 1) := by decide +kernel
theorem dX9_play_54 : decode cX9_play 54 = .ok (.iaload, 1) := by decide +kernel
theorem dX9_play_55 : decode cX9_play 55 = .ok (.istore 6, 2) := by decide +kernel
theorem dX9_play_57 : decode cX9_play 57 = .ok (.iconst 0, 1) := by decide +kernel
theorem dX9_play_58 : decode cX9_play 58 = .ok (.istore 4, 2) := by decide +kernel
theorem dX9_play_60 : decode cX9_play 60 = .ok (.iconst 0, 1) := by decide +kernel
theorem dX9_play_61 : decode cX9_play 61 = .ok (.istore 7, 2) := by decide +kernel
theorem dX9_play_63 : decode cX9_play 63 = .ok (.iload 7, 2) := by decide +kernel
theorem dX9_play_65 : decode cX9_play 65 = .ok (.iconst 5, 1) := by decide +kernel
theorem dX9_play_66 : decode cX9_play 66 = .ok (.if_icmp .ge 33, 3) := by decide +kernel
theorem dX9_play_69 : decode cX9_play 69 = .ok (.iload 4, 2) := by decide +kernel
theorem dX9_play_71 : decode cX9_play 71 = .ok (.ifCond .ne 15, 3) := by decide +kernel
theorem dX9_play_74 : decode cX9_play 74 = .ok (.aload_n 0, 1) := by decide +kernel
theorem dX9_play_75 : decode cX9_play 75 = .ok (.iload_n 1, 1) := by decide +kernel
theorem dX9_play_76 : decode cX9_play 76 = .ok (.iload 7, 2) := by decide +kernel
theorem dX9_play_78 : decode cX9_play 78 = .ok (.iload 6, 2) := by decide +kernel
theorem dX9_play_80 : decode cX9_play 80 = .ok (.invokevirtual 117, 3) := by decide +kernel
theorem dX9_play_83 : decode cX9_play 83 = .ok (.ifCond .eq 7, 3) := by decide +kernel
theorem dX9_play_86 : decode cX9_play 86 = .ok (.iconst 1, 1) := by decide +kernel
theorem dX9_play_87 : decode cX9_play 87 = .ok (.goto 4, 3) := by decide +kernel
theorem dX9_play_90 : decode cX9_play 90 = .ok (.iconst 0, 1) := by decide +kernel
theorem dX9_play_91 : decode cX9_play 91 = .ok (.istore 4, 2) := by decide +kernel
theorem dX9_play_93 : decode cX9_play 93 = .ok (.iinc 7 1, 3) := by decide +kernel
theorem dX9_play_96 : decode cX9_play 96 = .ok (.goto (-33), 3) := by decide +kernel
theorem dX9_play_99 : decode cX9_play 99 = .ok (.iload 4, 2) := by decide +kernel
theorem dX9_play_101 : decode cX9_play 101 = .ok (.ifCond .ne 6, 3) := by decide +kernel
theorem dX9_play_104 : decode cX9_play 104 = .ok (.goto 31, 3) := by decide +kernel
theorem dX9_play_107 : decode cX9_play 107 = .ok (.iload_n 3, 1) := by decide +kernel
theorem dX9_play_108 : decode cX9_play 108 = .ok (.aload_n 0, 1) := by decide +kernel
theorem dX9_play_109 : decode cX9_play 109 = .ok (.iload_n 1, 1) := by decide +kernel
theorem dX9_play_110 : decode cX9_play 110 = .ok (.iload 6, 2) := by decide +kernel
theorem dX9_play_112 : decode cX9_play 112 = .ok (.invokevirtual 124, 3) := by decide +kernel
theorem dX9_play_115 : decode cX9_play 115 = .ok (.ifCond .eq 7, 3) := by decide +kernel
theorem dX9_play_118 : decode cX9_play 118 = .ok (.iconst 1, 1) := by decide +kernel
theorem dX9_play_119 : decode cX9_play 119 = .ok (.goto 4, 3) := by decide +kernel
theorem dX9_play_122 : decode cX9_play 122 = .ok (.iconst 0, 1) := by decide +kernel
theorem dX9_play_123 : decode cX9_play 123 = .ok (.iadd, 1) := by decide +kernel
theorem dX9_play_124 : decode cX9_play 124 = .ok (.istore_n 3, 1) := by decide +kernel
theorem dX9_play_125 : decode cX9_play 125 = .ok (.aload_n 0, 1) := by decide +kernel
theorem dX9_play_126 : decode cX9_play 126 = .ok (.getfield 32, 3) := by decide +kernel
theorem dX9_play_129 : decode cX9_play 129 = .ok (.iload_n 1, 1) := by decide +kernel
theorem dX9_play_130 : decode cX9_play 130 = .ok (.dup2, 1) := by decide +kernel
theorem dX9_play_131 : decode cX9_play 131 = .ok (.iaload, 1) := by decide +kernel
theorem dX9_play_132 : decode cX9_play 132 = .ok (.iconst 1, 1) := by decide +kernel
theorem dX9_play_133 : decode cX9_play 133 = .ok (.iadd, 1) := by decide +kernel
theorem dX9_play_134 : decode cX9_play 134 = .ok (.iastore, 1) := by decide +kernel
theorem dX9_play_135 : decode cX9_play 135 = .ok (.iinc 5 1, 3) := by decide +kernel
theorem dX9_play_138 : decode cX9_play 138 = .ok (.goto (-100), 3) := by decide +kernel
theorem dX9_play_141 : decode cX9_play 141 = .ok (.aload_n 0, 1) := by decide +kernel
theorem dX9_play_142 : decode cX9_play 142 = .ok (.iload_n 3, 1) := by decide +kernel
theorem dX9_play_143 : decode cX9_play 143 = .ok (.invokevirtual 96, 3) := by decide +kernel
theorem dX9_play_146 : decode cX9_play 146 = .ok (.ireturn, 1) := by decide +kernel
theorem dX9_heard_0 : decode cX9_heard 0 = .ok (.iload_n 1, 1) := by decide +kernel
theorem dX9_heard_1 : decode cX9_heard 1 = .ok (.invokestatic 90, 3) := by decide +kernel
theorem dX9_heard_4 : decode cX9_heard 4 = .ok (.ifCond .eq 13, 3) := by decide +kernel
theorem dX9_heard_7 : decode cX9_heard 7 = .ok (.iload_n 2, 1) := by decide +kernel
theorem dX9_heard_8 : decode cX9_heard 8 = .ok (.iconst 0, 1) := by decide +kernel
theorem dX9_heard_9 : decode cX9_heard 9 = .ok (.bipush 6, 2) := by decide +kernel
theorem dX9_heard_11 : decode cX9_heard 11 = .ok (.invokestatic 58, 3) := by decide +kernel
theorem dX9_heard_14 : decode cX9_heard 14 = .ok (.ifCond .ne 10, 3) := by decide +kernel
theorem dX9_heard_17 : decode cX9_heard 17 = .ok (.aload_n 0, 1) := by decide +kernel
theorem dX9_heard_18 : decode cX9_heard 18 = .ok (.iconst (-1), 1) := by decide +kernel
theorem dX9_heard_19 : decode cX9_heard 19 = .ok (.putfield 54, 3) := by decide +kernel
theorem dX9_heard_22 : decode cX9_heard 22 = .ok (.lconst 0, 1) := by decide +kernel
theorem dX9_heard_23 : decode cX9_heard 23 = .ok (.lreturn, 1) := by decide +kernel
theorem dX9_heard_24 : decode cX9_heard 24 = .ok (.aload_n 0, 1) := by decide +kernel
theorem dX9_heard_25 : decode cX9_heard 25 = .ok (.iconst 0, 1) := by decide +kernel
theorem dX9_heard_26 : decode cX9_heard 26 = .ok (.putfield 54, 3) := by decide +kernel
theorem dX9_heard_29 : decode cX9_heard 29 = .ok (.iload_n 2, 1) := by decide +kernel
theorem dX9_heard_30 : decode cX9_heard 30 = .ok (.tableswitch 111 0 5 #[38, 46, 54, 62, 69, 90], 38) := by decide +kernel
theorem dX9_heard_68 : decode cX9_heard 68 = .ok (.aload_n 0, 1) := by decide +kernel
theorem dX9_heard_69 : decode cX9_heard 69 = .ok (.getfield 35, 3) := by decide +kernel
theorem dX9_heard_72 : decode cX9_heard 72 = .ok (.iload_n 1, 1) := by decide +kernel
theorem dX9_heard_73 : decode cX9_heard 73 = .ok (.iaload, 1) := by decide +kernel
theorem dX9_heard_74 : decode cX9_heard 74 = .ok (.i2l, 1) := by decide +kernel
theorem dX9_heard_75 : decode cX9_heard 75 = .ok (.lreturn, 1) := by decide +kernel
theorem dX9_heard_76 : decode cX9_heard 76 = .ok (.aload_n 0, 1) := by decide +kernel
theorem dX9_heard_77 : decode cX9_heard 77 = .ok (.getfield 38, 3) := by decide +kernel
theorem dX9_heard_80 : decode cX9_heard 80 = .ok (.iload_n 1, 1) := by decide +kernel
theorem dX9_heard_81 : decode cX9_heard 81 = .ok (.iaload, 1) := by decide +kernel
theorem dX9_heard_82 : decode cX9_heard 82 = .ok (.i2l, 1) := by decide +kernel
theorem dX9_heard_83 : decode cX9_heard 83 = .ok (.lreturn, 1) := by decide +kernel
theorem dX9_heard_84 : decode cX9_heard 84 = .ok (.aload_n 0, 1) := by decide +kernel
theorem dX9_heard_85 : decode cX9_heard 85 = .ok (.getfield 41, 3) := by decide +kernel
theorem dX9_heard_88 : decode cX9_heard 88 = .ok (.iload_n 1, 1) := by decide +kernel
theorem dX9_heard_89 : decode cX9_heard 89 = .ok (.iaload, 1) := by decide +kernel
theorem dX9_heard_90 : decode cX9_heard 90 = .ok (.i2l, 1) := by decide +kernel
theorem dX9_heard_91 : decode cX9_heard 91 = .ok (.lreturn, 1) := by decide +kernel
theorem dX9_heard_92 : decode cX9_heard 92 = .ok (.aload_n 0, 1) := by decide +kernel
theorem dX9_heard_93 : decode cX9_heard 93 = .ok (.getfield 44, 3) := by decide +kernel
theorem dX9_heard_96 : decode cX9_heard 96 = .ok (.iload_n 1, 1) := by decide +kernel
theorem dX9_heard_97 : decode cX9_heard 97 = .ok (.laload, 1) := by decide +kernel
theorem dX9_heard_98 : decode cX9_heard 98 = .ok (.lreturn, 1) := by decide +kernel
theorem dX9_heard_99 : decode cX9_heard 99 = .ok (.aload_n 0, 1) := by decide +kernel
theorem dX9_heard_100 : decode cX9_heard 100 = .ok (.getfield 35, 3) := by decide +kernel
theorem dX9_heard_103 : decode cX9_heard 103 = .ok (.iload_n 1, 1) := by decide +kernel
theorem dX9_heard_104 : decode cX9_heard 104 = .ok (.iaload, 1) := by decide +kernel
theorem dX9_heard_105 : decode cX9_heard 105 = .ok (.ifCond .ne 7, 3) := by decide +kernel
theorem dX9_heard_108 : decode cX9_heard 108 = .ok (.lconst 0, 1) := by decide +kernel
theorem dX9_heard_109 : decode cX9_heard 109 = .ok (.goto 10, 3) := by decide +kernel
theorem dX9_heard_112 : decode cX9_heard 112 = .ok (.aload_n 0, 1) := by decide +kernel
theorem dX9_heard_113 : decode cX9_heard 113 = .ok (.getfield 48, 3) := by decide +kernel
theorem dX9_heard_116 : decode cX9_heard 116 = .ok (.iload_n 1, 1) := by decide +kernel
theorem dX9_heard_117 : decode cX9_heard 117 = .ok (.iaload, 1) := by decide +kernel
theorem dX9_heard_118 : decode cX9_heard 118 = .ok (.i2l, 1) := by decide +kernel
theorem dX9_heard_119 : decode cX9_heard 119 = .ok (.lreturn, 1) := by decide +kernel
theorem dX9_heard_120 : decode cX9_heard 120 = .ok (.aload_n 0, 1) := by decide +kernel
theorem dX9_heard_121 : decode cX9_heard 121 = .ok (.getfield 35, 3) := by decide +kernel
theorem dX9_heard_124 : decode cX9_heard 124 = .ok (.iload_n 1, 1) := by decide +kernel
theorem dX9_heard_125 : decode cX9_heard 125 = .ok (.iaload, 1) := by decide +kernel
theorem dX9_heard_126 : decode cX9_heard 126 = .ok (.ifCond .ne 7, 3) := by decide +kernel
theorem dX9_heard_129 : decode cX9_heard 129 = .ok (.lconst 0, 1) := by decide +kernel
theorem dX9_heard_130 : decode cX9_heard 130 = .ok (.goto 10, 3) := by decide +kernel
theorem dX9_heard_133 : decode cX9_heard 133 = .ok (.aload_n 0, 1) := by decide +kernel
theorem dX9_heard_134 : decode cX9_heard 134 = .ok (.getfield 51, 3) := by decide +kernel
theorem dX9_heard_137 : decode cX9_heard 137 = .ok (.iload_n 1, 1) := by decide +kernel
theorem dX9_heard_138 : decode cX9_heard 138 = .ok (.iaload, 1) := by decide +kernel
theorem dX9_heard_139 : decode cX9_heard 139 = .ok (.i2l, 1) := by decide +kernel
theorem dX9_heard_140 : decode cX9_heard 140 = .ok (.lreturn, 1) := by decide +kernel
theorem dX9_heard_141 : decode cX9_heard 141 = .ok (.aload_n 0, 1) := by decide +kernel
theorem dX9_heard_142 : decode cX9_heard 142 = .ok (.getfield 32, 3) := by decide +kernel
theorem dX9_heard_145 : decode cX9_heard 145 = .ok (.iload_n 1, 1) := by decide +kernel
theorem dX9_heard_146 : decode cX9_heard 146 = .ok (.iaload, 1) := by decide +kernel
theorem dX9_heard_147 : decode cX9_heard 147 = .ok (.i2l, 1) := by decide +kernel
theorem dX9_heard_148 : decode cX9_heard 148 = .ok (.lreturn, 1) := by decide +kernel
theorem dX9_quiet_0 : decode cX9_quiet 0 = .ok (.iload_n 1, 1) := by decide +kernel
theorem dX9_quiet_1 : decode cX9_quiet 1 = .ok (.invokestatic 90, 3) := by decide +kernel
theorem dX9_quiet_4 : decode cX9_quiet 4 = .ok (.ifCond .ne 9, 3) := by decide +kernel
theorem dX9_quiet_7 : decode cX9_quiet 7 = .ok (.aload_n 0, 1) := by decide +kernel
theorem dX9_quiet_8 : decode cX9_quiet 8 = .ok (.iconst (-1), 1) := by decide +kernel
theorem dX9_quiet_9 : decode cX9_quiet 9 = .ok (.invokevirtual 96, 3) := by decide +kernel
theorem dX9_quiet_12 : decode cX9_quiet 12 = .ok (.ireturn, 1) := by decide +kernel
theorem dX9_quiet_13 : decode cX9_quiet 13 = .ok (.aload_n 0, 1) := by decide +kernel
theorem dX9_quiet_14 : decode cX9_quiet 14 = .ok (.getfield 35, 3) := by decide +kernel
theorem dX9_quiet_17 : decode cX9_quiet 17 = .ok (.iload_n 1, 1) := by decide +kernel
theorem dX9_quiet_18 : decode cX9_quiet 18 = .ok (.iaload, 1) := by decide +kernel
theorem dX9_quiet_19 : decode cX9_quiet 19 = .ok (.istore_n 2, 1) := by decide +kernel
theorem dX9_quiet_20 : decode cX9_quiet 20 = .ok (.aload_n 0, 1) := by decide +kernel
theorem dX9_quiet_21 : decode cX9_quiet 21 = .ok (.getfield 35, 3) := by decide +kernel
theorem dX9_quiet_24 : decode cX9_quiet 24 = .ok (.iload_n 1, 1) := by decide +kernel
theorem dX9_quiet_25 : decode cX9_quiet 25 = .ok (.iconst 0, 1) := by decide +kernel
theorem dX9_quiet_26 : decode cX9_quiet 26 = .ok (.iastore, 1) := by decide +kernel
theorem dX9_quiet_27 : decode cX9_quiet 27 = .ok (.aload_n 0, 1) := by decide +kernel
theorem dX9_quiet_28 : decode cX9_quiet 28 = .ok (.getfield 38, 3) := by decide +kernel
theorem dX9_quiet_31 : decode cX9_quiet 31 = .ok (.iload_n 1, 1) := by decide +kernel
theorem dX9_quiet_32 : decode cX9_quiet 32 = .ok (.iconst 0, 1) := by decide +kernel
theorem dX9_quiet_33 : decode cX9_quiet 33 = .ok (.iastore, 1) := by decide +kernel
theorem dX9_quiet_34 : decode cX9_quiet 34 = .ok (.aload_n 0, 1) := by decide +kernel
theorem dX9_quiet_35 : decode cX9_quiet 35 = .ok (.getfield 41, 3) := by decide +kernel
theorem dX9_quiet_38 : decode cX9_quiet 38 = .ok (.iload_n 1, 1) := by decide +kernel
theorem dX9_quiet_39 : decode cX9_quiet 39 = .ok (.iconst 0, 1) := by decide +kernel
theorem dX9_quiet_40 : decode cX9_quiet 40 = .ok (.iastore, 1) := by decide +kernel
theorem dX9_quiet_41 : decode cX9_quiet 41 = .ok (.aload_n 0, 1) := by decide +kernel
theorem dX9_quiet_42 : decode cX9_quiet 42 = .ok (.getfield 44, 3) := by decide +kernel
theorem dX9_quiet_45 : decode cX9_quiet 45 = .ok (.iload_n 1, 1) := by decide +kernel
theorem dX9_quiet_46 : decode cX9_quiet 46 = .ok (.lconst 0, 1) := by decide +kernel
theorem dX9_quiet_47 : decode cX9_quiet 47 = .ok (.lastore, 1) := by decide +kernel
theorem dX9_quiet_48 : decode cX9_quiet 48 = .ok (.aload_n 0, 1) := by decide +kernel
theorem dX9_quiet_49 : decode cX9_quiet 49 = .ok (.iload_n 2, 1) := by decide +kernel
theorem dX9_quiet_50 : decode cX9_quiet 50 = .ok (.invokevirtual 96, 3) := by decide +kernel
theorem dX9_quiet_53 : decode cX9_quiet 53 = .ok (.ireturn, 1) := by decide +kernel
theorem dX9_empties_0 : decode cX9_empties 0 = .ok (.aload_n 0, 1) := by decide +kernel
theorem dX9_empties_1 : decode cX9_empties 1 = .ok (.getfield 29, 3) := by decide +kernel
theorem dX9_empties_4 : decode cX9_empties 4 = .ok (.iload_n 1, 1) := by decide +kernel
theorem dX9_empties_5 : decode cX9_empties 5 = .ok (.iaload, 1) := by decide +kernel
theorem dX9_empties_6 : decode cX9_empties 6 = .ok (.istore_n 2, 1) := by decide +kernel
theorem dX9_empties_7 : decode cX9_empties 7 = .ok (.iconst 0, 1) := by decide +kernel
theorem dX9_empties_8 : decode cX9_empties 8 = .ok (.istore_n 3, 1) := by decide +kernel
theorem dX9_empties_9 : decode cX9_empties 9 = .ok (.iload_n 3, 1) := by decide +kernel
theorem dX9_empties_10 : decode cX9_empties 10 = .ok (.iload_n 2, 1) := by decide +kernel
theorem dX9_empties_11 : decode cX9_empties 11 = .ok (.if_icmp .ge 16, 3) := by decide +kernel
theorem dX9_empties_14 : decode cX9_empties 14 = .ok (.aload_n 0, 1) := by decide +kernel
theorem dX9_empties_15 : decode cX9_empties 15 = .ok (.iload_n 1, 1) := by decide +kernel
theorem dX9_empties_16 : decode cX9_empties 16 = .ok (.iload_n 3, 1) := by decide +kernel
theorem dX9_empties_17 : decode cX9_empties 17 = .ok (.iconst (-1), 1) := by decide +kernel
theorem dX9_empties_18 : decode cX9_empties 18 = .ok (.invokevirtual 128, 3) := by decide +kernel
theorem dX9_empties_21 : decode cX9_empties 21 = .ok (.iinc 3 1, 3) := by decide +kernel
theorem dX9_empties_24 : decode cX9_empties 24 = .ok (.goto (-15), 3) := by decide +kernel
theorem dX9_empties_27 : decode cX9_empties 27 = .ok (.aload_n 0, 1) := by decide +kernel
theorem dX9_empties_28 : decode cX9_empties 28 = .ok (.getfield 29, 3) := by decide +kernel
theorem dX9_empties_31 : decode cX9_empties 31 = .ok (.iload_n 1, 1) := by decide +kernel
theorem dX9_empties_32 : decode cX9_empties 32 = .ok (.iconst 0, 1) := by decide +kernel
theorem dX9_empties_33 : decode cX9_empties 33 = .ok (.iastore, 1) := by decide +kernel
theorem dX9_empties_34 : decode cX9_empties 34 = .ok (.aload_n 0, 1) := by decide +kernel
theorem dX9_empties_35 : decode cX9_empties 35 = .ok (.getfield 26, 3) := by decide +kernel
theorem dX9_empties_38 : decode cX9_empties 38 = .ok (.iload_n 1, 1) := by decide +kernel
theorem dX9_empties_39 : decode cX9_empties 39 = .ok (.iconst (-1), 1) := by decide +kernel
theorem dX9_empties_40 : decode cX9_empties 40 = .ok (.iastore, 1) := by decide +kernel
theorem dX9_empties_41 : decode cX9_empties 41 = .ok (.iload_n 2, 1) := by decide +kernel
theorem dX9_empties_42 : decode cX9_empties 42 = .ok (.ireturn, 1) := by decide +kernel
theorem dX9_comb_0 : decode cX9_comb 0 = .ok (.iload_n 1, 1) := by decide +kernel
theorem dX9_comb_1 : decode cX9_comb 1 = .ok (.iconst 0, 1) := by decide +kernel
theorem dX9_comb_2 : decode cX9_comb 2 = .ok (.iconst 3, 1) := by decide +kernel
theorem dX9_comb_3 : decode cX9_comb 3 = .ok (.invokestatic 58, 3) := by decide +kernel
theorem dX9_comb_6 : decode cX9_comb 6 = .ok (.ifCond .eq 10, 3) := by decide +kernel
theorem dX9_comb_9 : decode cX9_comb 9 = .ok (.iload_n 2, 1) := by decide +kernel
theorem dX9_comb_10 : decode cX9_comb 10 = .ok (.invokestatic 93, 3) := by decide +kernel
theorem dX9_comb_13 : decode cX9_comb 13 = .ok (.ifCond .ne 9, 3) := by decide +kernel
theorem dX9_comb_16 : decode cX9_comb 16 = .ok (.aload_n 0, 1) := by decide +kernel
theorem dX9_comb_17 : decode cX9_comb 17 = .ok (.iconst (-1), 1) := by decide +kernel
theorem dX9_comb_18 : decode cX9_comb 18 = .ok (.invokevirtual 96, 3) := by decide +kernel
theorem dX9_comb_21 : decode cX9_comb 21 = .ok (.ireturn, 1) := by decide +kernel
theorem dX9_comb_22 : decode cX9_comb 22 = .ok (.iload_n 3, 1) := by decide +kernel
theorem dX9_comb_23 : decode cX9_comb 23 = .ok (.iconst 0, 1) := by decide +kernel
theorem dX9_comb_24 : decode cX9_comb 24 = .ok (.bipush 40, 2) := by decide +kernel
theorem dX9_comb_26 : decode cX9_comb 26 = .ok (.invokestatic 58, 3) := by decide +kernel
theorem dX9_comb_29 : decode cX9_comb 29 = .ok (.ifCond .eq 14, 3) := by decide +kernel
theorem dX9_comb_32 : decode cX9_comb 32 = .ok (.iload 4, 2) := by decide +kernel
theorem dX9_comb_34 : decode cX9_comb 34 = .ok (.iconst 0, 1) := by decide +kernel
theorem dX9_comb_35 : decode cX9_comb 35 = .ok (.bipush 40, 2) := by decide +kernel
theorem dX9_comb_37 : decode cX9_comb 37 = .ok (.invokestatic 58, 3) := by decide +kernel
theorem dX9_comb_40 : decode cX9_comb 40 = .ok (.ifCond .ne 10, 3) := by decide +kernel
theorem dX9_comb_43 : decode cX9_comb 43 = .ok (.aload_n 0, 1) := by decide +kernel
theorem dX9_comb_44 : decode cX9_comb 44 = .ok (.bipush (-4), 2) := by decide +kernel
theorem dX9_comb_46 : decode cX9_comb 46 = .ok (.invokevirtual 96, 3) := by decide +kernel
theorem dX9_comb_49 : decode cX9_comb 49 = .ok (.ireturn, 1) := by decide +kernel
theorem dX9_comb_50 : decode cX9_comb 50 = .ok (.aload_n 0, 1) := by decide +kernel
theorem dX9_comb_51 : decode cX9_comb 51 = .ok (.iload_n 1, 1) := by decide +kernel
theorem dX9_comb_52 : decode cX9_comb 52 = .ok (.invokevirtual 131, 3) := by decide +kernel
theorem dX9_comb_55 : decode cX9_comb 55 = .ok (.istore 5, 2) := by decide +kernel
theorem dX9_comb_57 : decode cX9_comb 57 = .ok (.aload_n 0, 1) := by decide +kernel
theorem dX9_comb_58 : decode cX9_comb 58 = .ok (.getfield 26, 3) := by decide +kernel
theorem dX9_comb_61 : decode cX9_comb 61 = .ok (.iload_n 1, 1) := by decide +kernel
theorem dX9_comb_62 : decode cX9_comb 62 = .ok (.iload_n 2, 1) := by decide +kernel
theorem dX9_comb_63 : decode cX9_comb 63 = .ok (.iastore, 1) := by decide +kernel
theorem dX9_comb_64 : decode cX9_comb 64 = .ok (.aload_n 0, 1) := by decide +kernel
theorem dX9_comb_65 : decode cX9_comb 65 = .ok (.getfield 29, 3) := by decide +kernel
theorem dX9_comb_68 : decode cX9_comb 68 = .ok (.iload_n 1, 1) := by decide +kernel
theorem dX9_comb_69 : decode cX9_comb 69 = .ok (.iload_n 3, 1) := by decide +kernel
theorem dX9_comb_70 : decode cX9_comb 70 = .ok (.iastore, 1) := by decide +kernel
theorem dX9_comb_71 : decode cX9_comb 71 = .ok (.iconst 0, 1) := by decide +kernel
theorem dX9_comb_72 : decode cX9_comb 72 = .ok (.istore 6, 2) := by decide +kernel
theorem dX9_comb_74 : decode cX9_comb 74 = .ok (.iload 6, 2) := by decide +kernel
theorem dX9_comb_76 : decode cX9_comb 76 = .ok (.iload_n 3, 1) := by decide +kernel
theorem dX9_comb_77 : decode cX9_comb 77 = .ok (.if_icmp .ge 22, 3) := by decide +kernel
theorem dX9_comb_80 : decode cX9_comb 80 = .ok (.aload_n 0, 1) := by decide +kernel
theorem dX9_comb_81 : decode cX9_comb 81 = .ok (.iload_n 1, 1) := by decide +kernel
theorem dX9_comb_82 : decode cX9_comb 82 = .ok (.iload 6, 2) := by decide +kernel
theorem dX9_comb_84 : decode cX9_comb 84 = .ok (.aload_n 0, 1) := by decide +kernel
theorem dX9_comb_85 : decode cX9_comb 85 = .ok (.iload 4, 2) := by decide +kernel
theorem dX9_comb_87 : decode cX9_comb 87 = .ok (.invokevirtual 100, 3) := by decide +kernel
theorem dX9_comb_90 : decode cX9_comb 90 = .ok (.invokevirtual 128, 3) := by decide +kernel
theorem dX9_comb_93 : decode cX9_comb 93 = .ok (.iinc 6 1, 3) := by decide +kernel
theorem dX9_comb_96 : decode cX9_comb 96 = .ok (.goto (-22), 3) := by decide +kernel
theorem dX9_comb_99 : decode cX9_comb 99 = .ok (.aload_n 0, 1) := by decide +kernel
theorem dX9_comb_100 : decode cX9_comb 100 = .ok (.iload_n 3, 1) := by decide +kernel
theorem dX9_comb_101 : decode cX9_comb 101 = .ok (.invokevirtual 96, 3) := by decide +kernel
theorem dX9_comb_104 : decode cX9_comb 104 = .ok (.ireturn, 1) := by decide +kernel
theorem dX9_drop_0 : decode cX9_drop 0 = .ok (.aload_n 0, 1) := by decide +kernel
theorem dX9_drop_1 : decode cX9_drop 1 = .ok (.aload_n 0, 1) := by decide +kernel
theorem dX9_drop_2 : decode cX9_drop 2 = .ok (.iload_n 1, 1) := by decide +kernel
theorem dX9_drop_3 : decode cX9_drop 3 = .ok (.invokevirtual 62, 3) := by decide +kernel
theorem dX9_drop_6 : decode cX9_drop 6 = .ok (.ifCond .eq 11, 3) := by decide +kernel
theorem dX9_drop_9 : decode cX9_drop 9 = .ok (.aload_n 0, 1) := by decide +kernel
theorem dX9_drop_10 : decode cX9_drop 10 = .ok (.iload_n 1, 1) := by decide +kernel
theorem dX9_drop_11 : decode cX9_drop 11 = .ok (.invokevirtual 131, 3) := by decide +kernel
theorem dX9_drop_14 : decode cX9_drop 14 = .ok (.goto 4, 3) := by decide +kernel
theorem dX9_drop_17 : decode cX9_drop 17 = .ok (.iconst (-1), 1) := by decide +kernel
theorem dX9_drop_18 : decode cX9_drop 18 = .ok (.invokevirtual 96, 3) := by decide +kernel
theorem dX9_drop_21 : decode cX9_drop 21 = .ok (.ireturn, 1) := by decide +kernel
theorem dX9_about_0 : decode cX9_about 0 = .ok (.aload_n 0, 1) := by decide +kernel
theorem dX9_about_1 : decode cX9_about 1 = .ok (.iload_n 1, 1) := by decide +kernel
theorem dX9_about_2 : decode cX9_about 2 = .ok (.invokevirtual 62, 3) := by decide +kernel
theorem dX9_about_5 : decode cX9_about 5 = .ok (.ifCond .eq 12, 3) := by decide +kernel
theorem dX9_about_8 : decode cX9_about 8 = .ok (.iload_n 2, 1) := by decide +kernel
theorem dX9_about_9 : decode cX9_about 9 = .ok (.iconst 0, 1) := by decide +kernel
theorem dX9_about_10 : decode cX9_about 10 = .ok (.iconst 3, 1) := by decide +kernel
theorem dX9_about_11 : decode cX9_about 11 = .ok (.invokestatic 58, 3) := by decide +kernel
theorem dX9_about_14 : decode cX9_about 14 = .ok (.ifCond .ne 9, 3) := by decide +kernel
theorem dX9_about_17 : decode cX9_about 17 = .ok (.aload_n 0, 1) := by decide +kernel
theorem dX9_about_18 : decode cX9_about 18 = .ok (.iconst (-1), 1) := by decide +kernel
theorem dX9_about_19 : decode cX9_about 19 = .ok (.invokevirtual 96, 3) := by decide +kernel
theorem dX9_about_22 : decode cX9_about 22 = .ok (.ireturn, 1) := by decide +kernel
theorem dX9_about_23 : decode cX9_about 23 = .ok (.iconst 0, 1) := by decide +kernel
theorem dX9_about_24 : decode cX9_about 24 = .ok (.istore_n 3, 1) := by decide +kernel
theorem dX9_about_25 : decode cX9_about 25 = .ok (.iconst 0, 1) := by decide +kernel
theorem dX9_about_26 : decode cX9_about 26 = .ok (.istore 4, 2) := by decide +kernel
theorem dX9_about_28 : decode cX9_about 28 = .ok (.iconst 0, 1) := by decide +kernel
theorem dX9_about_29 : decode cX9_about 29 = .ok (.istore 5, 2) := by decide +kernel
theorem dX9_about_31 : decode cX9_about 31 = .ok (.iload 5, 2) := by decide +kernel
theorem dX9_about_33 : decode cX9_about 33 = .ok (.aload_n 0, 1) := by decide +kernel
theorem dX9_about_34 : decode cX9_about 34 = .ok (.getfield 29, 3) := by decide +kernel
theorem dX9_about_37 : decode cX9_about 37 = .ok (.iload_n 1, 1) := by decide +kernel
theorem dX9_about_38 : decode cX9_about 38 = .ok (.iaload, 1) := by decide +kernel
theorem dX9_about_39 : decode cX9_about 39 = .ok (.if_icmp .ge 57, 3) := by decide +kernel
theorem dX9_about_42 : decode cX9_about 42 = .ok (.aload_n 0, 1) := by decide +kernel
theorem dX9_about_43 : decode cX9_about 43 = .ok (.getfield 23, 3) := by decide +kernel
theorem dX9_about_46 : decode cX9_about 46 = .ok (.bipush 40, 2) := by decide +kernel
theorem dX9_about_48 : decode cX9_about 48 = .ok (.iload_n 1, 1) := by decide +kernel
theorem dX9_about_49 : decode cX9_about 49 = .ok (.imul, 1) := by decide +kernel
theorem dX9_about_50 : decode cX9_about 50 = .ok (.iload 5, 2) := by decide +kernel
theorem dX9_about_52 : decode cX9_about 52 = .ok (.iadd, 1) := by decide +kernel
theorem dX9_about_53 : decode cX9_about 53 = .ok (.iaload, 1) := by decide +kernel
theorem dX9_about_54 : decode cX9_about 54 = .ok (.istore 6, 2) := by decide +kernel
theorem dX9_about_56 : decode cX9_about 56 = .ok (.iload_n 3, 1) := by decide +kernel
theorem dX9_about_57 : decode cX9_about 57 = .ok (.iload 6, 2) := by decide +kernel
theorem dX9_about_59 : decode cX9_about 59 = .ok (.ifCond .ge 7, 3) := by decide +kernel
theorem dX9_about_62 : decode cX9_about 62 = .ok (.iconst 1, 1) := by decide +kernel
theorem dX9_about_63 : decode cX9_about 63 = .ok (.goto 4, 3) := by decide +kernel
theorem dX9_about_66 : decode cX9_about 66 = .ok (.iconst 0, 1) := by decide +kernel
theorem dX9_about_67 : decode cX9_about 67 = .ok (.iadd, 1) := by decide +kernel
theorem dX9_about_68 : decode cX9_about 68 = .ok (.istore_n 3, 1) := by decide +kernel
theorem dX9_about_69 : decode cX9_about 69 = .ok (.iload 4, 2) := by decide +kernel
theorem dX9_about_71 : decode cX9_about 71 = .ok (.iload 6, 2) := by decide +kernel
theorem dX9_about_73 : decode cX9_about 73 = .ok (.ifCond .ge 7, 3) := by decide +kernel
theorem dX9_about_76 : decode cX9_about 76 = .ok (.iconst 0, 1) := by decide +kernel
theorem dX9_about_77 : decode cX9_about 77 = .ok (.goto 10, 3) := by decide +kernel
theorem dX9_about_80 : decode cX9_about 80 = .ok (.aload_n 0, 1) := by decide +kernel
theorem dX9_about_81 : decode cX9_about 81 = .ok (.getfield 14, 3) := by decide +kernel
theorem dX9_about_84 : decode cX9_about 84 = .ok (.iload 6, 2) := by decide +kernel
theorem dX9_about_86 : decode cX9_about 86 = .ok (.iaload, 1) := by decide +kernel
theorem dX9_about_87 : decode cX9_about 87 = .ok (.iadd, 1) := by decide +kernel
theorem dX9_about_88 : decode cX9_about 88 = .ok (.istore 4, 2) := by decide +kernel
theorem dX9_about_90 : decode cX9_about 90 = .ok (.iinc 5 1, 3) := by decide +kernel
theorem dX9_about_93 : decode cX9_about 93 = .ok (.goto (-62), 3) := by decide +kernel
theorem dX9_about_96 : decode cX9_about 96 = .ok (.aload_n 0, 1) := by decide +kernel
theorem dX9_about_97 : decode cX9_about 97 = .ok (.iload_n 2, 1) := by decide +kernel
theorem dX9_about_98 : decode cX9_about 98 = .ok (.ifCond .ne 12, 3) := by decide +kernel
theorem dX9_about_101 : decode cX9_about 101 = .ok (.aload_n 0, 1) := by decide +kernel
theorem dX9_about_102 : decode cX9_about 102 = .ok (.getfield 26, 3) := by decide +kernel
theorem dX9_about_105 : decode cX9_about 105 = .ok (.iload_n 1, 1) := by decide +kernel
theorem dX9_about_106 : decode cX9_about 106 = .ok (.iaload, 1) := by decide +kernel
theorem dX9_about_107 : decode cX9_about 107 = .ok (.goto 28, 3) := by decide +kernel
theorem dX9_about_110 : decode cX9_about 110 = .ok (.iload_n 2, 1) := by decide +kernel
theorem dX9_about_111 : decode cX9_about 111 = .ok (.iconst 1, 1) := by decide +kernel
theorem dX9_about_112 : decode cX9_about 112 = .ok (.if_icmp .ne 12, 3) := by decide +kernel
theorem dX9_about_115 : decode cX9_about 115 = .ok (.aload_n 0, 1) := by decide +kernel
theorem dX9_about_116 : decode cX9_about 116 = .ok (.getfield 29, 3) := by decide +kernel
theorem dX9_about_119 : decode cX9_about 119 = .ok (.iload_n 1, 1) := by decide +kernel
theorem dX9_about_120 : decode cX9_about 120 = .ok (.iaload, 1) := by decide +kernel
theorem dX9_about_121 : decode cX9_about 121 = .ok (.goto 14, 3) := by decide +kernel
theorem dX9_about_124 : decode cX9_about 124 = .ok (.iload_n 2, 1) := by decide +kernel
theorem dX9_about_125 : decode cX9_about 125 = .ok (.iconst 2, 1) := by decide +kernel
theorem dX9_about_126 : decode cX9_about 126 = .ok (.if_icmp .ne 7, 3) := by decide +kernel
theorem dX9_about_129 : decode cX9_about 129 = .ok (.iload_n 3, 1) := by decide +kernel
theorem dX9_about_130 : decode cX9_about 130 = .ok (.goto 5, 3) := by decide +kernel
theorem dX9_about_133 : decode cX9_about 133 = .ok (.iload 4, 2) := by decide +kernel
theorem dX9_about_135 : decode cX9_about 135 = .ok (.invokevirtual 96, 3) := by decide +kernel
theorem dX9_about_138 : decode cX9_about 138 = .ok (.ireturn, 1) := by decide +kernel
theorem dX9_loosen_0 : decode cX9_loosen 0 = .ok (.aload_n 0, 1) := by decide +kernel
theorem dX9_loosen_1 : decode cX9_loosen 1 = .ok (.iload_n 1, 1) := by decide +kernel
theorem dX9_loosen_2 : decode cX9_loosen 2 = .ok (.iload_n 2, 1) := by decide +kernel
theorem dX9_loosen_3 : decode cX9_loosen 3 = .ok (.invokevirtual 134, 3) := by decide +kernel
theorem dX9_loosen_6 : decode cX9_loosen 6 = .ok (.ifCond .ne 9, 3) := by decide +kernel
theorem dX9_loosen_9 : decode cX9_loosen 9 = .ok (.aload_n 0, 1) := by decide +kernel
theorem dX9_loosen_10 : decode cX9_loosen 10 = .ok (.iconst (-1), 1) := by decide +kernel
theorem dX9_loosen_11 : decode cX9_loosen 11 = .ok (.invokevirtual 96, 3) := by decide +kernel
theorem dX9_loosen_14 : decode cX9_loosen 14 = .ok (.ireturn, 1) := by decide +kernel
theorem dX9_loosen_15 : decode cX9_loosen 15 = .ok (.aload_n 0, 1) := by decide +kernel
theorem dX9_loosen_16 : decode cX9_loosen 16 = .ok (.getfield 23, 3) := by decide +kernel
theorem dX9_loosen_19 : decode cX9_loosen 19 = .ok (.bipush 40, 2) := by decide +kernel
theorem dX9_loosen_21 : decode cX9_loosen 21 = .ok (.iload_n 1, 1) := by decide +kernel
theorem dX9_loosen_22 : decode cX9_loosen 22 = .ok (.imul, 1) := by decide +kernel
theorem dX9_loosen_23 : decode cX9_loosen 23 = .ok (.iload_n 2, 1) := by decide +kernel
theorem dX9_loosen_24 : decode cX9_loosen 24 = .ok (.iadd, 1) := by decide +kernel
theorem dX9_loosen_25 : decode cX9_loosen 25 = .ok (.iaload, 1) := by decide +kernel
theorem dX9_loosen_26 : decode cX9_loosen 26 = .ok (.istore_n 3, 1) := by decide +kernel
theorem dX9_loosen_27 : decode cX9_loosen 27 = .ok (.iload_n 3, 1) := by decide +kernel
theorem dX9_loosen_28 : decode cX9_loosen 28 = .ok (.ifCond .ge 10, 3) := by decide +kernel
theorem dX9_loosen_31 : decode cX9_loosen 31 = .ok (.aload_n 0, 1) := by decide +kernel
theorem dX9_loosen_32 : decode cX9_loosen 32 = .ok (.bipush (-2), 2) := by decide +kernel
theorem dX9_loosen_34 : decode cX9_loosen 34 = .ok (.invokevirtual 96, 3) := by decide +kernel
theorem dX9_loosen_37 : decode cX9_loosen 37 = .ok (.ireturn, 1) := by decide +kernel
theorem dX9_loosen_38 : decode cX9_loosen 38 = .ok (.aload_n 0, 1) := by decide +kernel
theorem dX9_loosen_39 : decode cX9_loosen 39 = .ok (.iload_n 1, 1) := by decide +kernel
theorem dX9_loosen_40 : decode cX9_loosen 40 = .ok (.iload_n 2, 1) := by decide +kernel
theorem dX9_loosen_41 : decode cX9_loosen 41 = .ok (.iconst (-1), 1) := by decide +kernel
theorem dX9_loosen_42 : decode cX9_loosen 42 = .ok (.invokevirtual 128, 3) := by decide +kernel
theorem dX9_loosen_45 : decode cX9_loosen 45 = .ok (.aload_n 0, 1) := by decide +kernel
theorem dX9_loosen_46 : decode cX9_loosen 46 = .ok (.aload_n 0, 1) := by decide +kernel
theorem dX9_loosen_47 : decode cX9_loosen 47 = .ok (.getfield 14, 3) := by decide +kernel
theorem dX9_loosen_50 : decode cX9_loosen 50 = .ok (.iload_n 3, 1) := by decide +kernel
theorem dX9_loosen_51 : decode cX9_loosen 51 = .ok (.iaload, 1) := by decide +kernel
theorem dX9_loosen_52 : decode cX9_loosen 52 = .ok (.invokevirtual 96, 3) := by decide +kernel
theorem dX9_loosen_55 : decode cX9_loosen 55 = .ok (.ireturn, 1) := by decide +kernel
theorem dX9_hang_0 : decode cX9_hang 0 = .ok (.aload_n 0, 1) := by decide +kernel
theorem dX9_hang_1 : decode cX9_hang 1 = .ok (.iload_n 1, 1) := by decide +kernel
theorem dX9_hang_2 : decode cX9_hang 2 = .ok (.iload_n 2, 1) := by decide +kernel
theorem dX9_hang_3 : decode cX9_hang 3 = .ok (.invokevirtual 134, 3) := by decide +kernel
theorem dX9_hang_6 : decode cX9_hang 6 = .ok (.ifCond .eq 10, 3) := by decide +kernel
theorem dX9_hang_9 : decode cX9_hang 9 = .ok (.iload_n 3, 1) := by decide +kernel
theorem dX9_hang_10 : decode cX9_hang 10 = .ok (.invokestatic 90, 3) := by decide +kernel
theorem dX9_hang_13 : decode cX9_hang 13 = .ok (.ifCond .ne 9, 3) := by decide +kernel
theorem dX9_hang_16 : decode cX9_hang 16 = .ok (.aload_n 0, 1) := by decide +kernel
theorem dX9_hang_17 : decode cX9_hang 17 = .ok (.iconst (-1), 1) := by decide +kernel
theorem dX9_hang_18 : decode cX9_hang 18 = .ok (.invokevirtual 96, 3) := by decide +kernel
theorem dX9_hang_21 : decode cX9_hang 21 = .ok (.ireturn, 1) := by decide +kernel
theorem dX9_hang_22 : decode cX9_hang 22 = .ok (.aload_n 0, 1) := by decide +kernel
theorem dX9_hang_23 : decode cX9_hang 23 = .ok (.getfield 20, 3) := by decide +kernel
theorem dX9_hang_26 : decode cX9_hang 26 = .ok (.iconst 5, 1) := by decide +kernel
theorem dX9_hang_27 : decode cX9_hang 27 = .ok (.iload_n 3, 1) := by decide +kernel
theorem dX9_hang_28 : decode cX9_hang 28 = .ok (.imul, 1) := by decide +kernel
theorem dX9_hang_29 : decode cX9_hang 29 = .ok (.aload_n 0, 1) := by decide +kernel
theorem dX9_hang_30 : decode cX9_hang 30 = .ok (.getfield 26, 3) := by decide +kernel
theorem dX9_hang_33 : decode cX9_hang 33 = .ok (.iload_n 1, 1) := by decide +kernel
theorem dX9_hang_34 : decode cX9_hang 34 = .ok (.iaload, 1) := by decide +kernel
theorem dX9_hang_35 : decode cX9_hang 35 = .ok (.iadd, 1) := by decide +kernel
theorem dX9_hang_36 : decode cX9_hang 36 = .ok (.iaload, 1) := by decide +kernel
theorem dX9_hang_37 : decode cX9_hang 37 = .ok (.istore 4, 2) := by decide +kernel
theorem dX9_hang_39 : decode cX9_hang 39 = .ok (.iload 4, 2) := by decide +kernel
theorem dX9_hang_41 : decode cX9_hang 41 = .ok (.ifCond .ge 10, 3) := by decide +kernel
theorem dX9_hang_44 : decode cX9_hang 44 = .ok (.aload_n 0, 1) := by decide +kernel
theorem dX9_hang_45 : decode cX9_hang 45 = .ok (.bipush (-2), 2) := by decide +kernel
theorem dX9_hang_47 : decode cX9_hang 47 = .ok (.invokevirtual 96, 3) := by decide +kernel
theorem dX9_hang_50 : decode cX9_hang 50 = .ok (.ireturn, 1) := by decide +kernel
theorem dX9_hang_51 : decode cX9_hang 51 = .ok (.aload_n 0, 1) := by decide +kernel
theorem dX9_hang_52 : decode cX9_hang 52 = .ok (.iload_n 1, 1) := by decide +kernel
theorem dX9_hang_53 : decode cX9_hang 53 = .ok (.iload_n 2, 1) := by decide +kernel
theorem dX9_hang_54 : decode cX9_hang 54 = .ok (.iload 4, 2) := by decide +kernel
theorem dX9_hang_56 : decode cX9_hang 56 = .ok (.invokevirtual 128, 3) := by decide +kernel
theorem dX9_hang_59 : decode cX9_hang 59 = .ok (.aload_n 0, 1) := by decide +kernel
theorem dX9_hang_60 : decode cX9_hang 60 = .ok (.aload_n 0, 1) := by decide +kernel
theorem dX9_hang_61 : decode cX9_hang 61 = .ok (.getfield 14, 3) := by decide +kernel
theorem dX9_hang_64 : decode cX9_hang 64 = .ok (.iload 4, 2) := by decide +kernel
theorem dX9_hang_66 : decode cX9_hang 66 = .ok (.iaload, 1) := by decide +kernel
theorem dX9_hang_67 : decode cX9_hang 67 = .ok (.invokevirtual 96, 3) := by decide +kernel
theorem dX9_hang_70 : decode cX9_hang 70 = .ok (.ireturn, 1) := by decide +kernel
theorem dX9_fit_0 : decode cX9_fit 0 = .ok (.aload_n 0, 1) := by decide +kernel
theorem dX9_fit_1 : decode cX9_fit 1 = .ok (.iload_n 1, 1) := by decide +kernel
theorem dX9_fit_2 : decode cX9_fit 2 = .ok (.iload_n 2, 1) := by decide +kernel
theorem dX9_fit_3 : decode cX9_fit 3 = .ok (.invokevirtual 134, 3) := by decide +kernel
theorem dX9_fit_6 : decode cX9_fit 6 = .ok (.ifCond .eq 10, 3) := by decide +kernel
theorem dX9_fit_9 : decode cX9_fit 9 = .ok (.iload_n 3, 1) := by decide +kernel
theorem dX9_fit_10 : decode cX9_fit 10 = .ok (.invokestatic 90, 3) := by decide +kernel
theorem dX9_fit_13 : decode cX9_fit 13 = .ok (.ifCond .ne 9, 3) := by decide +kernel
theorem dX9_fit_16 : decode cX9_fit 16 = .ok (.aload_n 0, 1) := by decide +kernel
theorem dX9_fit_17 : decode cX9_fit 17 = .ok (.iconst (-1), 1) := by decide +kernel
theorem dX9_fit_18 : decode cX9_fit 18 = .ok (.invokevirtual 96, 3) := by decide +kernel
theorem dX9_fit_21 : decode cX9_fit 21 = .ok (.ireturn, 1) := by decide +kernel
theorem dX9_fit_22 : decode cX9_fit 22 = .ok (.aload_n 0, 1) := by decide +kernel
theorem dX9_fit_23 : decode cX9_fit 23 = .ok (.getfield 23, 3) := by decide +kernel
theorem dX9_fit_26 : decode cX9_fit 26 = .ok (.bipush 40, 2) := by decide +kernel
theorem dX9_fit_28 : decode cX9_fit 28 = .ok (.iload_n 1, 1) := by decide +kernel
theorem dX9_fit_29 : decode cX9_fit 29 = .ok (.imul, 1) := by decide +kernel
theorem dX9_fit_30 : decode cX9_fit 30 = .ok (.iload_n 2, 1) := by decide +kernel
theorem dX9_fit_31 : decode cX9_fit 31 = .ok (.iadd, 1) := by decide +kernel
theorem dX9_fit_32 : decode cX9_fit 32 = .ok (.iaload, 1) := by decide +kernel
theorem dX9_fit_33 : decode cX9_fit 33 = .ok (.istore 4, 2) := by decide +kernel
theorem dX9_fit_35 : decode cX9_fit 35 = .ok (.iload 4, 2) := by decide +kernel
theorem dX9_fit_37 : decode cX9_fit 37 = .ok (.ifCond .ge 10, 3) := by decide +kernel
theorem dX9_fit_40 : decode cX9_fit 40 = .ok (.aload_n 0, 1) := by decide +kernel
theorem dX9_fit_41 : decode cX9_fit 41 = .ok (.bipush (-2), 2) := by decide +kernel
theorem dX9_fit_43 : decode cX9_fit 43 = .ok (.invokevirtual 96, 3) := by decide +kernel
theorem dX9_fit_46 : decode cX9_fit 46 = .ok (.ireturn, 1) := by decide +kernel
theorem dX9_fit_47 : decode cX9_fit 47 = .ok (.aload_n 0, 1) := by decide +kernel
theorem dX9_fit_48 : decode cX9_fit 48 = .ok (.iload_n 3, 1) := by decide +kernel
theorem dX9_fit_49 : decode cX9_fit 49 = .ok (.aload_n 0, 1) := by decide +kernel
theorem dX9_fit_50 : decode cX9_fit 50 = .ok (.getfield 26, 3) := by decide +kernel
theorem dX9_fit_53 : decode cX9_fit 53 = .ok (.iload_n 1, 1) := by decide +kernel
theorem dX9_fit_54 : decode cX9_fit 54 = .ok (.iaload, 1) := by decide +kernel
theorem dX9_fit_55 : decode cX9_fit 55 = .ok (.iload 4, 2) := by decide +kernel
theorem dX9_fit_57 : decode cX9_fit 57 = .ok (.invokevirtual 103, 3) := by decide +kernel
theorem dX9_fit_60 : decode cX9_fit 60 = .ok (.aload_n 0, 1) := by decide +kernel
theorem dX9_fit_61 : decode cX9_fit 61 = .ok (.aload_n 0, 1) := by decide +kernel
theorem dX9_fit_62 : decode cX9_fit 62 = .ok (.getfield 14, 3) := by decide +kernel
theorem dX9_fit_65 : decode cX9_fit 65 = .ok (.iload 4, 2) := by decide +kernel
theorem dX9_fit_67 : decode cX9_fit 67 = .ok (.iaload, 1) := by decide +kernel
theorem dX9_fit_68 : decode cX9_fit 68 = .ok (.invokevirtual 96, 3) := by decide +kernel
theorem dX9_fit_71 : decode cX9_fit 71 = .ok (.ireturn, 1) := by decide +kernel
theorem dX9_cell_0 : decode cX9_cell 0 = .ok (.aload_n 0, 1) := by decide +kernel
theorem dX9_cell_1 : decode cX9_cell 1 = .ok (.iload_n 1, 1) := by decide +kernel
theorem dX9_cell_2 : decode cX9_cell 2 = .ok (.iload_n 2, 1) := by decide +kernel
theorem dX9_cell_3 : decode cX9_cell 3 = .ok (.invokevirtual 134, 3) := by decide +kernel
theorem dX9_cell_6 : decode cX9_cell 6 = .ok (.ifCond .ne 10, 3) := by decide +kernel
theorem dX9_cell_9 : decode cX9_cell 9 = .ok (.aload_n 0, 1) := by decide +kernel
theorem dX9_cell_10 : decode cX9_cell 10 = .ok (.iconst (-1), 1) := by decide +kernel
theorem dX9_cell_11 : decode cX9_cell 11 = .ok (.putfield 54, 3) := by decide +kernel
theorem dX9_cell_14 : decode cX9_cell 14 = .ok (.iconst 0, 1) := by decide +kernel
theorem dX9_cell_15 : decode cX9_cell 15 = .ok (.ireturn, 1) := by decide +kernel
theorem dX9_cell_16 : decode cX9_cell 16 = .ok (.aload_n 0, 1) := by decide +kernel
theorem dX9_cell_17 : decode cX9_cell 17 = .ok (.aload_n 0, 1) := by decide +kernel
theorem dX9_cell_18 : decode cX9_cell 18 = .ok (.getfield 23, 3) := by decide +kernel
theorem dX9_cell_21 : decode cX9_cell 21 = .ok (.bipush 40, 2) := by decide +kernel
theorem dX9_cell_23 : decode cX9_cell 23 = .ok (.iload_n 1, 1) := by decide +kernel
theorem dX9_cell_24 : decode cX9_cell 24 = .ok (.imul, 1) := by decide +kernel
theorem dX9_cell_25 : decode cX9_cell 25 = .ok (.iload_n 2, 1) := by decide +kernel
theorem dX9_cell_26 : decode cX9_cell 26 = .ok (.iadd, 1) := by decide +kernel
theorem dX9_cell_27 : decode cX9_cell 27 = .ok (.iaload, 1) := by decide +kernel
theorem dX9_cell_28 : decode cX9_cell 28 = .ok (.iload_n 3, 1) := by decide +kernel
theorem dX9_cell_29 : decode cX9_cell 29 = .ok (.invokevirtual 107, 3) := by decide +kernel
theorem dX9_cell_32 : decode cX9_cell 32 = .ok (.ireturn, 1) := by decide +kernel
theorem dX9_set_0 : decode cX9_set 0 = .ok (.aload_n 0, 1) := by decide +kernel
theorem dX9_set_1 : decode cX9_set 1 = .ok (.iload_n 1, 1) := by decide +kernel
theorem dX9_set_2 : decode cX9_set 2 = .ok (.iload_n 2, 1) := by decide +kernel
theorem dX9_set_3 : decode cX9_set 3 = .ok (.invokevirtual 134, 3) := by decide +kernel
theorem dX9_set_6 : decode cX9_set 6 = .ok (.ifCond .ne 9, 3) := by decide +kernel
theorem dX9_set_9 : decode cX9_set 9 = .ok (.aload_n 0, 1) := by decide +kernel
theorem dX9_set_10 : decode cX9_set 10 = .ok (.iconst (-1), 1) := by decide +kernel
theorem dX9_set_11 : decode cX9_set 11 = .ok (.invokevirtual 96, 3) := by decide +kernel
theorem dX9_set_14 : decode cX9_set 14 = .ok (.ireturn, 1) := by decide +kernel
theorem dX9_set_15 : decode cX9_set 15 = .ok (.aload_n 0, 1) := by decide +kernel
theorem dX9_set_16 : decode cX9_set 16 = .ok (.aload_n 0, 1) := by decide +kernel
theorem dX9_set_17 : decode cX9_set 17 = .ok (.aload_n 0, 1) := by decide +kernel
theorem dX9_set_18 : decode cX9_set 18 = .ok (.getfield 26, 3) := by decide +kernel
theorem dX9_set_21 : decode cX9_set 21 = .ok (.iload_n 1, 1) := by decide +kernel
theorem dX9_set_22 : decode cX9_set 22 = .ok (.iaload, 1) := by decide +kernel
theorem dX9_set_23 : decode cX9_set 23 = .ok (.aload_n 0, 1) := by decide +kernel
theorem dX9_set_24 : decode cX9_set 24 = .ok (.getfield 23, 3) := by decide +kernel
theorem dX9_set_27 : decode cX9_set 27 = .ok (.bipush 40, 2) := by decide +kernel
theorem dX9_set_29 : decode cX9_set 29 = .ok (.iload_n 1, 1) := by decide +kernel
theorem dX9_set_30 : decode cX9_set 30 = .ok (.imul, 1) := by decide +kernel
theorem dX9_set_31 : decode cX9_set 31 = .ok (.iload_n 2, 1) := by decide +kernel
theorem dX9_set_32 : decode cX9_set 32 = .ok (.iadd, 1) := by decide +kernel
theorem dX9_set_33 : decode cX9_set 33 = .ok (.iaload, 1) := by decide +kernel
theorem dX9_set_34 : decode cX9_set 34 = .ok (.iload_n 3, 1) := by decide +kernel
theorem dX9_set_35 : decode cX9_set 35 = .ok (.iload 4, 2) := by decide +kernel
theorem dX9_set_37 : decode cX9_set 37 = .ok (.invokevirtual 110, 3) := by decide +kernel
theorem dX9_set_40 : decode cX9_set 40 = .ok (.invokevirtual 96, 3) := by decide +kernel
theorem dX9_set_43 : decode cX9_set 43 = .ok (.ireturn, 1) := by decide +kernel
theorem dX9_twist_0 : decode cX9_twist 0 = .ok (.aload_n 0, 1) := by decide +kernel
theorem dX9_twist_1 : decode cX9_twist 1 = .ok (.iload_n 1, 1) := by decide +kernel
theorem dX9_twist_2 : decode cX9_twist 2 = .ok (.iload_n 2, 1) := by decide +kernel
theorem dX9_twist_3 : decode cX9_twist 3 = .ok (.invokevirtual 134, 3) := by decide +kernel
theorem dX9_twist_6 : decode cX9_twist 6 = .ok (.ifCond .ne 9, 3) := by decide +kernel
theorem dX9_twist_9 : decode cX9_twist 9 = .ok (.aload_n 0, 1) := by decide +kernel
theorem dX9_twist_10 : decode cX9_twist 10 = .ok (.iconst (-1), 1) := by decide +kernel
theorem dX9_twist_11 : decode cX9_twist 11 = .ok (.invokevirtual 96, 3) := by decide +kernel
theorem dX9_twist_14 : decode cX9_twist 14 = .ok (.ireturn, 1) := by decide +kernel
theorem dX9_twist_15 : decode cX9_twist 15 = .ok (.aload_n 0, 1) := by decide +kernel
theorem dX9_twist_16 : decode cX9_twist 16 = .ok (.aload_n 0, 1) := by decide +kernel
theorem dX9_twist_17 : decode cX9_twist 17 = .ok (.aload_n 0, 1) := by decide +kernel
theorem dX9_twist_18 : decode cX9_twist 18 = .ok (.getfield 26, 3) := by decide +kernel
theorem dX9_twist_21 : decode cX9_twist 21 = .ok (.iload_n 1, 1) := by decide +kernel
theorem dX9_twist_22 : decode cX9_twist 22 = .ok (.iaload, 1) := by decide +kernel
theorem dX9_twist_23 : decode cX9_twist 23 = .ok (.aload_n 0, 1) := by decide +kernel
theorem dX9_twist_24 : decode cX9_twist 24 = .ok (.getfield 23, 3) := by decide +kernel
theorem dX9_twist_27 : decode cX9_twist 27 = .ok (.bipush 40, 2) := by decide +kernel
theorem dX9_twist_29 : decode cX9_twist 29 = .ok (.iload_n 1, 1) := by decide +kernel
theorem dX9_twist_30 : decode cX9_twist 30 = .ok (.imul, 1) := by decide +kernel
theorem dX9_twist_31 : decode cX9_twist 31 = .ok (.iload_n 2, 1) := by decide +kernel
theorem dX9_twist_32 : decode cX9_twist 32 = .ok (.iadd, 1) := by decide +kernel
theorem dX9_twist_33 : decode cX9_twist 33 = .ok (.iaload, 1) := by decide +kernel
theorem dX9_twist_34 : decode cX9_twist 34 = .ok (.iload_n 3, 1) := by decide +kernel
theorem dX9_twist_35 : decode cX9_twist 35 = .ok (.iload 4, 2) := by decide +kernel
theorem dX9_twist_37 : decode cX9_twist 37 = .ok (.invokevirtual 114, 3) := by decide +kernel
theorem dX9_twist_40 : decode cX9_twist 40 = .ok (.invokevirtual 96, 3) := by decide +kernel
theorem dX9_twist_43 : decode cX9_twist 43 = .ok (.ireturn, 1) := by decide +kernel
theorem dX9_state_0 : decode cX9_state 0 = .ok (.aload_n 0, 1) := by decide +kernel
theorem dX9_state_1 : decode cX9_state 1 = .ok (.getfield 54, 3) := by decide +kernel
theorem dX9_state_4 : decode cX9_state 4 = .ok (.ireturn, 1) := by decide +kernel
