theorem dX9_init_0 : decode cX9_init 0 = .ok (.aload_n 0, 1) := by decide +kernel
theorem dX9_init_1 : decode cX9_init 1 = .ok (.invokespecial 1, 3) := by decide +kernel
theorem dX9_init_4 : decode cX9_init 4 = .ok (.aload_n 0, 1) := by decide +kernel
theorem dX9_init_5 : decode cX9_init 5 = .ok (.ldc 7, 2) := by decide +kernel
theorem dX9_init_7 : decode cX9_init 7 = .ok (.newarray .int, 2) := by decide +kernel
theorem dX9_init_9 : decode cX9_init 9 = .ok (.putfield 8, 3) := by decide +kernel
theorem dX9_init_12 : decode cX9_init 12 = .ok (.aload_n 0, 1) := by decide +kernel
theorem dX9_init_13 : decode cX9_init 13 = .ok (.sipush 202, 3) := by decide +kernel
theorem dX9_init_16 : decode cX9_init 16 = .ok (.newarray .int, 2) := by decide +kernel
theorem dX9_init_18 : decode cX9_init 18 = .ok (.putfield 14, 3) := by decide +kernel
theorem dX9_init_21 : decode cX9_init 21 = .ok (.aload_n 0, 1) := by decide +kernel
theorem dX9_init_22 : decode cX9_init 22 = .ok (.sipush 202, 3) := by decide +kernel
theorem dX9_init_25 : decode cX9_init 25 = .ok (.newarray .int, 2) := by decide +kernel
theorem dX9_init_27 : decode cX9_init 27 = .ok (.putfield 17, 3) := by decide +kernel
theorem dX9_init_30 : decode cX9_init 30 = .ok (.aload_n 0, 1) := by decide +kernel
theorem dX9_init_31 : decode cX9_init 31 = .ok (.bipush 40, 2) := by decide +kernel
theorem dX9_init_33 : decode cX9_init 33 = .ok (.newarray .int, 2) := by decide +kernel
theorem dX9_init_35 : decode cX9_init 35 = .ok (.putfield 20, 3) := by decide +kernel
theorem dX9_init_38 : decode cX9_init 38 = .ok (.aload_n 0, 1) := by decide +kernel
theorem dX9_init_39 : decode cX9_init 39 = .ok (.sipush 160, 3) := by decide +kernel
theorem dX9_init_42 : decode cX9_init 42 = .ok (.newarray .int, 2) := by decide +kernel
theorem dX9_init_44 : decode cX9_init 44 = .ok (.putfield 23, 3) := by decide +kernel
theorem dX9_init_47 : decode cX9_init 47 = .ok (.aload_n 0, 1) := by decide +kernel
theorem dX9_init_48 : decode cX9_init 48 = .ok (.iconst 4, 1) := by decide +kernel
theorem dX9_init_49 : decode cX9_init 49 = .ok (.newarray .int, 2) := by decide +kernel
theorem dX9_init_51 : decode cX9_init 51 = .ok (.putfield 26, 3) := by decide +kernel
theorem dX9_init_54 : decode cX9_init 54 = .ok (.aload_n 0, 1) := by decide +kernel
theorem dX9_init_55 : decode cX9_init 55 = .ok (.iconst 4, 1) := by decide +kernel
theorem dX9_init_56 : decode cX9_init 56 = .ok (.newarray .int, 2) := by decide +kernel
theorem dX9_init_58 : decode cX9_init 58 = .ok (.putfield 29, 3) := by decide +kernel
theorem dX9_init_61 : decode cX9_init 61 = .ok (.aload_n 0, 1) := by decide +kernel
theorem dX9_init_62 : decode cX9_init 62 = .ok (.bipush 8, 2) := by decide +kernel
theorem dX9_init_64 : decode cX9_init 64 = .ok (.newarray .int, 2) := by decide +kernel
theorem dX9_init_66 : decode cX9_init 66 = .ok (.putfield 32, 3) := by decide +kernel
theorem dX9_init_69 : decode cX9_init 69 = .ok (.aload_n 0, 1) := by decide +kernel
theorem dX9_init_70 : decode cX9_init 70 = .ok (.bipush 8, 2) := by decide +kernel
theorem dX9_init_72 : decode cX9_init 72 = .ok (.newarray .int, 2) := by decide +kernel
theorem dX9_init_74 : decode cX9_init 74 = .ok (.putfield 35, 3) := by decide +kernel
theorem dX9_init_77 : decode cX9_init 77 = .ok (.aload_n 0, 1) := by decide +kernel
theorem dX9_init_78 : decode cX9_init 78 = .ok (.bipush 8, 2) := by decide +kernel
theorem dX9_init_80 : decode cX9_init 80 = .ok (.newarray .int, 2) := by decide +kernel
theorem dX9_init_82 : decode cX9_init 82 = .ok (.putfield 38, 3) := by decide +kernel
theorem dX9_init_85 : decode cX9_init 85 = .ok (.aload_n 0, 1) := by decide +kernel
theorem dX9_init_86 : decode cX9_init 86 = .ok (.bipush 8, 2) := by decide +kernel
theorem dX9_init_88 : decode cX9_init 88 = .ok (.newarray .int, 2) := by decide +kernel
theorem dX9_init_90 : decode cX9_init 90 = .ok (.putfield 41, 3) := by decide +kernel
theorem dX9_init_93 : decode cX9_init 93 = .ok (.aload_n 0, 1) := by decide +kernel
theorem dX9_init_94 : decode cX9_init 94 = .ok (.bipush 8, 2) := by decide +kernel
theorem dX9_init_96 : decode cX9_init 96 = .ok (.newarray .long, 2) := by decide +kernel
theorem dX9_init_98 : decode cX9_init 98 = .ok (.putfield 44, 3) := by decide +kernel
theorem dX9_init_101 : decode cX9_init 101 = .ok (.aload_n 0, 1) := by decide +kernel
theorem dX9_init_102 : decode cX9_init 102 = .ok (.bipush 8, 2) := by decide +kernel
theorem dX9_init_104 : decode cX9_init 104 = .ok (.newarray .int, 2) := by decide +kernel
theorem dX9_init_106 : decode cX9_init 106 = .ok (.putfield 48, 3) := by decide +kernel
theorem dX9_init_109 : decode cX9_init 109 = .ok (.aload_n 0, 1) := by decide +kernel
theorem dX9_init_110 : decode cX9_init 110 = .ok (.bipush 8, 2) := by decide +kernel
theorem dX9_init_112 : decode cX9_init 112 = .ok (.newarray .int, 2) := by decide +kernel
theorem dX9_init_114 : decode cX9_init 114 = .ok (.putfield 51, 3) := by decide +kernel
theorem dX9_init_117 : decode cX9_init 117 = .ok (.iconst 0, 1) := by decide +kernel
theorem dX9_init_118 : decode cX9_init 118 = .ok (.istore_n 1, 1) := by decide +kernel
theorem dX9_init_119 : decode cX9_init 119 = .ok (.iload_n 1, 1) := by decide +kernel
theorem dX9_init_120 : decode cX9_init 120 = .ok (.bipush 40, 2) := by decide +kernel
theorem dX9_init_122 : decode cX9_init 122 = .ok (.if_icmp .ge 16, 3) := by decide +kernel
theorem dX9_init_125 : decode cX9_init 125 = .ok (.aload_n 0, 1) := by decide +kernel
theorem dX9_init_126 : decode cX9_init 126 = .ok (.getfield 20, 3) := by decide +kernel
theorem dX9_init_129 : decode cX9_init 129 = .ok (.iload_n 1, 1) := by decide +kernel
theorem dX9_init_130 : decode cX9_init 130 = .ok (.iconst (-1), 1) := by decide +kernel
theorem dX9_init_131 : decode cX9_init 131 = .ok (.iastore, 1) := by decide +kernel
theorem dX9_init_132 : decode cX9_init 132 = .ok (.iinc 1 1, 3) := by decide +kernel
theorem dX9_init_135 : decode cX9_init 135 = .ok (.goto (-16), 3) := by decide +kernel
theorem dX9_init_138 : decode cX9_init 138 = .ok (.iconst 0, 1) := by decide +kernel
theorem dX9_init_139 : decode cX9_init 139 = .ok (.istore_n 1, 1) := by decide +kernel
theorem dX9_init_140 : decode cX9_init 140 = .ok (.iload_n 1, 1) := by decide +kernel
theorem dX9_init_141 : decode cX9_init 141 = .ok (.sipush 160, 3) := by decide +kernel
theorem dX9_init_144 : decode cX9_init 144 = .ok (.if_icmp .ge 16, 3) := by decide +kernel
theorem dX9_init_147 : decode cX9_init 147 = .ok (.aload_n 0, 1) := by decide +kernel
theorem dX9_init_148 : decode cX9_init 148 = .ok (.getfield 23, 3) := by decide +kernel
theorem dX9_init_151 : decode cX9_init 151 = .ok (.iload_n 1, 1) := by decide +kernel
theorem dX9_init_152 : decode cX9_init 152 = .ok (.iconst (-1), 1) := by decide +kernel
theorem dX9_init_153 : decode cX9_init 153 = .ok (.iastore, 1) := by decide +kernel
theorem dX9_init_154 : decode cX9_init 154 = .ok (.iinc 1 1, 3) := by decide +kernel
theorem dX9_init_157 : decode cX9_init 157 = .ok (.goto (-17), 3) := by decide +kernel
theorem dX9_init_160 : decode cX9_init 160 = .ok (.iconst 0, 1) := by decide +kernel
theorem dX9_init_161 : decode cX9_init 161 = .ok (.istore_n 1, 1) := by decide +kernel
theorem dX9_init_162 : decode cX9_init 162 = .ok (.iload_n 1, 1) := by decide +kernel
theorem dX9_init_163 : decode cX9_init 163 = .ok (.iconst 4, 1) := by decide +kernel
theorem dX9_init_164 : decode cX9_init 164 = .ok (.if_icmp .ge 16, 3) := by decide +kernel
theorem dX9_init_167 : decode cX9_init 167 = .ok (.aload_n 0, 1) := by decide +kernel
theorem dX9_init_168 : decode cX9_init 168 = .ok (.getfield 26, 3) := by decide +kernel
theorem dX9_init_171 : decode cX9_init 171 = .ok (.iload_n 1, 1) := by decide +kernel
theorem dX9_init_172 : decode cX9_init 172 = .ok (.iconst (-1), 1) := by decide +kernel
theorem dX9_init_173 : decode cX9_init 173 = .ok (.iastore, 1) := by decide +kernel
theorem dX9_init_174 : decode cX9_init 174 = .ok (.iinc 1 1, 3) := by decide +kernel
theorem dX9_init_177 : decode cX9_init 177 = .ok (.goto (-15), 3) := by decide +kernel
theorem dX9_init_180 : decode cX9_init 180 = .ok (.return_, 1) := by decide +kernel
theorem dX9_told_0 : decode cX9_told 0 = .ok (.aload_n 0, 1) := by decide +kernel
theorem dX9_told_1 : decode cX9_told 1 = .ok (.iload_n 1, 1) := by decide +kernel
theorem dX9_told_2 : decode cX9_told 2 = .ok (.ifCond .ge 7, 3) := by decide +kernel
theorem dX9_told_5 : decode cX9_told 5 = .ok (.iload_n 1, 1) := by decide +kernel
theorem dX9_told_6 : decode cX9_told 6 = .ok (.goto 4, 3) := by decide +kernel
theorem dX9_told_9 : decode cX9_told 9 = .ok (.iconst 0, 1) := by decide +kernel
theorem dX9_told_10 : decode cX9_told 10 = .ok (.putfield 54, 3) := by decide +kernel
theorem dX9_told_13 : decode cX9_told 13 = .ok (.iload_n 1, 1) := by decide +kernel
theorem dX9_told_14 : decode cX9_told 14 = .ok (.ireturn, 1) := by decide +kernel
theorem dX9_in_0 : decode cX9_in 0 = .ok (.iload_n 0, 1) := by decide +kernel
theorem dX9_in_1 : decode cX9_in 1 = .ok (.iload_n 1, 1) := by decide +kernel
theorem dX9_in_2 : decode cX9_in 2 = .ok (.if_icmp .lt 12, 3) := by decide +kernel
theorem dX9_in_5 : decode cX9_in 5 = .ok (.iload_n 0, 1) := by decide +kernel
theorem dX9_in_6 : decode cX9_in 6 = .ok (.iload_n 2, 1) := by decide +kernel
theorem dX9_in_7 : decode cX9_in 7 = .ok (.if_icmp .gt 7, 3) := by decide +kernel
theorem dX9_in_10 : decode cX9_in 10 = .ok (.iconst 1, 1) := by decide +kernel
theorem dX9_in_11 : decode cX9_in 11 = .ok (.goto 4, 3) := by decide +kernel
theorem dX9_in_14 : decode cX9_in 14 = .ok (.iconst 0, 1) := by decide +kernel
theorem dX9_in_15 : decode cX9_in 15 = .ok (.ireturn, 1) := by decide +kernel
theorem dX9_isDrum_0 : decode cX9_isDrum 0 = .ok (.iload_n 0, 1) := by decide +kernel
theorem dX9_isDrum_1 : decode cX9_isDrum 1 = .ok (.iconst 0, 1) := by decide +kernel
theorem dX9_isDrum_2 : decode cX9_isDrum 2 = .ok (.bipush 7, 2) := by decide +kernel
theorem dX9_isDrum_4 : decode cX9_isDrum 4 = .ok (.invokestatic 58, 3) := by decide +kernel
theorem dX9_isDrum_7 : decode cX9_isDrum 7 = .ok (.ireturn, 1) := by decide +kernel
theorem dX9_isKind_0 : decode cX9_isKind 0 = .ok (.iload_n 0, 1) := by decide +kernel
theorem dX9_isKind_1 : decode cX9_isKind 1 = .ok (.iconst 0, 1) := by decide +kernel
theorem dX9_isKind_2 : decode cX9_isKind 2 = .ok (.iconst 4, 1) := by decide +kernel
theorem dX9_isKind_3 : decode cX9_isKind 3 = .ok (.invokestatic 58, 3) := by decide +kernel
theorem dX9_isKind_6 : decode cX9_isKind 6 = .ok (.ireturn, 1) := by decide +kernel
theorem dX9_isComb_0 : decode cX9_isComb 0 = .ok (.iload_n 1, 1) := by decide +kernel
theorem dX9_isComb_1 : decode cX9_isComb 1 = .ok (.iconst 0, 1) := by decide +kernel
theorem dX9_isComb_2 : decode cX9_isComb 2 = .ok (.iconst 3, 1) := by decide +kernel
theorem dX9_isComb_3 : decode cX9_isComb 3 = .ok (.invokestatic 58, 3) := by decide +kernel
theorem dX9_isComb_6 : decode cX9_isComb 6 = .ok (.ifCond .eq 30, 3) := by decide +kernel
theorem dX9_isComb_9 : decode cX9_isComb 9 = .ok (.aload_n 0, 1) := by decide +kernel
theorem dX9_isComb_10 : decode cX9_isComb 10 = .ok (.getfield 26, 3) := by decide +kernel
theorem dX9_isComb_13 : decode cX9_isComb 13 = .ok (.iload_n 1, 1) := by decide +kernel
theorem dX9_isComb_14 : decode cX9_isComb 14 = .ok (.ifCond .lt 8, 3) := by decide +kernel
theorem dX9_isComb_17 : decode cX9_isComb 17 = .ok (.iload_n 1, 1) := by decide +kernel
theorem dX9_isComb_18 : decode cX9_isComb 18 = .ok (.iconst 3, 1) := by decide +kernel
theorem dX9_isComb_19 : decode cX9_isComb 19 = .ok (.if_icmp .le 7, 3) := by decide +kernel
theorem dX9_isComb_22 : decode cX9_isComb 22 = .ok (.iconst 0, 1) := by decide +kernel
theorem dX9_isComb_23 : decode cX9_isComb 23 = .ok (.goto 4, 3) := by decide +kernel
theorem dX9_isComb_26 : decode cX9_isComb 26 = .ok (.iload_n 1, 1) := by decide +kernel
theorem dX9_isComb_27 : decode cX9_isComb 27 = .ok (.iaload, 1) := by decide +kernel
theorem dX9_isComb_28 : decode cX9_isComb 28 = .ok (.iconst (-1), 1) := by decide +kernel
theorem dX9_isComb_29 : decode cX9_isComb 29 = .ok (.if_icmp .eq 7, 3) := by decide +kernel
theorem dX9_isComb_32 : decode cX9_isComb 32 = .ok (.iconst 1, 1) := by decide +kernel
theorem dX9_isComb_33 : decode cX9_isComb 33 = .ok (.goto 4, 3) := by decide +kernel
theorem dX9_isComb_36 : decode cX9_isComb 36 = .ok (.iconst 0, 1) := by decide +kernel
theorem dX9_isComb_37 : decode cX9_isComb 37 = .ok (.ireturn, 1) := by decide +kernel
theorem dX9_isTooth_0 : decode cX9_isTooth 0 = .ok (.aload_n 0, 1) := by decide +kernel
theorem dX9_isTooth_1 : decode cX9_isTooth 1 = .ok (.iload_n 1, 1) := by decide +kernel
theorem dX9_isTooth_2 : decode cX9_isTooth 2 = .ok (.invokevirtual 62, 3) := by decide +kernel
theorem dX9_isTooth_5 : decode cX9_isTooth 5 = .ok (.ifCond .eq 21, 3) := by decide +kernel
theorem dX9_isTooth_8 : decode cX9_isTooth 8 = .ok (.iload_n 2, 1) := by decide +kernel
theorem dX9_isTooth_9 : decode cX9_isTooth 9 = .ok (.ifCond .lt 17, 3) := by decide +kernel
theorem dX9_isTooth_12 : decode cX9_isTooth 12 = .ok (.iload_n 2, 1) := by decide +kernel
theorem dX9_isTooth_13 : decode cX9_isTooth 13 = .ok (.aload_n 0, 1) := by decide +kernel
theorem dX9_isTooth_14 : decode cX9_isTooth 14 = .ok (.getfield 29, 3) := by decide +kernel
theorem dX9_isTooth_17 : decode cX9_isTooth 17 = .ok (.iload_n 1, 1) := by decide +kernel
theorem dX9_isTooth_18 : decode cX9_isTooth 18 = .ok (.iaload, 1) := by decide +kernel
theorem dX9_isTooth_19 : decode cX9_isTooth 19 = .ok (.if_icmp .ge 7, 3) := by decide +kernel
theorem dX9_isTooth_22 : decode cX9_isTooth 22 = .ok (.iconst 1, 1) := by decide +kernel
theorem dX9_isTooth_23 : decode cX9_isTooth 23 = .ok (.goto 4, 3) := by decide +kernel
theorem dX9_isTooth_26 : decode cX9_isTooth 26 = .ok (.iconst 0, 1) := by decide +kernel
theorem dX9_isTooth_27 : decode cX9_isTooth 27 = .ok (.ireturn, 1) := by decide +kernel
theorem dX9_newTrack_0 : decode cX9_newTrack 0 = .ok (.iconst 0, 1) := by decide +kernel
theorem dX9_newTrack_1 : decode cX9_newTrack 1 = .ok (.istore_n 2, 1) := by decide +kernel
theorem dX9_newTrack_2 : decode cX9_newTrack 2 = .ok (.aload_n 0, 1) := by decide +kernel
theorem dX9_newTrack_3 : decode cX9_newTrack 3 = .ok (.getfield 17, 3) := by decide +kernel
theorem dX9_newTrack_6 : decode cX9_newTrack 6 = .ok (.iload_n 2, 1) := by decide +kernel
theorem dX9_newTrack_7 : decode cX9_newTrack 7 = .ok (.iaload, 1) := by decide +kernel
theorem dX9_newTrack_8 : decode cX9_newTrack 8 = .ok (.ifCond .le 9, 3) := by decide +kernel
theorem dX9_newTrack_11 : decode cX9_newTrack 11 = .ok (.iinc 2 1, 3) := by decide +kernel
theorem dX9_newTrack_14 : decode cX9_newTrack 14 = .ok (.goto (-12), 3) := by decide +kernel
theorem dX9_newTrack_17 : decode cX9_newTrack 17 = .ok (.aload_n 0, 1) := by decide +kernel
theorem dX9_newTrack_18 : decode cX9_newTrack 18 = .ok (.getfield 14, 3) := by decide +kernel
theorem dX9_newTrack_21 : decode cX9_newTrack 21 = .ok (.iload_n 2, 1) := by decide +kernel
theorem dX9_newTrack_22 : decode cX9_newTrack 22 = .ok (.iload_n 1, 1) := by decide +kernel
theorem dX9_newTrack_23 : decode cX9_newTrack 23 = .ok (.iastore, 1) := by decide +kernel
theorem dX9_newTrack_24 : decode cX9_newTrack 24 = .ok (.iconst 0, 1) := by decide +kernel
theorem dX9_newTrack_25 : decode cX9_newTrack 25 = .ok (.istore_n 3, 1) := by decide +kernel
theorem dX9_newTrack_26 : decode cX9_newTrack 26 = .ok (.iload_n 3, 1) := by decide +kernel
theorem dX9_newTrack_27 : decode cX9_newTrack 27 = .ok (.iload_n 1, 1) := by decide +kernel
theorem dX9_newTrack_28 : decode cX9_newTrack 28 = .ok (.if_icmp .ge 22, 3) := by decide +kernel
theorem dX9_newTrack_31 : decode cX9_newTrack 31 = .ok (.aload_n 0, 1) := by decide +kernel
theorem dX9_newTrack_32 : decode cX9_newTrack 32 = .ok (.getfield 8, 3) := by decide +kernel
theorem dX9_newTrack_35 : decode cX9_newTrack 35 = .ok (.sipush 300, 3) := by decide +kernel
theorem dX9_newTrack_38 : decode cX9_newTrack 38 = .ok (.iload_n 2, 1) := by decide +kernel
theorem dX9_newTrack_39 : decode cX9_newTrack 39 = .ok (.imul, 1) := by decide +kernel
theorem dX9_newTrack_40 : decode cX9_newTrack 40 = .ok (.iload_n 3, 1) := by decide +kernel
theorem dX9_newTrack_41 : decode cX9_newTrack 41 = .ok (.iadd, 1) := by decide +kernel
theorem dX9_newTrack_42 : decode cX9_newTrack 42 = .ok (.iconst 0, 1) := by decide +kernel
theorem dX9_newTrack_43 : decode cX9_newTrack 43 = .ok (.iastore, 1) := by decide +kernel
theorem dX9_newTrack_44 : decode cX9_newTrack 44 = .ok (.iinc 3 1, 3) := by decide +kernel
theorem dX9_newTrack_47 : decode cX9_newTrack 47 = .ok (.goto (-21), 3) := by decide +kernel
theorem dX9_newTrack_50 : decode cX9_newTrack 50 = .ok (.iload_n 2, 1) := by decide +kernel
theorem dX9_newTrack_51 : decode cX9_newTrack 51 = .ok (.ireturn, 1) := by decide +kernel
theorem dX9_drumGets_0 : decode cX9_drumGets 0 = .ok (.iconst 5, 1) := by decide +kernel
theorem dX9_drumGets_1 : decode cX9_drumGets 1 = .ok (.iload_n 1, 1) := by decide +kernel
theorem dX9_drumGets_2 : decode cX9_drumGets 2 = .ok (.imul, 1) := by decide +kernel
theorem dX9_drumGets_3 : decode cX9_drumGets 3 = .ok (.iload_n 2, 1) := by decide +kernel
theorem dX9_drumGets_4 : decode cX9_drumGets 4 = .ok (.iadd, 1) := by decide +kernel
theorem dX9_drumGets_5 : decode cX9_drumGets 5 = .ok (.istore 4, 2) := by decide +kernel
theorem dX9_drumGets_7 : decode cX9_drumGets 7 = .ok (.iload_n 3, 1) := by decide +kernel
theorem dX9_drumGets_8 : decode cX9_drumGets 8 = .ok (.ifCond .lt 13, 3) := by decide +kernel
theorem dX9_drumGets_11 : decode cX9_drumGets 11 = .ok (.aload_n 0, 1) := by decide +kernel
theorem dX9_drumGets_12 : decode cX9_drumGets 12 = .ok (.getfield 17, 3) := by decide +kernel
theorem dX9_drumGets_15 : decode cX9_drumGets 15 = .ok (.iload_n 3, 1) := by decide +kernel
theorem dX9_drumGets_16 : decode cX9_drumGets 16 = .ok (.dup2, 1) := by decide +kernel
theorem dX9_drumGets_17 : decode cX9_drumGets 17 = .ok (.iaload, 1) := by decide +kernel
theorem dX9_drumGets_18 : decode cX9_drumGets 18 = .ok (.iconst 1, 1) := by decide +kernel
theorem dX9_drumGets_19 : decode cX9_drumGets 19 = .ok (.iadd, 1) := by decide +kernel
theorem dX9_drumGets_20 : decode cX9_drumGets 20 = .ok (.iastore, 1) := by decide +kernel
theorem dX9_drumGets_21 : decode cX9_drumGets 21 = .ok (.aload_n 0, 1) := by decide +kernel
theorem dX9_drumGets_22 : decode cX9_drumGets 22 = .ok (.getfield 20, 3) := by decide +kernel
theorem dX9_drumGets_25 : decode cX9_drumGets 25 = .ok (.iload 4, 2) := by decide +kernel
theorem dX9_drumGets_27 : decode cX9_drumGets 27 = .ok (.iaload, 1) := by decide +kernel
theorem dX9_drumGets_28 : decode cX9_drumGets 28 = .ok (.ifCond .lt 19, 3) := by decide +kernel
theorem dX9_drumGets_31 : decode cX9_drumGets 31 = .ok (.aload_n 0, 1) := by decide +kernel
theorem dX9_drumGets_32 : decode cX9_drumGets 32 = .ok (.getfield 17, 3) := by decide +kernel
theorem dX9_drumGets_35 : decode cX9_drumGets 35 = .ok (.aload_n 0, 1) := by decide +kernel
theorem dX9_drumGets_36 : decode cX9_drumGets 36 = .ok (.getfield 20, 3) := by decide +kernel
theorem dX9_drumGets_39 : decode cX9_drumGets 39 = .ok (.iload 4, 2) := by decide +kernel
theorem dX9_drumGets_41 : decode cX9_drumGets 41 = .ok (.iaload, 1) := by decide +kernel
theorem dX9_drumGets_42 : decode cX9_drumGets 42 = .ok (.dup2, 1) := by decide +kernel
theorem dX9_drumGets_43 : decode cX9_drumGets 43 = .ok (.iaload, 1) := by decide +kernel
theorem dX9_drumGets_44 : decode cX9_drumGets 44 = .ok (.iconst 1, 1) := by decide +kernel
theorem dX9_drumGets_45 : decode cX9_drumGets 45 = .ok (.isub, 1) := by decide +kernel
theorem dX9_drumGets_46 : decode cX9_drumGets 46 = .ok (.iastore, 1) := by decide +kernel
theorem dX9_drumGets_47 : decode cX9_drumGets 47 = .ok (.aload_n 0, 1) := by decide +kernel
theorem dX9_drumGets_48 : decode cX9_drumGets 48 = .ok (.getfield 20, 3) := by decide +kernel
theorem dX9_drumGets_51 : decode cX9_drumGets 51 = .ok (.iload 4, 2) := by decide +kernel
theorem dX9_drumGets_53 : decode cX9_drumGets 53 = .ok (.iload_n 3, 1) := by decide +kernel
theorem dX9_drumGets_54 : decode cX9_drumGets 54 = .ok (.iastore, 1) := by decide +kernel
theorem dX9_drumGets_55 : decode cX9_drumGets 55 = .ok (.return_, 1) := by decide +kernel
theorem dX9_toothGets_0 : decode cX9_toothGets 0 = .ok (.bipush 40, 2) := by decide +kernel
theorem dX9_toothGets_2 : decode cX9_toothGets 2 = .ok (.iload_n 1, 1) := by decide +kernel
theorem dX9_toothGets_3 : decode cX9_toothGets 3 = .ok (.imul, 1) := by decide +kernel
theorem dX9_toothGets_4 : decode cX9_toothGets 4 = .ok (.iload_n 2, 1) := by decide +kernel
theorem dX9_toothGets_5 : decode cX9_toothGets 5 = .ok (.iadd, 1) := by decide +kernel
theorem dX9_toothGets_6 : decode cX9_toothGets 6 = .ok (.istore 4, 2) := by decide +kernel
theorem dX9_toothGets_8 : decode cX9_toothGets 8 = .ok (.iload_n 3, 1) := by decide +kernel
theorem dX9_toothGets_9 : decode cX9_toothGets 9 = .ok (.ifCond .lt 13, 3) := by decide +kernel
theorem dX9_toothGets_12 : decode cX9_toothGets 12 = .ok (.aload_n 0, 1) := by decide +kernel
theorem dX9_toothGets_13 : decode cX9_toothGets 13 = .ok (.getfield 17, 3) := by decide +kernel
theorem dX9_toothGets_16 : decode cX9_toothGets 16 = .ok (.iload_n 3, 1) := by decide +kernel
theorem dX9_toothGets_17 : decode cX9_toothGets 17 = .ok (.dup2, 1) := by decide +kernel
theorem dX9_toothGets_18 : decode cX9_toothGets 18 = .ok (.iaload, 1) := by decide +kernel
theorem dX9_toothGets_19 : decode cX9_toothGets 19 = .ok (.iconst 1, 1) := by decide +kernel
theorem dX9_toothGets_20 : decode cX9_toothGets 20 = .ok (.iadd, 1) := by decide +kernel
theorem dX9_toothGets_21 : decode cX9_toothGets 21 = .ok (.iastore, 1) := by decide +kernel
theorem dX9_toothGets_22 : decode cX9_toothGets 22 = .ok (.aload_n 0, 1) := by decide +kernel
theorem dX9_toothGets_23 : decode cX9_toothGets 23 = .ok (.getfield 23, 3) := by decide +kernel
theorem dX9_toothGets_26 : decode cX9_toothGets 26 = .ok (.iload 4, 2) := by decide +kernel
theorem dX9_toothGets_28 : decode cX9_toothGets 28 = .ok (.iaload, 1) := by decide +kernel
theorem dX9_toothGets_29 : decode cX9_toothGets 29 = .ok (.ifCond .lt 19, 3) := by decide +kernel
theorem dX9_toothGets_32 : decode cX9_toothGets 32 = .ok (.aload_n 0, 1) := by decide +kernel
theorem dX9_toothGets_33 : decode cX9_toothGets 33 = .ok (.getfield 17, 3) := by decide +kernel
theorem dX9_toothGets_36 : decode cX9_toothGets 36 = .ok (.aload_n 0, 1) := by decide +kernel
theorem dX9_toothGets_37 : decode cX9_toothGets 37 = .ok (.getfield 23, 3) := by decide +kernel
theorem dX9_toothGets_40 : decode cX9_toothGets 40 = .ok (.iload 4, 2) := by decide +kernel
theorem dX9_toothGets_42 : decode cX9_toothGets 42 = .ok (.iaload, 1) := by decide +kernel
theorem dX9_toothGets_43 : decode cX9_toothGets 43 = .ok (.dup2, 1) := by decide +kernel
theorem dX9_toothGets_44 : decode cX9_toothGets 44 = .ok (.iaload, 1) := by decide +kernel
theorem dX9_toothGets_45 : decode cX9_toothGets 45 = .ok (.iconst 1, 1) := by decide +kernel
theorem dX9_toothGets_46 : decode cX9_toothGets 46 = .ok (.isub, 1) := by decide +kernel
theorem dX9_toothGets_47 : decode cX9_toothGets 47 = .ok (.iastore, 1) := by decide +kernel
theorem dX9_toothGets_48 : decode cX9_toothGets 48 = .ok (.aload_n 0, 1) := by decide +kernel
theorem dX9_toothGets_49 : decode cX9_toothGets 49 = .ok (.getfield 23, 3) := by decide +kernel
theorem dX9_toothGets_52 : decode cX9_toothGets 52 = .ok (.iload 4, 2) := by decide +kernel
theorem dX9_toothGets_54 : decode cX9_toothGets 54 = .ok (.iload_n 3, 1) := by decide +kernel
theorem dX9_toothGets_55 : decode cX9_toothGets 55 = .ok (.iastore, 1) := by decide +kernel
theorem dX9_toothGets_56 : decode cX9_toothGets 56 = .ok (.return_, 1) := by decide +kernel
theorem dX9_lacks_0 : decode cX9_lacks 0 = .ok (.iload_n 1, 1) := by decide +kernel
theorem dX9_lacks_1 : decode cX9_lacks 1 = .ok (.ifCond .ge 8, 3) := by decide +kernel
theorem dX9_lacks_4 : decode cX9_lacks 4 = .ok (.bipush (-2), 2) := by decide +kernel
theorem dX9_lacks_6 : decode cX9_lacks 6 = .ok (.goto 23, 3) := by decide +kernel
theorem dX9_lacks_9 : decode cX9_lacks 9 = .ok (.iload_n 2, 1) := by decide +kernel
theorem dX9_lacks_10 : decode cX9_lacks 10 = .ok (.ifCond .lt 13, 3) := by decide +kernel
theorem dX9_lacks_13 : decode cX9_lacks 13 = .ok (.iload_n 2, 1) := by decide +kernel
theorem dX9_lacks_14 : decode cX9_lacks 14 = .ok (.aload_n 0, 1) := by decide +kernel
theorem dX9_lacks_15 : decode cX9_lacks 15 = .ok (.getfield 14, 3) := by decide +kernel
theorem dX9_lacks_18 : decode cX9_lacks 18 = .ok (.iload_n 1, 1) := by decide +kernel
theorem dX9_lacks_19 : decode cX9_lacks 19 = .ok (.iaload, 1) := by decide +kernel
theorem dX9_lacks_20 : decode cX9_lacks 20 = .ok (.if_icmp .lt 8, 3) := by decide +kernel
theorem dX9_lacks_23 : decode cX9_lacks 23 = .ok (.bipush (-3), 2) := by decide +kernel
theorem dX9_lacks_25 : decode cX9_lacks 25 = .ok (.goto 4, 3) := by decide +kernel
theorem dX9_lacks_28 : decode cX9_lacks 28 = .ok (.iconst 0, 1) := by decide +kernel
theorem dX9_lacks_29 : decode cX9_lacks 29 = .ok (.ireturn, 1) := by decide +kernel
theorem dX9_packed_0 : decode cX9_packed 0 = .ok (.iload_n 0, 1) := by decide +kernel
theorem dX9_packed_1 : decode cX9_packed 1 = .ok (.iconst 1, 1) := by decide +kernel
theorem dX9_packed_2 : decode cX9_packed 2 = .ok (.if_icmp .ne 8, 3) := by decide +kernel
theorem dX9_packed_5 : decode cX9_packed 5 = .ok (.iload_n 1, 1) := by decide +kernel
theorem dX9_packed_6 : decode cX9_packed 6 = .ok (.ldc 66, 2) := by decide +kernel
theorem dX9_packed_8 : decode cX9_packed 8 = .ok (.iand, 1) := by decide +kernel
theorem dX9_packed_9 : decode cX9_packed 9 = .ok (.ireturn, 1) := by decide +kernel
theorem dX9_packed_10 : decode cX9_packed 10 = .ok (.iload_n 0, 1) := by decide +kernel
theorem dX9_packed_11 : decode cX9_packed 11 = .ok (.iconst 2, 1) := by decide +kernel
theorem dX9_packed_12 : decode cX9_packed 12 = .ok (.if_icmp .ne 11, 3) := by decide +kernel
theorem dX9_packed_15 : decode cX9_packed 15 = .ok (.iload_n 1, 1) := by decide +kernel
theorem dX9_packed_16 : decode cX9_packed 16 = .ok (.bipush 16, 2) := by decide +kernel
theorem dX9_packed_18 : decode cX9_packed 18 = .ok (.ishl, 1) := by decide +kernel
theorem dX9_packed_19 : decode cX9_packed 19 = .ok (.bipush 16, 2) := by decide +kernel
theorem dX9_packed_21 : decode cX9_packed 21 = .ok (.ishr, 1) := by decide +kernel
theorem dX9_packed_22 : decode cX9_packed 22 = .ok (.ireturn, 1) := by decide +kernel
theorem dX9_packed_23 : decode cX9_packed 23 = .ok (.iload_n 1, 1) := by decide +kernel
theorem dX9_packed_24 : decode cX9_packed 24 = .ok (.bipush 24, 2) := by decide +kernel
theorem dX9_packed_26 : decode cX9_packed 26 = .ok (.ishl, 1) := by decide +kernel
theorem dX9_packed_27 : decode cX9_packed 27 = .ok (.bipush 24, 2) := by decide +kernel
theorem dX9_packed_29 : decode cX9_packed 29 = .ok (.ishr, 1) := by decide +kernel
theorem dX9_packed_30 : decode cX9_packed 30 = .ok (.ireturn, 1) := by decide +kernel
theorem dX9_writes_0 : decode cX9_writes 0 = .ok (.aload_n 0, 1) := by decide +kernel
theorem dX9_writes_1 : decode cX9_writes 1 = .ok (.iload_n 2, 1) := by decide +kernel
theorem dX9_writes_2 : decode cX9_writes 2 = .ok (.iload_n 3, 1) := by decide +kernel
theorem dX9_writes_3 : decode cX9_writes 3 = .ok (.invokevirtual 67, 3) := by decide +kernel
theorem dX9_writes_6 : decode cX9_writes 6 = .ok (.istore 5, 2) := by decide +kernel
theorem dX9_writes_8 : decode cX9_writes 8 = .ok (.iload 5, 2) := by decide +kernel
theorem dX9_writes_10 : decode cX9_writes 10 = .ok (.ifCond .ge 6, 3) := by decide +kernel
theorem dX9_writes_13 : decode cX9_writes 13 = .ok (.iload 5, 2) := by decide +kernel
theorem dX9_writes_15 : decode cX9_writes 15 = .ok (.ireturn, 1) := by decide +kernel
theorem dX9_writes_16 : decode cX9_writes 16 = .ok (.sipush 300, 3) := by decide +kernel
theorem dX9_writes_19 : decode cX9_writes 19 = .ok (.iload_n 2, 1) := by decide +kernel
theorem dX9_writes_20 : decode cX9_writes 20 = .ok (.imul, 1) := by decide +kernel
theorem dX9_writes_21 : decode cX9_writes 21 = .ok (.iload_n 3, 1) := by decide +kernel
theorem dX9_writes_22 : decode cX9_writes 22 = .ok (.iadd, 1) := by decide +kernel
theorem dX9_writes_23 : decode cX9_writes 23 = .ok (.istore 6, 2) := by decide +kernel
theorem dX9_writes_25 : decode cX9_writes 25 = .ok (.iload_n 1, 1) := by decide +kernel
theorem dX9_writes_26 : decode cX9_writes 26 = .ok (.ifCond .ne 23, 3) := by decide +kernel
theorem dX9_writes_29 : decode cX9_writes 29 = .ok (.aload_n 0, 1) := by decide +kernel
theorem dX9_writes_30 : decode cX9_writes 30 = .ok (.getfield 8, 3) := by decide +kernel
theorem dX9_writes_33 : decode cX9_writes 33 = .ok (.iload 6, 2) := by decide +kernel
theorem dX9_writes_35 : decode cX9_writes 35 = .ok (.iload 4, 2) := by decide +kernel
theorem dX9_writes_37 : decode cX9_writes 37 = .ok (.ifCond .ne 7, 3) := by decide +kernel
theorem dX9_writes_40 : decode cX9_writes 40 = .ok (.iconst 0, 1) := by decide +kernel
theorem dX9_writes_41 : decode cX9_writes 41 = .ok (.goto 4, 3) := by decide +kernel
theorem dX9_writes_44 : decode cX9_writes 44 = .ok (.iconst 1, 1) := by decide +kernel
theorem dX9_writes_45 : decode cX9_writes 45 = .ok (.iastore, 1) := by decide +kernel
theorem dX9_writes_46 : decode cX9_writes 46 = .ok (.goto 55, 3) := by decide +kernel
theorem dX9_writes_49 : decode cX9_writes 49 = .ok (.iload_n 1, 1) := by decide +kernel
theorem dX9_writes_50 : decode cX9_writes 50 = .ok (.iconst 3, 1) := by decide +kernel
theorem dX9_writes_51 : decode cX9_writes 51 = .ok (.if_icmp .ne 37, 3) := by decide +kernel
theorem dX9_writes_54 : decode cX9_writes 54 = .ok (.iload 4, 2) := by decide +kernel
theorem dX9_writes_56 : decode cX9_writes 56 = .ok (.ldc 71, 2) := by decide +kernel
theorem dX9_writes_58 : decode cX9_writes 58 = .ok (.ldc 72, 2) := by decide +kernel
theorem dX9_writes_60 : decode cX9_writes 60 = .ok (.invokestatic 58, 3) := by decide +kernel
theorem dX9_writes_63 : decode cX9_writes 63 = .ok (.ifCond .ne 6, 3) := by decide +kernel
theorem dX9_writes_66 : decode cX9_writes 66 = .ok (.bipush (-5), 2) := by decide +kernel
theorem dX9_writes_68 : decode cX9_writes 68 = .ok (.ireturn, 1) := by decide +kernel
theorem dX9_writes_69 : decode cX9_writes 69 = .ok (.aload_n 0, 1) := by decide +kernel
theorem dX9_writes_70 : decode cX9_writes 70 = .ok (.getfield 8, 3) := by decide +kernel
theorem dX9_writes_73 : decode cX9_writes 73 = .ok (.iload 6, 2) := by decide +kernel
theorem dX9_writes_75 : decode cX9_writes 75 = .ok (.iload 4, 2) := by decide +kernel
theorem dX9_writes_77 : decode cX9_writes 77 = .ok (.i2f, 1) := by decide +kernel
theorem dX9_writes_78 : decode cX9_writes 78 = .ok (.ldc 73, 2) := by decide +kernel
theorem dX9_writes_80 : decode cX9_writes 80 = .ok (.fmul, 1) := by decide +kernel
theorem dX9_writes_81 : decode cX9_writes 81 = .ok (.invokestatic 74, 3) := by decide +kernel
theorem dX9_writes_84 : decode cX9_writes 84 = .ok (.iastore, 1) := by decide +kernel
theorem dX9_writes_85 : decode cX9_writes 85 = .ok (.goto 16, 3) := by decide +kernel
theorem dX9_writes_88 : decode cX9_writes 88 = .ok (.aload_n 0, 1) := by decide +kernel
theorem dX9_writes_89 : decode cX9_writes 89 = .ok (.getfield 8, 3) := by decide +kernel
theorem dX9_writes_92 : decode cX9_writes 92 = .ok (.iload 6, 2) := by decide +kernel
theorem dX9_writes_94 : decode cX9_writes 94 = .ok (.iload_n 1, 1) := by decide +kernel
theorem dX9_writes_95 : decode cX9_writes 95 = .ok (.iload 4, 2) := by decide +kernel
theorem dX9_writes_97 : decode cX9_writes 97 = .ok (.invokestatic 80, 3) := by decide +kernel
theorem dX9_writes_100 : decode cX9_writes 100 = .ok (.iastore, 1) := by decide +kernel
theorem dX9_writes_101 : decode cX9_writes 101 = .ok (.iconst 0, 1) := by decide +kernel
theorem dX9_writes_102 : decode cX9_writes 102 = .ok (.ireturn, 1) := by decide +kernel
theorem dX9_turns_0 : decode cX9_turns 0 = .ok (.aload_n 0, 1) := by decide +kernel
theorem dX9_turns_1 : decode cX9_turns 1 = .ok (.iload_n 2, 1) := by decide +kernel
theorem dX9_turns_2 : decode cX9_turns 2 = .ok (.iload_n 3, 1) := by decide +kernel
theorem dX9_turns_3 : decode cX9_turns 3 = .ok (.invokevirtual 67, 3) := by decide +kernel
theorem dX9_turns_6 : decode cX9_turns 6 = .ok (.istore 5, 2) := by decide +kernel
theorem dX9_turns_8 : decode cX9_turns 8 = .ok (.iload 5, 2) := by decide +kernel
theorem dX9_turns_10 : decode cX9_turns 10 = .ok (.ifCond .ge 6, 3) := by decide +kernel
theorem dX9_turns_13 : decode cX9_turns 13 = .ok (.iload 5, 2) := by decide +kernel
theorem dX9_turns_15 : decode cX9_turns 15 = .ok (.ireturn, 1) := by decide +kernel
theorem dX9_turns_16 : decode cX9_turns 16 = .ok (.sipush 300, 3) := by decide +kernel
theorem dX9_turns_19 : decode cX9_turns 19 = .ok (.iload_n 2, 1) := by decide +kernel
theorem dX9_turns_20 : decode cX9_turns 20 = .ok (.imul, 1) := by decide +kernel
theorem dX9_turns_21 : decode cX9_turns 21 = .ok (.iload_n 3, 1) := by decide +kernel
theorem dX9_turns_22 : decode cX9_turns 22 = .ok (.iadd, 1) := by decide +kernel
theorem dX9_turns_23 : decode cX9_turns 23 = .ok (.istore 6, 2) := by decide +kernel
theorem dX9_turns_25 : decode cX9_turns 25 = .ok (.aload_n 0, 1) := by decide +kernel
theorem dX9_turns_26 : decode cX9_turns 26 = .ok (.getfield 8, 3) := by decide +kernel
theorem dX9_turns_29 : decode cX9_turns 29 = .ok (.iload 6, 2) := by decide +kernel
theorem dX9_turns_31 : decode cX9_turns 31 = .ok (.iaload, 1) := by decide +kernel
theorem dX9_turns_32 : decode cX9_turns 32 = .ok (.istore 7, 2) := by decide +kernel
theorem dX9_turns_34 : decode cX9_turns 34 = .ok (.iload_n 1, 1) := by decide +kernel
theorem dX9_turns_35 : decode cX9_turns 35 = .ok (.ifCond .ne 29, 3) := by decide +kernel
theorem dX9_turns_38 : decode cX9_turns 38 = .ok (.aload_n 0, 1) := by decide +kernel
theorem dX9_turns_39 : decode cX9_turns 39 = .ok (.getfield 8, 3) := by decide +kernel
theorem dX9_turns_42 : decode cX9_turns 42 = .ok (.iload 6, 2) := by decide +kernel
theorem dX9_turns_44 : decode cX9_turns 44 = .ok (.iload 4, 2) := by decide +kernel
theorem dX9_turns_46 : decode cX9_turns 46 = .ok (.iconst 1, 1) := by decide +kernel
theorem dX9_turns_47 : decode cX9_turns 47 = .ok (.iand, 1) := by decide +kernel
theorem dX9_turns_48 : decode cX9_turns 48 = .ok (.ifCond .ne 8, 3) := by decide +kernel
theorem dX9_turns_51 : decode cX9_turns 51 = .ok (.iload 7, 2) := by decide +kernel
theorem dX9_turns_53 : decode cX9_turns 53 = .ok (.goto 7, 3) := by decide +kernel
theorem dX9_turns_56 : decode cX9_turns 56 = .ok (.iconst 1, 1) := by decide +kernel
theorem dX9_turns_57 : decode cX9_turns 57 = .ok (.iload 7, 2) := by decide +kernel
theorem dX9_turns_59 : decode cX9_turns 59 = .ok (.isub, 1) := by decide +kernel
theorem dX9_turns_60 : decode cX9_turns 60 = .ok (.iastore, 1) := by decide +kernel
theorem dX9_turns_61 : decode cX9_turns 61 = .ok (.goto 115, 3) := by decide +kernel
theorem dX9_turns_64 : decode cX9_turns 64 = .ok (.iload_n 1, 1) := by decide +kernel
theorem dX9_turns_65 : decode cX9_turns 65 = .ok (.iconst 3, 1) := by decide +kernel
theorem dX9_turns_66 : decode cX9_turns 66 = .ok (.if_icmp .ne 68, 3) := by decide +kernel
theorem dX9_turns_69 : decode cX9_turns 69 = .ok (.iload 4, 2) := by decide +kernel
theorem dX9_turns_71 : decode cX9_turns 71 = .ok (.sipush (-4000), 3) := by decide +kernel
theorem dX9_turns_74 : decode cX9_turns 74 = .ok (.sipush 4000, 3) := by decide +kernel
theorem dX9_turns_77 : decode cX9_turns 77 = .ok (.invokestatic 58, 3) := by decide +kernel
theorem dX9_turns_80 : decode cX9_turns 80 = .ok (.ifCond .ne 6, 3) := by decide +kernel
theorem dX9_turns_83 : decode cX9_turns 83 = .ok (.bipush (-5), 2) := by decide +kernel
theorem dX9_turns_85 : decode cX9_turns 85 = .ok (.ireturn, 1) := by decide +kernel
theorem dX9_turns_86 : decode cX9_turns 86 = .ok (.iload 7, 2) := by decide +kernel
theorem dX9_turns_88 : decode cX9_turns 88 = .ok (.invokestatic 83, 3) := by decide +kernel
theorem dX9_turns_91 : decode cX9_turns 91 = .ok (.iload 4, 2) := by decide +kernel
theorem dX9_turns_93 : decode cX9_turns 93 = .ok (.i2f, 1) := by decide +kernel
theorem dX9_turns_94 : decode cX9_turns 94 = .ok (.ldc 87, 2) := by decide +kernel
theorem dX9_turns_96 : decode cX9_turns 96 = .ok (.fmul, 1) := by decide +kernel
theorem dX9_turns_97 : decode cX9_turns 97 = .ok (.fmul, 1) := by decide +kernel
theorem dX9_turns_98 : decode cX9_turns 98 = .ok (.fstore 8, 2) := by decide +kernel
theorem dX9_turns_100 : decode cX9_turns 100 = .ok (.fload 8, 2) := by decide +kernel
theorem dX9_turns_102 : decode cX9_turns 102 = .ok (.ldc 88, 2) := by decide +kernel
theorem dX9_turns_104 : decode cX9_turns 104 = .ok (.fcmp .g, 1) := by decide +kernel
theorem dX9_turns_105 : decode cX9_turns 105 = .ok (.ifCond .lt 11, 3) := by decide +kernel
theorem dX9_turns_108 : decode cX9_turns 108 = .ok (.fload 8, 2) := by decide +kernel
theorem dX9_turns_110 : decode cX9_turns 110 = .ok (.ldc 89, 2) := by decide +kernel
theorem dX9_turns_112 : decode cX9_turns 112 = .ok (.fcmp .l, 1) := by decide +kernel
theorem dX9_turns_113 : decode cX9_turns 113 = .ok (.ifCond .le 6, 3) := by decide +kernel
theorem dX9_turns_116 : decode cX9_turns 116 = .ok (.bipush (-5), 2) := by decide +kernel
theorem dX9_turns_118 : decode cX9_turns 118 = .ok (.ireturn, 1) := by decide +kernel
theorem dX9_turns_119 : decode cX9_turns 119 = .ok (.aload_n 0, 1) := by decide +kernel
theorem dX9_turns_120 : decode cX9_turns 120 = .ok (.getfield 8, 3) := by decide +kernel
theorem dX9_turns_123 : decode cX9_turns 123 = .ok (.iload 6, 2) := by decide +kernel
theorem dX9_turns_125 : decode cX9_turns 125 = .ok (.fload 8, 2) := by decide +kernel
theorem dX9_turns_127 : decode cX9_turns 127 = .ok (.invokestatic 74, 3) := by decide +kernel
theorem dX9_turns_130 : decode cX9_turns 130 = .ok (.iastore, 1) := by decide +kernel
theorem dX9_turns_131 : decode cX9_turns 131 = .ok (.goto 45, 3) := by decide +kernel
theorem dX9_turns_134 : decode cX9_turns 134 = .ok (.aload_n 0, 1) := by decide +kernel
theorem dX9_turns_135 : decode cX9_turns 135 = .ok (.getfield 8, 3) := by decide +kernel
theorem dX9_turns_138 : decode cX9_turns 138 = .ok (.iload 6, 2) := by decide +kernel
theorem dX9_turns_140 : decode cX9_turns 140 = .ok (.iload_n 1, 1) := by decide +kernel
theorem dX9_turns_141 : decode cX9_turns 141 = .ok (.iload_n 1, 1) := by decide +kernel
theorem dX9_turns_142 : decode cX9_turns 142 = .ok (.iconst 1, 1) := by decide +kernel
theorem dX9_turns_143 : decode cX9_turns 143 = .ok (.if_icmp .ne 11, 3) := by decide +kernel
theorem dX9_turns_146 : decode cX9_turns 146 = .ok (.iload 7, 2) := by decide +kernel
theorem dX9_turns_148 : decode cX9_turns 148 = .ok (.iload 4, 2) := by decide +kernel
theorem dX9_turns_150 : decode cX9_turns 150 = .ok (.iadd, 1) := by decide +kernel
theorem dX9_turns_151 : decode cX9_turns 151 = .ok (.goto 21, 3) := by decide +kernel
theorem dX9_turns_154 : decode cX9_turns 154 = .ok (.iload_n 1, 1) := by decide +kernel
theorem dX9_turns_155 : decode cX9_turns 155 = .ok (.iconst 2, 1) := by decide +kernel
theorem dX9_turns_156 : decode cX9_turns 156 = .ok (.if_icmp .ne 11, 3) := by decide +kernel
theorem dX9_turns_159 : decode cX9_turns 159 = .ok (.iload 7, 2) := by decide +kernel
theorem dX9_turns_161 : decode cX9_turns 161 = .ok (.iload 4, 2) := by decide +kernel
theorem dX9_turns_163 : decode cX9_turns 163 = .ok (.imul, 1) := by decide +kernel
theorem dX9_turns_164 : decode cX9_turns 164 = .ok (.goto 8, 3) := by decide +kernel
theorem dX9_turns_167 : decode cX9_turns 167 = .ok (.iload 7, 2) := by decide +kernel
theorem dX9_turns_169 : decode cX9_turns 169 = .ok (.iload 4, 2) := by decide +kernel
theorem dX9_turns_171 : decode cX9_turns 171 = .ok (.isub, 1) := by decide +kernel
theorem dX9_turns_172 : decode cX9_turns 172 = .ok (.invokestatic 80, 3) := by decide +kernel
theorem dX9_turns_175 : decode cX9_turns 175 = .ok (.iastore, 1) := by decide +kernel
theorem dX9_turns_176 : decode cX9_turns 176 = .ok (.iconst 0, 1) := by decide +kernel
theorem dX9_turns_177 : decode cX9_turns 177 = .ok (.ireturn, 1) := by decide +kernel
theorem dX9_reads_0 : decode cX9_reads 0 = .ok (.aload_n 0, 1) := by decide +kernel
theorem dX9_reads_1 : decode cX9_reads 1 = .ok (.iload_n 1, 1) := by decide +kernel
theorem dX9_reads_2 : decode cX9_reads 2 = .ok (.iload_n 2, 1) := by decide +kernel
theorem dX9_reads_3 : decode cX9_reads 3 = .ok (.invokevirtual 67, 3) := by decide +kernel
theorem dX9_reads_6 : decode cX9_reads 6 = .ok (.istore_n 3, 1) := by decide +kernel
theorem dX9_reads_7 : decode cX9_reads 7 = .ok (.aload_n 0, 1) := by decide +kernel
theorem dX9_reads_8 : decode cX9_reads 8 = .ok (.iload_n 3, 1) := by decide +kernel
theorem dX9_reads_9 : decode cX9_reads 9 = .ok (.putfield 54, 3) := by decide +kernel
theorem dX9_reads_12 : decode cX9_reads 12 = .ok (.iload_n 3, 1) := by decide +kernel
theorem dX9_reads_13 : decode cX9_reads 13 = .ok (.ifCond .ge 7, 3) := by decide +kernel
theorem dX9_reads_16 : decode cX9_reads 16 = .ok (.iconst 0, 1) := by decide +kernel
theorem dX9_reads_17 : decode cX9_reads 17 = .ok (.goto 15, 3) := by decide +kernel
theorem dX9_reads_20 : decode cX9_reads 20 = .ok (.aload_n 0, 1) := by decide +kernel
theorem dX9_reads_21 : decode cX9_reads 21 = .ok (.getfield 8, 3) := by decide +kernel
theorem dX9_reads_24 : decode cX9_reads 24 = .ok (.sipush 300, 3) := by decide +kernel
theorem dX9_reads_27 : decode cX9_reads 27 = .ok (.iload_n 1, 1) := by decide +kernel
theorem dX9_reads_28 : decode cX9_reads 28 = .ok (.imul, 1) := by decide +kernel
theorem dX9_reads_29 : decode cX9_reads 29 = .ok (.iload_n 2, 1) := by decide +kernel
theorem dX9_reads_30 : decode cX9_reads 30 = .ok (.iadd, 1) := by decide +kernel
theorem dX9_reads_31 : decode cX9_reads 31 = .ok (.iaload, 1) := by decide +kernel
theorem dX9_reads_32 : decode cX9_reads 32 = .ok (.ireturn, 1) := by decide +kernel
theorem dX9_cut_0 : decode cX9_cut 0 = .ok (.iload_n 1, 1) := by decide +kernel
theorem dX9_cut_1 : decode cX9_cut 1 = .ok (.invokestatic 90, 3) := by decide +kernel
theorem dX9_cut_4 : decode cX9_cut 4 = .ok (.ifCond .eq 10, 3) := by decide +kernel
theorem dX9_cut_7 : decode cX9_cut 7 = .ok (.iload_n 2, 1) := by decide +kernel
theorem dX9_cut_8 : decode cX9_cut 8 = .ok (.invokestatic 93, 3) := by decide +kernel
theorem dX9_cut_11 : decode cX9_cut 11 = .ok (.ifCond .ne 9, 3) := by decide +kernel
theorem dX9_cut_14 : decode cX9_cut 14 = .ok (.aload_n 0, 1) := by decide +kernel
theorem dX9_cut_15 : decode cX9_cut 15 = .ok (.iconst (-1), 1) := by decide +kernel
theorem dX9_cut_16 : decode cX9_cut 16 = .ok (.invokevirtual 96, 3) := by decide +kernel
theorem dX9_cut_19 : decode cX9_cut 19 = .ok (.ireturn, 1) := by decide +kernel
theorem dX9_cut_20 : decode cX9_cut 20 = .ok (.iload_n 3, 1) := by decide +kernel
theorem dX9_cut_21 : decode cX9_cut 21 = .ok (.iconst 0, 1) := by decide +kernel
theorem dX9_cut_22 : decode cX9_cut 22 = .ok (.sipush 300, 3) := by decide +kernel
theorem dX9_cut_25 : decode cX9_cut 25 = .ok (.invokestatic 58, 3) := by decide +kernel
theorem dX9_cut_28 : decode cX9_cut 28 = .ok (.ifCond .ne 10, 3) := by decide +kernel
theorem dX9_cut_31 : decode cX9_cut 31 = .ok (.aload_n 0, 1) := by decide +kernel
theorem dX9_cut_32 : decode cX9_cut 32 = .ok (.bipush (-4), 2) := by decide +kernel
theorem dX9_cut_34 : decode cX9_cut 34 = .ok (.invokevirtual 96, 3) := by decide +kernel
theorem dX9_cut_37 : decode cX9_cut 37 = .ok (.ireturn, 1) := by decide +kernel
theorem dX9_cut_38 : decode cX9_cut 38 = .ok (.aload_n 0, 1) := by decide +kernel
theorem dX9_cut_39 : decode cX9_cut 39 = .ok (.iload_n 1, 1) := by decide +kernel
theorem dX9_cut_40 : decode cX9_cut 40 = .ok (.iload_n 2, 1) := by decide +kernel
theorem dX9_cut_41 : decode cX9_cut 41 = .ok (.aload_n 0, 1) := by decide +kernel
theorem dX9_cut_42 : decode cX9_cut 42 = .ok (.iload_n 3, 1) := by decide +kernel
theorem dX9_cut_43 : decode cX9_cut 43 = .ok (.invokevirtual 100, 3) := by decide +kernel
theorem dX9_cut_46 : decode cX9_cut 46 = .ok (.invokevirtual 103, 3) := by decide +kernel
theorem dX9_cut_49 : decode cX9_cut 49 = .ok (.aload_n 0, 1) := by decide +kernel
theorem dX9_cut_50 : decode cX9_cut 50 = .ok (.iload_n 3, 1) := by decide +kernel
theorem dX9_cut_51 : decode cX9_cut 51 = .ok (.invokevirtual 96, 3) := by decide +kernel
theorem dX9_cut_54 : decode cX9_cut 54 = .ok (.ireturn, 1) := by decide +kernel
theorem dX9_strip_0 : decode cX9_strip 0 = .ok (.iload_n 1, 1) := by decide +kernel
theorem dX9_strip_1 : decode cX9_strip 1 = .ok (.invokestatic 90, 3) := by decide +kernel
theorem dX9_strip_4 : decode cX9_strip 4 = .ok (.ifCond .eq 10, 3) := by decide +kernel
theorem dX9_strip_7 : decode cX9_strip 7 = .ok (.iload_n 2, 1) := by decide +kernel
theorem dX9_strip_8 : decode cX9_strip 8 = .ok (.invokestatic 93, 3) := by decide +kernel
theorem dX9_strip_11 : decode cX9_strip 11 = .ok (.ifCond .ne 9, 3) := by decide +kernel
theorem dX9_strip_14 : decode cX9_strip 14 = .ok (.aload_n 0, 1) := by decide +kernel
theorem dX9_strip_15 : decode cX9_strip 15 = .ok (.iconst (-1), 1) := by decide +kernel
theorem dX9_strip_16 : decode cX9_strip 16 = .ok (.invokevirtual 96, 3) := by decide +kernel
theorem dX9_strip_19 : decode cX9_strip 19 = .ok (.ireturn, 1) := by decide +kernel
theorem dX9_strip_20 : decode cX9_strip 20 = .ok (.aload_n 0, 1) := by decide +kernel
theorem dX9_strip_21 : decode cX9_strip 21 = .ok (.getfield 20, 3) := by decide +kernel
theorem dX9_strip_24 : decode cX9_strip 24 = .ok (.iconst 5, 1) := by decide +kernel
theorem dX9_strip_25 : decode cX9_strip 25 = .ok (.iload_n 1, 1) := by decide +kernel
theorem dX9_strip_26 : decode cX9_strip 26 = .ok (.imul, 1) := by decide +kernel
theorem dX9_strip_27 : decode cX9_strip 27 = .ok (.iload_n 2, 1) := by decide +kernel
theorem dX9_strip_28 : decode cX9_strip 28 = .ok (.iadd, 1) := by decide +kernel
theorem dX9_strip_29 : decode cX9_strip 29 = .ok (.iaload, 1) := by decide +kernel
theorem dX9_strip_30 : decode cX9_strip 30 = .ok (.istore_n 3, 1) := by decide +kernel
theorem dX9_strip_31 : decode cX9_strip 31 = .ok (.iload_n 3, 1) := by decide +kernel
theorem dX9_strip_32 : decode cX9_strip 32 = .ok (.ifCond .ge 10, 3) := by decide +kernel
theorem dX9_strip_35 : decode cX9_strip 35 = .ok (.aload_n 0, 1) := by decide +kernel
theorem dX9_strip_36 : decode cX9_strip 36 = .ok (.bipush (-2), 2) := by decide +kernel
theorem dX9_strip_38 : decode cX9_strip 38 = .ok (.invokevirtual 96, 3) := by decide +kernel
theorem dX9_strip_41 : decode cX9_strip 41 = .ok (.ireturn, 1) := by decide +kernel
theorem dX9_strip_42 : decode cX9_strip 42 = .ok (.aload_n 0, 1) := by decide +kernel
theorem dX9_strip_43 : decode cX9_strip 43 = .ok (.iload_n 1, 1) := by decide +kernel
theorem dX9_strip_44 : decode cX9_strip 44 = .ok (.iload_n 2, 1) := by decide +kernel
theorem dX9_strip_45 : decode cX9_strip 45 = .ok (.iconst (-1), 1) := by decide +kernel
theorem dX9_strip_46 : decode cX9_strip 46 = .ok (.invokevirtual 103, 3) := by decide +kernel
theorem dX9_strip_49 : decode cX9_strip 49 = .ok (.aload_n 0, 1) := by decide +kernel
theorem dX9_strip_50 : decode cX9_strip 50 = .ok (.aload_n 0, 1) := by decide +kernel
theorem dX9_strip_51 : decode cX9_strip 51 = .ok (.getfield 14, 3) := by decide +kernel
theorem dX9_strip_54 : decode cX9_strip 54 = .ok (.iload_n 3, 1) := by decide +kernel
theorem dX9_strip_55 : decode cX9_strip 55 = .ok (.iaload, 1) := by decide +kernel
theorem dX9_strip_56 : decode cX9_strip 56 = .ok (.invokevirtual 96, 3) := by decide +kernel
theorem dX9_strip_59 : decode cX9_strip 59 = .ok (.ireturn, 1) := by decide +kernel
theorem dX9_share_0 : decode cX9_share 0 = .ok (.iload_n 1, 1) := by decide +kernel
theorem dX9_share_1 : decode cX9_share 1 = .ok (.invokestatic 90, 3) := by decide +kernel
theorem dX9_share_4 : decode cX9_share 4 = .ok (.ifCond .eq 17, 3) := by decide +kernel
theorem dX9_share_7 : decode cX9_share 7 = .ok (.iload_n 2, 1) := by decide +kernel
theorem dX9_share_8 : decode cX9_share 8 = .ok (.invokestatic 90, 3) := by decide +kernel
theorem dX9_share_11 : decode cX9_share 11 = .ok (.ifCond .eq 10, 3) := by decide +kernel
theorem dX9_share_14 : decode cX9_share 14 = .ok (.iload_n 3, 1) := by decide +kernel
theorem dX9_share_15 : decode cX9_share 15 = .ok (.invokestatic 93, 3) := by decide +kernel
theorem dX9_share_18 : decode cX9_share 18 = .ok (.ifCond .ne 9, 3) := by decide +kernel
theorem dX9_share_21 : decode cX9_share 21 = .ok (.aload_n 0, 1) := by decide +kernel
theorem dX9_share_22 : decode cX9_share 22 = .ok (.iconst (-1), 1) := by decide +kernel
theorem dX9_share_23 : decode cX9_share 23 = .ok (.invokevirtual 96, 3) := by decide +kernel
theorem dX9_share_26 : decode cX9_share 26 = .ok (.ireturn, 1) := by decide +kernel
theorem dX9_share_27 : decode cX9_share 27 = .ok (.aload_n 0, 1) := by decide +kernel
theorem dX9_share_28 : decode cX9_share 28 = .ok (.getfield 20, 3) := by decide +kernel
theorem dX9_share_31 : decode cX9_share 31 = .ok (.iconst 5, 1) := by decide +kernel
theorem dX9_share_32 : decode cX9_share 32 = .ok (.iload_n 1, 1) := by decide +kernel
theorem dX9_share_33 : decode cX9_share 33 = .ok (.imul, 1) := by decide +kernel
theorem dX9_share_34 : decode cX9_share 34 = .ok (.iload_n 3, 1) := by decide +kernel
theorem dX9_share_35 : decode cX9_share 35 = .ok (.iadd, 1) := by decide +kernel
theorem dX9_share_36 : decode cX9_share 36 = .ok (.iaload, 1) := by decide +kernel
theorem dX9_share_37 : decode cX9_share 37 = .ok (.istore 4, 2) := by decide +kernel
theorem dX9_share_39 : decode cX9_share 39 = .ok (.iload 4, 2) := by decide +kernel
theorem dX9_share_41 : decode cX9_share 41 = .ok (.ifCond .ge 10, 3) := by decide +kernel
theorem dX9_share_44 : decode cX9_share 44 = .ok (.aload_n 0, 1) := by decide +kernel
theorem dX9_share_45 : decode cX9_share 45 = .ok (.bipush (-2), 2) := by decide +kernel
theorem dX9_share_47 : decode cX9_share 47 = .ok (.invokevirtual 96, 3) := by decide +kernel
theorem dX9_share_50 : decode cX9_share 50 = .ok (.ireturn, 1) := by decide +kernel
theorem dX9_share_51 : decode cX9_share 51 = .ok (.aload_n 0, 1) := by decide +kernel
theorem dX9_share_52 : decode cX9_share 52 = .ok (.iload_n 2, 1) := by decide +kernel
theorem dX9_share_53 : decode cX9_share 53 = .ok (.iload_n 3, 1) := by decide +kernel
theorem dX9_share_54 : decode cX9_share 54 = .ok (.iload 4, 2) := by decide +kernel
theorem dX9_share_56 : decode cX9_share 56 = .ok (.invokevirtual 103, 3) := by decide +kernel
theorem dX9_share_59 : decode cX9_share 59 = .ok (.aload_n 0, 1) := by decide +kernel
theorem dX9_share_60 : decode cX9_share 60 = .ok (.aload_n 0, 1) := by decide +kernel
theorem dX9_share_61 : decode cX9_share 61 = .ok (.getfield 14, 3) := by decide +kernel
theorem dX9_share_64 : decode cX9_share 64 = .ok (.iload 4, 2) := by decide +kernel
theorem dX9_share_66 : decode cX9_share 66 = .ok (.iaload, 1) := by decide +kernel
theorem dX9_share_67 : decode cX9_share 67 = .ok (.invokevirtual 96, 3) := by decide +kernel
theorem dX9_share_70 : decode cX9_share 70 = .ok (.ireturn, 1) := by decide +kernel
theorem dX9_places_0 : decode cX9_places 0 = .ok (.iload_n 1, 1) := by decide +kernel
theorem dX9_places_1 : decode cX9_places 1 = .ok (.invokestatic 90, 3) := by decide +kernel
theorem dX9_places_4 : decode cX9_places 4 = .ok (.ifCond .eq 10, 3) := by decide +kernel
theorem dX9_places_7 : decode cX9_places 7 = .ok (.iload_n 2, 1) := by decide +kernel
theorem dX9_places_8 : decode cX9_places 8 = .ok (.invokestatic 93, 3) := by decide +kernel
theorem dX9_places_11 : decode cX9_places 11 = .ok (.ifCond .ne 9, 3) := by decide +kernel
theorem dX9_places_14 : decode cX9_places 14 = .ok (.aload_n 0, 1) := by decide +kernel
theorem dX9_places_15 : decode cX9_places 15 = .ok (.iconst (-1), 1) := by decide +kernel
theorem dX9_places_16 : decode cX9_places 16 = .ok (.invokevirtual 96, 3) := by decide +kernel
theorem dX9_places_19 : decode cX9_places 19 = .ok (.ireturn, 1) := by decide +kernel
theorem dX9_places_20 : decode cX9_places 20 = .ok (.aload_n 0, 1) := by decide +kernel
theorem dX9_places_21 : decode cX9_places 21 = .ok (.getfield 20, 3) := by decide +kernel
theorem dX9_places_24 : decode cX9_places 24 = .ok (.iconst 5, 1) := by decide +kernel
theorem dX9_places_25 : decode cX9_places 25 = .ok (.iload_n 1, 1) := by decide +kernel
theorem dX9_places_26 : decode cX9_places 26 = .ok (.imul, 1) := by decide +kernel
theorem dX9_places_27 : decode cX9_places 27 = .ok (.iload_n 2, 1) := by decide +kernel
theorem dX9_places_28 : decode cX9_places 28 = .ok (.iadd, 1) := by decide +kernel
theorem dX9_places_29 : decode cX9_places 29 = .ok (.iaload, 1) := by decide +kernel
theorem dX9_places_30 : decode cX9_places 30 = .ok (.istore_n 3, 1) := by decide +kernel
theorem dX9_places_31 : decode cX9_places 31 = .ok (.aload_n 0, 1) := by decide +kernel
theorem dX9_places_32 : decode cX9_places 32 = .ok (.iload_n 3, 1) := by decide +kernel
theorem dX9_places_33 : decode cX9_places 33 = .ok (.ifCond .ge 8, 3) := by decide +kernel
theorem dX9_places_36 : decode cX9_places 36 = .ok (.bipush (-2), 2) := by decide +kernel
theorem dX9_places_38 : decode cX9_places 38 = .ok (.goto 9, 3) := by decide +kernel
theorem dX9_places_41 : decode cX9_places 41 = .ok (.aload_n 0, 1) := by decide +kernel
theorem dX9_places_42 : decode cX9_places 42 = .ok (.getfield 14, 3) := by decide +kernel
theorem dX9_places_45 : decode cX9_places 45 = .ok (.iload_n 3, 1) := by decide +kernel
theorem dX9_places_46 : decode cX9_places 46 = .ok (.iaload, 1) := by decide +kernel
theorem dX9_places_47 : decode cX9_places 47 = .ok (.invokevirtual 96, 3) := by decide +kernel
theorem dX9_places_50 : decode cX9_places 50 = .ok (.ireturn, 1) := by decide +kernel
theorem dX9_read_0 : decode cX9_read 0 = .ok (.iload_n 1, 1) := by decide +kernel
theorem dX9_read_1 : decode cX9_read 1 = .ok (.invokestatic 90, 3) := by decide +kernel
theorem dX9_read_4 : decode cX9_read 4 = .ok (.ifCond .eq 10, 3) := by decide +kernel
theorem dX9_read_7 : decode cX9_read 7 = .ok (.iload_n 2, 1) := by decide +kernel
theorem dX9_read_8 : decode cX9_read 8 = .ok (.invokestatic 93, 3) := by decide +kernel
theorem dX9_read_11 : decode cX9_read 11 = .ok (.ifCond .ne 10, 3) := by decide +kernel
theorem dX9_read_14 : decode cX9_read 14 = .ok (.aload_n 0, 1) := by decide +kernel
theorem dX9_read_15 : decode cX9_read 15 = .ok (.iconst (-1), 1) := by decide +kernel
theorem dX9_read_16 : decode cX9_read 16 = .ok (.putfield 54, 3) := by decide +kernel
theorem dX9_read_19 : decode cX9_read 19 = .ok (.iconst 0, 1) := by decide +kernel
theorem dX9_read_20 : decode cX9_read 20 = .ok (.ireturn, 1) := by decide +kernel
theorem dX9_read_21 : decode cX9_read 21 = .ok (.aload_n 0, 1) := by decide +kernel
theorem dX9_read_22 : decode cX9_read 22 = .ok (.aload_n 0, 1) := by decide +kernel
theorem dX9_read_23 : decode cX9_read 23 = .ok (.getfield 20, 3) := by decide +kernel
theorem dX9_read_26 : decode cX9_read 26 = .ok (.iconst 5, 1) := by decide +kernel
theorem dX9_read_27 : decode cX9_read 27 = .ok (.iload_n 1, 1) := by decide +kernel
theorem dX9_read_28 : decode cX9_read 28 = .ok (.imul, 1) := by decide +kernel
theorem dX9_read_29 : decode cX9_read 29 = .ok (.iload_n 2, 1) := by decide +kernel
theorem dX9_read_30 : decode cX9_read 30 = .ok (.iadd, 1) := by decide +kernel
theorem dX9_read_31 : decode cX9_read 31 = .ok (.iaload, 1) := by decide +kernel
theorem dX9_read_32 : decode cX9_read 32 = .ok (.iload_n 3, 1) := by decide +kernel
theorem dX9_read_33 : decode cX9_read 33 = .ok (.invokevirtual 107, 3) := by decide +kernel
theorem dX9_read_36 : decode cX9_read 36 = .ok (.ireturn, 1) := by decide +kernel
theorem dX9_write_0 : decode cX9_write 0 = .ok (.iload_n 1, 1) := by decide +kernel
theorem dX9_write_1 : decode cX9_write 1 = .ok (.invokestatic 90, 3) := by decide +kernel
theorem dX9_write_4 : decode cX9_write 4 = .ok (.ifCond .eq 10, 3) := by decide +kernel
theorem dX9_write_7 : decode cX9_write 7 = .ok (.iload_n 2, 1) := by decide +kernel
theorem dX9_write_8 : decode cX9_write 8 = .ok (.invokestatic 93, 3) := by decide +kernel
theorem dX9_write_11 : decode cX9_write 11 = .ok (.ifCond .ne 9, 3) := by decide +kernel
theorem dX9_write_14 : decode cX9_write 14 = .ok (.aload_n 0, 1) := by decide +kernel
theorem dX9_write_15 : decode cX9_write 15 = .ok (.iconst (-1), 1) := by decide +kernel
theorem dX9_write_16 : decode cX9_write 16 = .ok (.invokevirtual 96, 3) := by decide +kernel
theorem dX9_write_19 : decode cX9_write 19 = .ok (.ireturn, 1) := by decide +kernel
theorem dX9_write_20 : decode cX9_write 20 = .ok (.aload_n 0, 1) := by decide +kernel
theorem dX9_write_21 : decode cX9_write 21 = .ok (.aload_n 0, 1) := by decide +kernel
theorem dX9_write_22 : decode cX9_write 22 = .ok (.iload_n 2, 1) := by decide +kernel
theorem dX9_write_23 : decode cX9_write 23 = .ok (.aload_n 0, 1) := by decide +kernel
theorem dX9_write_24 : decode cX9_write 24 = .ok (.getfield 20, 3) := by decide +kernel
theorem dX9_write_27 : decode cX9_write 27 = .ok (.iconst 5, 1) := by decide +kernel
theorem dX9_write_28 : decode cX9_write 28 = .ok (.iload_n 1, 1) := by decide +kernel
theorem dX9_write_29 : decode cX9_write 29 = .ok (.imul, 1) := by decide +kernel
theorem dX9_write_30 : decode cX9_write 30 = .ok (.iload_n 2, 1) := by decide +kernel
theorem dX9_write_31 : decode cX9_write 31 = .ok (.iadd, 1) := by decide +kernel
theorem dX9_write_32 : decode cX9_write 32 = .ok (.iaload, 1) := by decide +kernel
theorem dX9_write_33 : decode cX9_write 33 = .ok (.iload_n 3, 1) := by decide +kernel
theorem dX9_write_34 : decode cX9_write 34 = .ok (.iload 4, 2) := by decide +kernel
theorem dX9_write_36 : decode cX9_write 36 = .ok (.invokevirtual 110, 3) := by decide +kernel
theorem dX9_write_39 : decode cX9_write 39 = .ok (.invokevirtual 96, 3) := by decide +kernel
theorem dX9_write_42 : decode cX9_write 42 = .ok (.ireturn, 1) := by decide +kernel
theorem dX9_turn_0 : decode cX9_turn 0 = .ok (.iload_n 1, 1) := by decide +kernel
theorem dX9_turn_1 : decode cX9_turn 1 = .ok (.invokestatic 90, 3) := by decide +kernel
theorem dX9_turn_4 : decode cX9_turn 4 = .ok (.ifCond .eq 10, 3) := by decide +kernel
theorem dX9_turn_7 : decode cX9_turn 7 = .ok (.iload_n 2, 1) := by decide +kernel
theorem dX9_turn_8 : decode cX9_turn 8 = .ok (.invokestatic 93, 3) := by decide +kernel
theorem dX9_turn_11 : decode cX9_turn 11 = .ok (.ifCond .ne 9, 3) := by decide +kernel
theorem dX9_turn_14 : decode cX9_turn 14 = .ok (.aload_n 0, 1) := by decide +kernel
theorem dX9_turn_15 : decode cX9_turn 15 = .ok (.iconst (-1), 1) := by decide +kernel
theorem dX9_turn_16 : decode cX9_turn 16 = .ok (.invokevirtual 96, 3) := by decide +kernel
theorem dX9_turn_19 : decode cX9_turn 19 = .ok (.ireturn, 1) := by decide +kernel
theorem dX9_turn_20 : decode cX9_turn 20 = .ok (.aload_n 0, 1) := by decide +kernel
theorem dX9_turn_21 : decode cX9_turn 21 = .ok (.aload_n 0, 1) := by decide +kernel
theorem dX9_turn_22 : decode cX9_turn 22 = .ok (.iload_n 2, 1) := by decide +kernel
theorem dX9_turn_23 : decode cX9_turn 23 = .ok (.aload_n 0, 1) := by decide +kernel
theorem dX9_turn_24 : decode cX9_turn 24 = .ok (.getfield 20, 3) := by decide +kernel
theorem dX9_turn_27 : decode cX9_turn 27 = .ok (.iconst 5, 1) := by decide +kernel
theorem dX9_turn_28 : decode cX9_turn 28 = .ok (.iload_n 1, 1) := by decide +kernel
theorem dX9_turn_29 : decode cX9_turn 29 = .ok (.imul, 1) := by decide +kernel
theorem dX9_turn_30 : decode cX9_turn 30 = .ok (.iload_n 2, 1) := by decide +kernel
theorem dX9_turn_31 : decode cX9_turn 31 = .ok (.iadd, 1) := by decide +kernel
theorem dX9_turn_32 : decode cX9_turn 32 = .ok (.iaload, 1) := by decide +kernel
theorem dX9_turn_33 : decode cX9_turn 33 = .ok (.iload_n 3, 1) := by decide +kernel
theorem dX9_turn_34 : decode cX9_turn 34 = .ok (.iload 4, 2) := by decide +kernel
theorem dX9_turn_36 : decode cX9_turn 36 = .ok (.invokevirtual 114, 3) := by decide +kernel
theorem dX9_turn_39 : decode cX9_turn 39 = .ok (.invokevirtual 96, 3) := by decide +kernel
theorem dX9_turn_42 : decode cX9_turn 42 = .ok (.ireturn, 1) := by decide +kernel
theorem dX9_head_0 : decode cX9_head 0 = .ok (.iload_n 1, 1) := by decide +kernel
theorem dX9_head_1 : decode cX9_head 1 = .ok (.invokestatic 90, 3) := by decide +kernel
theorem dX9_head_4 : decode cX9_head 4 = .ok (.ifCond .ne 9, 3) := by decide +kernel
theorem dX9_head_7 : decode cX9_head 7 = .ok (.aload_n 0, 1) := by decide +kernel
theorem dX9_head_8 : decode cX9_head 8 = .ok (.iconst (-1), 1) := by decide +kernel
theorem dX9_head_9 : decode cX9_head 9 = .ok (.invokevirtual 96, 3) := by decide +kernel
theorem dX9_head_12 : decode cX9_head 12 = .ok (.ireturn, 1) := by decide +kernel
theorem dX9_head_13 : decode cX9_head 13 = .ok (.iload_n 2, 1) := by decide +kernel
theorem dX9_head_14 : decode cX9_head 14 = .ok (.iconst 0, 1) := by decide +kernel
theorem dX9_head_15 : decode cX9_head 15 = .ok (.sipush 300, 3) := by decide +kernel
theorem dX9_head_18 : decode cX9_head 18 = .ok (.invokestatic 58, 3) := by decide +kernel
theorem dX9_head_21 : decode cX9_head 21 = .ok (.ifCond .ne 10, 3) := by decide +kernel
theorem dX9_head_24 : decode cX9_head 24 = .ok (.aload_n 0, 1) := by decide +kernel
theorem dX9_head_25 : decode cX9_head 25 = .ok (.bipush (-4), 2) := by decide +kernel
theorem dX9_head_27 : decode cX9_head 27 = .ok (.invokevirtual 96, 3) := by decide +kernel
theorem dX9_head_30 : decode cX9_head 30 = .ok (.ireturn, 1) := by decide +kernel
theorem dX9_head_31 : decode cX9_head 31 = .ok (.aload_n 0, 1) := by decide +kernel
theorem dX9_head_32 : decode cX9_head 32 = .ok (.getfield 32, 3) := by decide +kernel
theorem dX9_head_35 : decode cX9_head 35 = .ok (.iload_n 1, 1) := by decide +kernel
theorem dX9_head_36 : decode cX9_head 36 = .ok (.iaload, 1) := by decide +kernel
theorem dX9_head_37 : decode cX9_head 37 = .ok (.istore_n 3, 1) := by decide +kernel
theorem dX9_head_38 : decode cX9_head 38 = .ok (.aload_n 0, 1) := by decide +kernel
theorem dX9_head_39 : decode cX9_head 39 = .ok (.getfield 32, 3) := by decide +kernel
theorem dX9_head_42 : decode cX9_head 42 = .ok (.iload_n 1, 1) := by decide +kernel
theorem dX9_head_43 : decode cX9_head 43 = .ok (.iload_n 2, 1) := by decide +kernel
theorem dX9_head_44 : decode cX9_head 44 = .ok (.iastore, 1) := by decide +kernel
theorem dX9_head_45 : decode cX9_head 45 = .ok (.aload_n 0, 1) := by decide +kernel
theorem dX9_head_46 : decode cX9_head 46 = .ok (.iload_n 3, 1) := by decide +kernel
theorem dX9_head_47 : decode cX9_head 47 = .ok (.invokevirtual 96, 3) := by decide +kernel
theorem dX9_head_50 : decode cX9_head 50 = .ok (.ireturn, 1) := by decide +kernel
theorem dX9_isThere_0 : decode cX9_isThere 0 = .ok (.aload_n 0, 1) := by decide +kernel
theorem dX9_isThere_1 : decode cX9_isThere 1 = .ok (.aload_n 0, 1) := by decide +kernel
theorem dX9_isThere_2 : decode cX9_isThere 2 = .ok (.getfield 20, 3) := by decide +kernel
theorem dX9_isThere_5 : decode cX9_isThere 5 = .ok (.iconst 5, 1) := by decide +kernel
theorem dX9_isThere_6 : decode cX9_isThere 6 = .ok (.iload_n 1, 1) := by decide +kernel
theorem dX9_isThere_7 : decode cX9_isThere 7 = .ok (.imul, 1) := by decide +kernel
theorem dX9_isThere_8 : decode cX9_isThere 8 = .ok (.iload_n 2, 1) := by decide +kernel
theorem dX9_isThere_9 : decode cX9_isThere 9 = .ok (.iadd, 1) := by decide +kernel
theorem dX9_isThere_10 : decode cX9_isThere 10 = .ok (.iaload, 1) := by decide +kernel
theorem dX9_isThere_11 : decode cX9_isThere 11 = .ok (.iload_n 3, 1) := by decide +kernel
theorem dX9_isThere_12 : decode cX9_isThere 12 = .ok (.invokevirtual 67, 3) := by decide +kernel
theorem dX9_isThere_15 : decode cX9_isThere 15 = .ok (.ifCond .ne 7, 3) := by decide +kernel
theorem dX9_isThere_18 : decode cX9_isThere 18 = .ok (.iconst 1, 1) := by decide +kernel
theorem dX9_isThere_19 : decode cX9_isThere 19 = .ok (.goto 4, 3) := by decide +kernel
theorem dX9_isThere_22 : decode cX9_isThere 22 = .ok (.iconst 0, 1) := by decide +kernel
theorem dX9_isThere_23 : decode cX9_isThere 23 = .ok (.ireturn, 1) := by decide +kernel
theorem dX9_at_0 : decode cX9_at 0 = .ok (.aload_n 0, 1) := by decide +kernel
theorem dX9_at_1 : decode cX9_at 1 = .ok (.iload_n 1, 1) := by decide +kernel
theorem dX9_at_2 : decode cX9_at 2 = .ok (.iload_n 2, 1) := by decide +kernel
theorem dX9_at_3 : decode cX9_at 3 = .ok (.iload_n 3, 1) := by decide +kernel
theorem dX9_at_4 : decode cX9_at 4 = .ok (.invokevirtual 117, 3) := by decide +kernel
theorem dX9_at_7 : decode cX9_at 7 = .ok (.ifCond .eq 25, 3) := by decide +kernel
theorem dX9_at_10 : decode cX9_at 10 = .ok (.aload_n 0, 1) := by decide +kernel
theorem dX9_at_11 : decode cX9_at 11 = .ok (.getfield 8, 3) := by decide +kernel
theorem dX9_at_14 : decode cX9_at 14 = .ok (.sipush 300, 3) := by decide +kernel
theorem dX9_at_17 : decode cX9_at 17 = .ok (.aload_n 0, 1) := by decide +kernel
theorem dX9_at_18 : decode cX9_at 18 = .ok (.getfield 20, 3) := by decide +kernel
