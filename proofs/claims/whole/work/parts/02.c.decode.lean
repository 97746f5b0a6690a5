theorem dc_M_eliminate_132 : decode cb_M_eliminate 132 = .ok (.ireturn, 1) := by decide +kernel
theorem dc_M_findPaths_0 : decode cb_M_findPaths 0 = .ok (.iconst 0, 1) := by decide +kernel
theorem dc_M_findPaths_1 : decode cb_M_findPaths 1 = .ok (.istore_n 1, 1) := by decide +kernel
theorem dc_M_findPaths_2 : decode cb_M_findPaths 2 = .ok (.iload_n 1, 1) := by decide +kernel
theorem dc_M_findPaths_3 : decode cb_M_findPaths 3 = .ok (.aload_n 0, 1) := by decide +kernel
theorem dc_M_findPaths_4 : decode cb_M_findPaths 4 = .ok (.getfield 106, 3) := by decide +kernel
theorem dc_M_findPaths_7 : decode cb_M_findPaths 7 = .ok (.if_icmp .ge 65, 3) := by decide +kernel
theorem dc_M_findPaths_10 : decode cb_M_findPaths 10 = .ok (.iconst 0, 1) := by decide +kernel
theorem dc_M_findPaths_11 : decode cb_M_findPaths 11 = .ok (.istore_n 2, 1) := by decide +kernel
theorem dc_M_findPaths_12 : decode cb_M_findPaths 12 = .ok (.iload_n 2, 1) := by decide +kernel
theorem dc_M_findPaths_13 : decode cb_M_findPaths 13 = .ok (.aload_n 0, 1) := by decide +kernel
theorem dc_M_findPaths_14 : decode cb_M_findPaths 14 = .ok (.getfield 106, 3) := by decide +kernel
theorem dc_M_findPaths_17 : decode cb_M_findPaths 17 = .ok (.if_icmp .ge 49, 3) := by decide +kernel
theorem dc_M_findPaths_20 : decode cb_M_findPaths 20 = .ok (.aload_n 0, 1) := by decide +kernel
theorem dc_M_findPaths_21 : decode cb_M_findPaths 21 = .ok (.getfield 47, 3) := by decide +kernel
theorem dc_M_findPaths_24 : decode cb_M_findPaths 24 = .ok (.bipush 7, 2) := by decide +kernel
theorem dc_M_findPaths_26 : decode cb_M_findPaths 26 = .ok (.iload_n 1, 1) := by decide +kernel
theorem dc_M_findPaths_27 : decode cb_M_findPaths 27 = .ok (.imul, 1) := by decide +kernel
theorem dc_M_findPaths_28 : decode cb_M_findPaths 28 = .ok (.iload_n 2, 1) := by decide +kernel
theorem dc_M_findPaths_29 : decode cb_M_findPaths 29 = .ok (.iadd, 1) := by decide +kernel
theorem dc_M_findPaths_30 : decode cb_M_findPaths 30 = .ok (.iload_n 1, 1) := by decide +kernel
theorem dc_M_findPaths_31 : decode cb_M_findPaths 31 = .ok (.iload_n 2, 1) := by decide +kernel
theorem dc_M_findPaths_32 : decode cb_M_findPaths 32 = .ok (.if_icmp .eq 26, 3) := by decide +kernel
theorem dc_M_findPaths_35 : decode cb_M_findPaths 35 = .ok (.aload_n 0, 1) := by decide +kernel
theorem dc_M_findPaths_36 : decode cb_M_findPaths 36 = .ok (.iload_n 1, 1) := by decide +kernel
theorem dc_M_findPaths_37 : decode cb_M_findPaths 37 = .ok (.iload_n 2, 1) := by decide +kernel
theorem dc_M_findPaths_38 : decode cb_M_findPaths 38 = .ok (.invokevirtual 126, 3) := by decide +kernel
theorem dc_M_findPaths_41 : decode cb_M_findPaths 41 = .ok (.ifCond .eq 17, 3) := by decide +kernel
theorem dc_M_findPaths_44 : decode cb_M_findPaths 44 = .ok (.aload_n 0, 1) := by decide +kernel
theorem dc_M_findPaths_45 : decode cb_M_findPaths 45 = .ok (.getfield 44, 3) := by decide +kernel
theorem dc_M_findPaths_48 : decode cb_M_findPaths 48 = .ok (.bipush 7, 2) := by decide +kernel
theorem dc_M_findPaths_50 : decode cb_M_findPaths 50 = .ok (.iload_n 1, 1) := by decide +kernel
theorem dc_M_findPaths_51 : decode cb_M_findPaths 51 = .ok (.imul, 1) := by decide +kernel
theorem dc_M_findPaths_52 : decode cb_M_findPaths 52 = .ok (.iload_n 2, 1) := by decide +kernel
theorem dc_M_findPaths_53 : decode cb_M_findPaths 53 = .ok (.iadd, 1) := by decide +kernel
theorem dc_M_findPaths_54 : decode cb_M_findPaths 54 = .ok (.iaload, 1) := by decide +kernel
theorem dc_M_findPaths_55 : decode cb_M_findPaths 55 = .ok (.goto 4, 3) := by decide +kernel
theorem dc_M_findPaths_58 : decode cb_M_findPaths 58 = .ok (.iconst 0, 1) := by decide +kernel
theorem dc_M_findPaths_59 : decode cb_M_findPaths 59 = .ok (.iastore, 1) := by decide +kernel
theorem dc_M_findPaths_60 : decode cb_M_findPaths 60 = .ok (.iinc 2 1, 3) := by decide +kernel
theorem dc_M_findPaths_63 : decode cb_M_findPaths 63 = .ok (.goto (-51), 3) := by decide +kernel
theorem dc_M_findPaths_66 : decode cb_M_findPaths 66 = .ok (.iinc 1 1, 3) := by decide +kernel
theorem dc_M_findPaths_69 : decode cb_M_findPaths 69 = .ok (.goto (-67), 3) := by decide +kernel
theorem dc_M_findPaths_72 : decode cb_M_findPaths 72 = .ok (.iconst 1, 1) := by decide +kernel
theorem dc_M_findPaths_73 : decode cb_M_findPaths 73 = .ok (.istore_n 1, 1) := by decide +kernel
theorem dc_M_findPaths_74 : decode cb_M_findPaths 74 = .ok (.iload_n 1, 1) := by decide +kernel
theorem dc_M_findPaths_75 : decode cb_M_findPaths 75 = .ok (.ifCond .eq 150, 3) := by decide +kernel
theorem dc_M_findPaths_78 : decode cb_M_findPaths 78 = .ok (.iconst 0, 1) := by decide +kernel
theorem dc_M_findPaths_79 : decode cb_M_findPaths 79 = .ok (.istore_n 1, 1) := by decide +kernel
theorem dc_M_findPaths_80 : decode cb_M_findPaths 80 = .ok (.iconst 0, 1) := by decide +kernel
theorem dc_M_findPaths_81 : decode cb_M_findPaths 81 = .ok (.istore_n 2, 1) := by decide +kernel
theorem dc_M_findPaths_82 : decode cb_M_findPaths 82 = .ok (.iload_n 2, 1) := by decide +kernel
theorem dc_M_findPaths_83 : decode cb_M_findPaths 83 = .ok (.aload_n 0, 1) := by decide +kernel
theorem dc_M_findPaths_84 : decode cb_M_findPaths 84 = .ok (.getfield 106, 3) := by decide +kernel
theorem dc_M_findPaths_87 : decode cb_M_findPaths 87 = .ok (.if_icmp .ge 135, 3) := by decide +kernel
theorem dc_M_findPaths_90 : decode cb_M_findPaths 90 = .ok (.iconst 0, 1) := by decide +kernel
theorem dc_M_findPaths_91 : decode cb_M_findPaths 91 = .ok (.istore_n 3, 1) := by decide +kernel
theorem dc_M_findPaths_92 : decode cb_M_findPaths 92 = .ok (.iload_n 3, 1) := by decide +kernel
theorem dc_M_findPaths_93 : decode cb_M_findPaths 93 = .ok (.aload_n 0, 1) := by decide +kernel
theorem dc_M_findPaths_94 : decode cb_M_findPaths 94 = .ok (.getfield 106, 3) := by decide +kernel
theorem dc_M_findPaths_97 : decode cb_M_findPaths 97 = .ok (.if_icmp .ge 119, 3) := by decide +kernel
theorem dc_M_findPaths_100 : decode cb_M_findPaths 100 = .ok (.iconst 0, 1) := by decide +kernel
theorem dc_M_findPaths_101 : decode cb_M_findPaths 101 = .ok (.istore 4, 2) := by decide +kernel
theorem dc_M_findPaths_103 : decode cb_M_findPaths 103 = .ok (.iload 4, 2) := by decide +kernel
theorem dc_M_findPaths_105 : decode cb_M_findPaths 105 = .ok (.aload_n 0, 1) := by decide +kernel
theorem dc_M_findPaths_106 : decode cb_M_findPaths 106 = .ok (.getfield 106, 3) := by decide +kernel
theorem dc_M_findPaths_109 : decode cb_M_findPaths 109 = .ok (.if_icmp .ge 101, 3) := by decide +kernel
theorem dc_M_findPaths_112 : decode cb_M_findPaths 112 = .ok (.iload_n 2, 1) := by decide +kernel
theorem dc_M_findPaths_113 : decode cb_M_findPaths 113 = .ok (.iload_n 3, 1) := by decide +kernel
theorem dc_M_findPaths_114 : decode cb_M_findPaths 114 = .ok (.if_icmp .eq 96, 3) := by decide +kernel
theorem dc_M_findPaths_117 : decode cb_M_findPaths 117 = .ok (.aload_n 0, 1) := by decide +kernel
theorem dc_M_findPaths_118 : decode cb_M_findPaths 118 = .ok (.getfield 47, 3) := by decide +kernel
theorem dc_M_findPaths_121 : decode cb_M_findPaths 121 = .ok (.bipush 7, 2) := by decide +kernel
theorem dc_M_findPaths_123 : decode cb_M_findPaths 123 = .ok (.iload_n 2, 1) := by decide +kernel
theorem dc_M_findPaths_124 : decode cb_M_findPaths 124 = .ok (.imul, 1) := by decide +kernel
theorem dc_M_findPaths_125 : decode cb_M_findPaths 125 = .ok (.iload 4, 2) := by decide +kernel
theorem dc_M_findPaths_127 : decode cb_M_findPaths 127 = .ok (.iadd, 1) := by decide +kernel
theorem dc_M_findPaths_128 : decode cb_M_findPaths 128 = .ok (.iaload, 1) := by decide +kernel
theorem dc_M_findPaths_129 : decode cb_M_findPaths 129 = .ok (.aload_n 0, 1) := by decide +kernel
theorem dc_M_findPaths_130 : decode cb_M_findPaths 130 = .ok (.getfield 47, 3) := by decide +kernel
theorem dc_M_findPaths_133 : decode cb_M_findPaths 133 = .ok (.bipush 7, 2) := by decide +kernel
theorem dc_M_findPaths_135 : decode cb_M_findPaths 135 = .ok (.iload 4, 2) := by decide +kernel
theorem dc_M_findPaths_137 : decode cb_M_findPaths 137 = .ok (.imul, 1) := by decide +kernel
theorem dc_M_findPaths_138 : decode cb_M_findPaths 138 = .ok (.iload_n 3, 1) := by decide +kernel
theorem dc_M_findPaths_139 : decode cb_M_findPaths 139 = .ok (.iadd, 1) := by decide +kernel
theorem dc_M_findPaths_140 : decode cb_M_findPaths 140 = .ok (.iaload, 1) := by decide +kernel
theorem dc_M_findPaths_141 : decode cb_M_findPaths 141 = .ok (.if_icmp .ge 18, 3) := by decide +kernel
theorem dc_M_findPaths_144 : decode cb_M_findPaths 144 = .ok (.aload_n 0, 1) := by decide +kernel
theorem dc_M_findPaths_145 : decode cb_M_findPaths 145 = .ok (.getfield 47, 3) := by decide +kernel
theorem dc_M_findPaths_148 : decode cb_M_findPaths 148 = .ok (.bipush 7, 2) := by decide +kernel
theorem dc_M_findPaths_150 : decode cb_M_findPaths 150 = .ok (.iload_n 2, 1) := by decide +kernel
theorem dc_M_findPaths_151 : decode cb_M_findPaths 151 = .ok (.imul, 1) := by decide +kernel
theorem dc_M_findPaths_152 : decode cb_M_findPaths 152 = .ok (.iload 4, 2) := by decide +kernel
theorem dc_M_findPaths_154 : decode cb_M_findPaths 154 = .ok (.iadd, 1) := by decide +kernel
theorem dc_M_findPaths_155 : decode cb_M_findPaths 155 = .ok (.iaload, 1) := by decide +kernel
theorem dc_M_findPaths_156 : decode cb_M_findPaths 156 = .ok (.goto 15, 3) := by decide +kernel
theorem dc_M_findPaths_159 : decode cb_M_findPaths 159 = .ok (.aload_n 0, 1) := by decide +kernel
theorem dc_M_findPaths_160 : decode cb_M_findPaths 160 = .ok (.getfield 47, 3) := by decide +kernel
theorem dc_M_findPaths_163 : decode cb_M_findPaths 163 = .ok (.bipush 7, 2) := by decide +kernel
theorem dc_M_findPaths_165 : decode cb_M_findPaths 165 = .ok (.iload 4, 2) := by decide +kernel
theorem dc_M_findPaths_167 : decode cb_M_findPaths 167 = .ok (.imul, 1) := by decide +kernel
theorem dc_M_findPaths_168 : decode cb_M_findPaths 168 = .ok (.iload_n 3, 1) := by decide +kernel
theorem dc_M_findPaths_169 : decode cb_M_findPaths 169 = .ok (.iadd, 1) := by decide +kernel
theorem dc_M_findPaths_170 : decode cb_M_findPaths 170 = .ok (.iaload, 1) := by decide +kernel
theorem dc_M_findPaths_171 : decode cb_M_findPaths 171 = .ok (.istore 5, 2) := by decide +kernel
theorem dc_M_findPaths_173 : decode cb_M_findPaths 173 = .ok (.iload 5, 2) := by decide +kernel
theorem dc_M_findPaths_175 : decode cb_M_findPaths 175 = .ok (.aload_n 0, 1) := by decide +kernel
theorem dc_M_findPaths_176 : decode cb_M_findPaths 176 = .ok (.getfield 47, 3) := by decide +kernel
theorem dc_M_findPaths_179 : decode cb_M_findPaths 179 = .ok (.bipush 7, 2) := by decide +kernel
theorem dc_M_findPaths_181 : decode cb_M_findPaths 181 = .ok (.iload_n 2, 1) := by decide +kernel
theorem dc_M_findPaths_182 : decode cb_M_findPaths 182 = .ok (.imul, 1) := by decide +kernel
theorem dc_M_findPaths_183 : decode cb_M_findPaths 183 = .ok (.iload_n 3, 1) := by decide +kernel
theorem dc_M_findPaths_184 : decode cb_M_findPaths 184 = .ok (.iadd, 1) := by decide +kernel
theorem dc_M_findPaths_185 : decode cb_M_findPaths 185 = .ok (.iaload, 1) := by decide +kernel
theorem dc_M_findPaths_186 : decode cb_M_findPaths 186 = .ok (.if_icmp .le 18, 3) := by decide +kernel
theorem dc_M_findPaths_189 : decode cb_M_findPaths 189 = .ok (.aload_n 0, 1) := by decide +kernel
theorem dc_M_findPaths_190 : decode cb_M_findPaths 190 = .ok (.getfield 47, 3) := by decide +kernel
theorem dc_M_findPaths_193 : decode cb_M_findPaths 193 = .ok (.bipush 7, 2) := by decide +kernel
theorem dc_M_findPaths_195 : decode cb_M_findPaths 195 = .ok (.iload_n 2, 1) := by decide +kernel
theorem dc_M_findPaths_196 : decode cb_M_findPaths 196 = .ok (.imul, 1) := by decide +kernel
theorem dc_M_findPaths_197 : decode cb_M_findPaths 197 = .ok (.iload_n 3, 1) := by decide +kernel
theorem dc_M_findPaths_198 : decode cb_M_findPaths 198 = .ok (.iadd, 1) := by decide +kernel
theorem dc_M_findPaths_199 : decode cb_M_findPaths 199 = .ok (.iload 5, 2) := by decide +kernel
theorem dc_M_findPaths_201 : decode cb_M_findPaths 201 = .ok (.iastore, 1) := by decide +kernel
theorem dc_M_findPaths_202 : decode cb_M_findPaths 202 = .ok (.iconst 1, 1) := by decide +kernel
theorem dc_M_findPaths_203 : decode cb_M_findPaths 203 = .ok (.istore_n 1, 1) := by decide +kernel
theorem dc_M_findPaths_204 : decode cb_M_findPaths 204 = .ok (.iinc 4 1, 3) := by decide +kernel
theorem dc_M_findPaths_207 : decode cb_M_findPaths 207 = .ok (.goto (-104), 3) := by decide +kernel
theorem dc_M_findPaths_210 : decode cb_M_findPaths 210 = .ok (.iinc 3 1, 3) := by decide +kernel
theorem dc_M_findPaths_213 : decode cb_M_findPaths 213 = .ok (.goto (-121), 3) := by decide +kernel
theorem dc_M_findPaths_216 : decode cb_M_findPaths 216 = .ok (.iinc 2 1, 3) := by decide +kernel
theorem dc_M_findPaths_219 : decode cb_M_findPaths 219 = .ok (.goto (-137), 3) := by decide +kernel
theorem dc_M_findPaths_222 : decode cb_M_findPaths 222 = .ok (.goto (-148), 3) := by decide +kernel
theorem dc_M_findPaths_225 : decode cb_M_findPaths 225 = .ok (.return_, 1) := by decide +kernel
theorem dc_M_pathWinners_0 : decode cb_M_pathWinners 0 = .ok (.aload_n 0, 1) := by decide +kernel
theorem dc_M_pathWinners_1 : decode cb_M_pathWinners 1 = .ok (.invokevirtual 143, 3) := by decide +kernel
theorem dc_M_pathWinners_4 : decode cb_M_pathWinners 4 = .ok (.iconst 0, 1) := by decide +kernel
theorem dc_M_pathWinners_5 : decode cb_M_pathWinners 5 = .ok (.istore_n 1, 1) := by decide +kernel
theorem dc_M_pathWinners_6 : decode cb_M_pathWinners 6 = .ok (.iconst 0, 1) := by decide +kernel
theorem dc_M_pathWinners_7 : decode cb_M_pathWinners 7 = .ok (.istore_n 2, 1) := by decide +kernel
theorem dc_M_pathWinners_8 : decode cb_M_pathWinners 8 = .ok (.iload_n 2, 1) := by decide +kernel
theorem dc_M_pathWinners_9 : decode cb_M_pathWinners 9 = .ok (.aload_n 0, 1) := by decide +kernel
theorem dc_M_pathWinners_10 : decode cb_M_pathWinners 10 = .ok (.getfield 106, 3) := by decide +kernel
theorem dc_M_pathWinners_13 : decode cb_M_pathWinners 13 = .ok (.if_icmp .ge 86, 3) := by decide +kernel
theorem dc_M_pathWinners_16 : decode cb_M_pathWinners 16 = .ok (.iconst 1, 1) := by decide +kernel
theorem dc_M_pathWinners_17 : decode cb_M_pathWinners 17 = .ok (.istore_n 3, 1) := by decide +kernel
theorem dc_M_pathWinners_18 : decode cb_M_pathWinners 18 = .ok (.iconst 0, 1) := by decide +kernel
theorem dc_M_pathWinners_19 : decode cb_M_pathWinners 19 = .ok (.istore 4, 2) := by decide +kernel
theorem dc_M_pathWinners_21 : decode cb_M_pathWinners 21 = .ok (.iload 4, 2) := by decide +kernel
theorem dc_M_pathWinners_23 : decode cb_M_pathWinners 23 = .ok (.aload_n 0, 1) := by decide +kernel
theorem dc_M_pathWinners_24 : decode cb_M_pathWinners 24 = .ok (.getfield 106, 3) := by decide +kernel
theorem dc_M_pathWinners_27 : decode cb_M_pathWinners 27 = .ok (.if_icmp .ge 52, 3) := by decide +kernel
theorem dc_M_pathWinners_30 : decode cb_M_pathWinners 30 = .ok (.iload_n 3, 1) := by decide +kernel
theorem dc_M_pathWinners_31 : decode cb_M_pathWinners 31 = .ok (.ifCond .eq 40, 3) := by decide +kernel
theorem dc_M_pathWinners_34 : decode cb_M_pathWinners 34 = .ok (.iload_n 2, 1) := by decide +kernel
theorem dc_M_pathWinners_35 : decode cb_M_pathWinners 35 = .ok (.iload 4, 2) := by decide +kernel
theorem dc_M_pathWinners_37 : decode cb_M_pathWinners 37 = .ok (.if_icmp .eq 30, 3) := by decide +kernel
theorem dc_M_pathWinners_40 : decode cb_M_pathWinners 40 = .ok (.aload_n 0, 1) := by decide +kernel
theorem dc_M_pathWinners_41 : decode cb_M_pathWinners 41 = .ok (.getfield 47, 3) := by decide +kernel
theorem dc_M_pathWinners_44 : decode cb_M_pathWinners 44 = .ok (.bipush 7, 2) := by decide +kernel
theorem dc_M_pathWinners_46 : decode cb_M_pathWinners 46 = .ok (.iload_n 2, 1) := by decide +kernel
theorem dc_M_pathWinners_47 : decode cb_M_pathWinners 47 = .ok (.imul, 1) := by decide +kernel
theorem dc_M_pathWinners_48 : decode cb_M_pathWinners 48 = .ok (.iload 4, 2) := by decide +kernel
theorem dc_M_pathWinners_50 : decode cb_M_pathWinners 50 = .ok (.iadd, 1) := by decide +kernel
theorem dc_M_pathWinners_51 : decode cb_M_pathWinners 51 = .ok (.iaload, 1) := by decide +kernel
theorem dc_M_pathWinners_52 : decode cb_M_pathWinners 52 = .ok (.aload_n 0, 1) := by decide +kernel
theorem dc_M_pathWinners_53 : decode cb_M_pathWinners 53 = .ok (.getfield 47, 3) := by decide +kernel
theorem dc_M_pathWinners_56 : decode cb_M_pathWinners 56 = .ok (.bipush 7, 2) := by decide +kernel
theorem dc_M_pathWinners_58 : decode cb_M_pathWinners 58 = .ok (.iload 4, 2) := by decide +kernel
theorem dc_M_pathWinners_60 : decode cb_M_pathWinners 60 = .ok (.imul, 1) := by decide +kernel
theorem dc_M_pathWinners_61 : decode cb_M_pathWinners 61 = .ok (.iload_n 2, 1) := by decide +kernel
theorem dc_M_pathWinners_62 : decode cb_M_pathWinners 62 = .ok (.iadd, 1) := by decide +kernel
theorem dc_M_pathWinners_63 : decode cb_M_pathWinners 63 = .ok (.iaload, 1) := by decide +kernel
theorem dc_M_pathWinners_64 : decode cb_M_pathWinners 64 = .ok (.if_icmp .lt 7, 3) := by decide +kernel
theorem dc_M_pathWinners_67 : decode cb_M_pathWinners 67 = .ok (.iconst 1, 1) := by decide +kernel
theorem dc_M_pathWinners_68 : decode cb_M_pathWinners 68 = .ok (.goto 4, 3) := by decide +kernel
theorem dc_M_pathWinners_71 : decode cb_M_pathWinners 71 = .ok (.iconst 0, 1) := by decide +kernel
theorem dc_M_pathWinners_72 : decode cb_M_pathWinners 72 = .ok (.istore_n 3, 1) := by decide +kernel
theorem dc_M_pathWinners_73 : decode cb_M_pathWinners 73 = .ok (.iinc 4 1, 3) := by decide +kernel
theorem dc_M_pathWinners_76 : decode cb_M_pathWinners 76 = .ok (.goto (-55), 3) := by decide +kernel
theorem dc_M_pathWinners_79 : decode cb_M_pathWinners 79 = .ok (.iload_n 3, 1) := by decide +kernel
theorem dc_M_pathWinners_80 : decode cb_M_pathWinners 80 = .ok (.ifCond .eq 11, 3) := by decide +kernel
theorem dc_M_pathWinners_83 : decode cb_M_pathWinners 83 = .ok (.iload_n 1, 1) := by decide +kernel
theorem dc_M_pathWinners_84 : decode cb_M_pathWinners 84 = .ok (.iconst 1, 1) := by decide +kernel
theorem dc_M_pathWinners_85 : decode cb_M_pathWinners 85 = .ok (.iload_n 2, 1) := by decide +kernel
theorem dc_M_pathWinners_86 : decode cb_M_pathWinners 86 = .ok (.ishl, 1) := by decide +kernel
theorem dc_M_pathWinners_87 : decode cb_M_pathWinners 87 = .ok (.ior, 1) := by decide +kernel
theorem dc_M_pathWinners_88 : decode cb_M_pathWinners 88 = .ok (.goto 4, 3) := by decide +kernel
theorem dc_M_pathWinners_91 : decode cb_M_pathWinners 91 = .ok (.iload_n 1, 1) := by decide +kernel
theorem dc_M_pathWinners_92 : decode cb_M_pathWinners 92 = .ok (.istore_n 1, 1) := by decide +kernel
theorem dc_M_pathWinners_93 : decode cb_M_pathWinners 93 = .ok (.iinc 2 1, 3) := by decide +kernel
theorem dc_M_pathWinners_96 : decode cb_M_pathWinners 96 = .ok (.goto (-88), 3) := by decide +kernel
theorem dc_M_pathWinners_99 : decode cb_M_pathWinners 99 = .ok (.iload_n 1, 1) := by decide +kernel
theorem dc_M_pathWinners_100 : decode cb_M_pathWinners 100 = .ok (.ireturn, 1) := by decide +kernel
theorem dc_M_leads_0 : decode cb_M_leads 0 = .ok (.iconst 1, 1) := by decide +kernel
theorem dc_M_leads_1 : decode cb_M_leads 1 = .ok (.iload_n 1, 1) := by decide +kernel
theorem dc_M_leads_2 : decode cb_M_leads 2 = .ok (.ishl, 1) := by decide +kernel
theorem dc_M_leads_3 : decode cb_M_leads 3 = .ok (.istore_n 3, 1) := by decide +kernel
theorem dc_M_leads_4 : decode cb_M_leads 4 = .ok (.iconst 0, 1) := by decide +kernel
theorem dc_M_leads_5 : decode cb_M_leads 5 = .ok (.istore 4, 2) := by decide +kernel
theorem dc_M_leads_7 : decode cb_M_leads 7 = .ok (.iload 4, 2) := by decide +kernel
theorem dc_M_leads_9 : decode cb_M_leads 9 = .ok (.aload_n 0, 1) := by decide +kernel
theorem dc_M_leads_10 : decode cb_M_leads 10 = .ok (.getfield 106, 3) := by decide +kernel
theorem dc_M_leads_13 : decode cb_M_leads 13 = .ok (.if_icmp .ge 82, 3) := by decide +kernel
theorem dc_M_leads_16 : decode cb_M_leads 16 = .ok (.iconst 0, 1) := by decide +kernel
theorem dc_M_leads_17 : decode cb_M_leads 17 = .ok (.istore 5, 2) := by decide +kernel
theorem dc_M_leads_19 : decode cb_M_leads 19 = .ok (.iload 5, 2) := by decide +kernel
theorem dc_M_leads_21 : decode cb_M_leads 21 = .ok (.aload_n 0, 1) := by decide +kernel
theorem dc_M_leads_22 : decode cb_M_leads 22 = .ok (.getfield 106, 3) := by decide +kernel
theorem dc_M_leads_25 : decode cb_M_leads 25 = .ok (.if_icmp .ge 64, 3) := by decide +kernel
theorem dc_M_leads_28 : decode cb_M_leads 28 = .ok (.iconst 0, 1) := by decide +kernel
theorem dc_M_leads_29 : decode cb_M_leads 29 = .ok (.istore 6, 2) := by decide +kernel
theorem dc_M_leads_31 : decode cb_M_leads 31 = .ok (.iload 6, 2) := by decide +kernel
theorem dc_M_leads_33 : decode cb_M_leads 33 = .ok (.aload_n 0, 1) := by decide +kernel
theorem dc_M_leads_34 : decode cb_M_leads 34 = .ok (.getfield 106, 3) := by decide +kernel
theorem dc_M_leads_37 : decode cb_M_leads 37 = .ok (.if_icmp .ge 46, 3) := by decide +kernel
theorem dc_M_leads_40 : decode cb_M_leads 40 = .ok (.iload_n 3, 1) := by decide +kernel
theorem dc_M_leads_41 : decode cb_M_leads 41 = .ok (.iload 5, 2) := by decide +kernel
theorem dc_M_leads_43 : decode cb_M_leads 43 = .ok (.ishr, 1) := by decide +kernel
theorem dc_M_leads_44 : decode cb_M_leads 44 = .ok (.iconst 1, 1) := by decide +kernel
theorem dc_M_leads_45 : decode cb_M_leads 45 = .ok (.iand, 1) := by decide +kernel
theorem dc_M_leads_46 : decode cb_M_leads 46 = .ok (.iconst 1, 1) := by decide +kernel
theorem dc_M_leads_47 : decode cb_M_leads 47 = .ok (.if_icmp .ne 28, 3) := by decide +kernel
theorem dc_M_leads_50 : decode cb_M_leads 50 = .ok (.aload_n 0, 1) := by decide +kernel
theorem dc_M_leads_51 : decode cb_M_leads 51 = .ok (.getfield 50, 3) := by decide +kernel
theorem dc_M_leads_54 : decode cb_M_leads 54 = .ok (.bipush 7, 2) := by decide +kernel
theorem dc_M_leads_56 : decode cb_M_leads 56 = .ok (.iload 5, 2) := by decide +kernel
theorem dc_M_leads_58 : decode cb_M_leads 58 = .ok (.imul, 1) := by decide +kernel
theorem dc_M_leads_59 : decode cb_M_leads 59 = .ok (.iload 6, 2) := by decide +kernel
theorem dc_M_leads_61 : decode cb_M_leads 61 = .ok (.iadd, 1) := by decide +kernel
theorem dc_M_leads_62 : decode cb_M_leads 62 = .ok (.baload, 1) := by decide +kernel
theorem dc_M_leads_63 : decode cb_M_leads 63 = .ok (.ifCond .eq 12, 3) := by decide +kernel
theorem dc_M_leads_66 : decode cb_M_leads 66 = .ok (.iload_n 3, 1) := by decide +kernel
theorem dc_M_leads_67 : decode cb_M_leads 67 = .ok (.iconst 1, 1) := by decide +kernel
theorem dc_M_leads_68 : decode cb_M_leads 68 = .ok (.iload 6, 2) := by decide +kernel
theorem dc_M_leads_70 : decode cb_M_leads 70 = .ok (.ishl, 1) := by decide +kernel
theorem dc_M_leads_71 : decode cb_M_leads 71 = .ok (.ior, 1) := by decide +kernel
theorem dc_M_leads_72 : decode cb_M_leads 72 = .ok (.goto 4, 3) := by decide +kernel
theorem dc_M_leads_75 : decode cb_M_leads 75 = .ok (.iload_n 3, 1) := by decide +kernel
theorem dc_M_leads_76 : decode cb_M_leads 76 = .ok (.istore_n 3, 1) := by decide +kernel
theorem dc_M_leads_77 : decode cb_M_leads 77 = .ok (.iinc 6 1, 3) := by decide +kernel
theorem dc_M_leads_80 : decode cb_M_leads 80 = .ok (.goto (-49), 3) := by decide +kernel
theorem dc_M_leads_83 : decode cb_M_leads 83 = .ok (.iinc 5 1, 3) := by decide +kernel
theorem dc_M_leads_86 : decode cb_M_leads 86 = .ok (.goto (-67), 3) := by decide +kernel
theorem dc_M_leads_89 : decode cb_M_leads 89 = .ok (.iinc 4 1, 3) := by decide +kernel
theorem dc_M_leads_92 : decode cb_M_leads 92 = .ok (.goto (-85), 3) := by decide +kernel
theorem dc_M_leads_95 : decode cb_M_leads 95 = .ok (.iload_n 3, 1) := by decide +kernel
theorem dc_M_leads_96 : decode cb_M_leads 96 = .ok (.iload_n 2, 1) := by decide +kernel
theorem dc_M_leads_97 : decode cb_M_leads 97 = .ok (.ishr, 1) := by decide +kernel
theorem dc_M_leads_98 : decode cb_M_leads 98 = .ok (.iconst 1, 1) := by decide +kernel
theorem dc_M_leads_99 : decode cb_M_leads 99 = .ok (.iand, 1) := by decide +kernel
theorem dc_M_leads_100 : decode cb_M_leads 100 = .ok (.iconst 1, 1) := by decide +kernel
theorem dc_M_leads_101 : decode cb_M_leads 101 = .ok (.if_icmp .ne 7, 3) := by decide +kernel
theorem dc_M_leads_104 : decode cb_M_leads 104 = .ok (.iconst 1, 1) := by decide +kernel
theorem dc_M_leads_105 : decode cb_M_leads 105 = .ok (.goto 4, 3) := by decide +kernel
theorem dc_M_leads_108 : decode cb_M_leads 108 = .ok (.iconst 0, 1) := by decide +kernel
theorem dc_M_leads_109 : decode cb_M_leads 109 = .ok (.ireturn, 1) := by decide +kernel
theorem dc_M_sooner_0 : decode cb_M_sooner 0 = .ok (.aload_n 0, 1) := by decide +kernel
theorem dc_M_sooner_1 : decode cb_M_sooner 1 = .ok (.getfield 44, 3) := by decide +kernel
theorem dc_M_sooner_4 : decode cb_M_sooner 4 = .ok (.bipush 7, 2) := by decide +kernel
theorem dc_M_sooner_6 : decode cb_M_sooner 6 = .ok (.iload_n 1, 1) := by decide +kernel
theorem dc_M_sooner_7 : decode cb_M_sooner 7 = .ok (.imul, 1) := by decide +kernel
theorem dc_M_sooner_8 : decode cb_M_sooner 8 = .ok (.iload_n 2, 1) := by decide +kernel
theorem dc_M_sooner_9 : decode cb_M_sooner 9 = .ok (.iadd, 1) := by decide +kernel
theorem dc_M_sooner_10 : decode cb_M_sooner 10 = .ok (.iaload, 1) := by decide +kernel
theorem dc_M_sooner_11 : decode cb_M_sooner 11 = .ok (.istore 5, 2) := by decide +kernel
theorem dc_M_sooner_13 : decode cb_M_sooner 13 = .ok (.aload_n 0, 1) := by decide +kernel
theorem dc_M_sooner_14 : decode cb_M_sooner 14 = .ok (.getfield 44, 3) := by decide +kernel
theorem dc_M_sooner_17 : decode cb_M_sooner 17 = .ok (.bipush 7, 2) := by decide +kernel
theorem dc_M_sooner_19 : decode cb_M_sooner 19 = .ok (.iload_n 3, 1) := by decide +kernel
theorem dc_M_sooner_20 : decode cb_M_sooner 20 = .ok (.imul, 1) := by decide +kernel
theorem dc_M_sooner_21 : decode cb_M_sooner 21 = .ok (.iload 4, 2) := by decide +kernel
theorem dc_M_sooner_23 : decode cb_M_sooner 23 = .ok (.iadd, 1) := by decide +kernel
theorem dc_M_sooner_24 : decode cb_M_sooner 24 = .ok (.iaload, 1) := by decide +kernel
theorem dc_M_sooner_25 : decode cb_M_sooner 25 = .ok (.istore 6, 2) := by decide +kernel
theorem dc_M_sooner_27 : decode cb_M_sooner 27 = .ok (.iload 5, 2) := by decide +kernel
theorem dc_M_sooner_29 : decode cb_M_sooner 29 = .ok (.iload 6, 2) := by decide +kernel
theorem dc_M_sooner_31 : decode cb_M_sooner 31 = .ok (.if_icmp .eq 18, 3) := by decide +kernel
theorem dc_M_sooner_34 : decode cb_M_sooner 34 = .ok (.iload 5, 2) := by decide +kernel
theorem dc_M_sooner_36 : decode cb_M_sooner 36 = .ok (.iload 6, 2) := by decide +kernel
theorem dc_M_sooner_38 : decode cb_M_sooner 38 = .ok (.if_icmp .le 7, 3) := by decide +kernel
theorem dc_M_sooner_41 : decode cb_M_sooner 41 = .ok (.iconst 1, 1) := by decide +kernel
theorem dc_M_sooner_42 : decode cb_M_sooner 42 = .ok (.goto 52, 3) := by decide +kernel
theorem dc_M_sooner_45 : decode cb_M_sooner 45 = .ok (.iconst 0, 1) := by decide +kernel
theorem dc_M_sooner_46 : decode cb_M_sooner 46 = .ok (.goto 48, 3) := by decide +kernel
theorem dc_M_sooner_49 : decode cb_M_sooner 49 = .ok (.iload_n 1, 1) := by decide +kernel
theorem dc_M_sooner_50 : decode cb_M_sooner 50 = .ok (.iload_n 3, 1) := by decide +kernel
theorem dc_M_sooner_51 : decode cb_M_sooner 51 = .ok (.if_icmp .eq 24, 3) := by decide +kernel
theorem dc_M_sooner_54 : decode cb_M_sooner 54 = .ok (.aload_n 0, 1) := by decide +kernel
theorem dc_M_sooner_55 : decode cb_M_sooner 55 = .ok (.iload_n 1, 1) := by decide +kernel
theorem dc_M_sooner_56 : decode cb_M_sooner 56 = .ok (.invokevirtual 146, 3) := by decide +kernel
theorem dc_M_sooner_59 : decode cb_M_sooner 59 = .ok (.aload_n 0, 1) := by decide +kernel
theorem dc_M_sooner_60 : decode cb_M_sooner 60 = .ok (.iload_n 3, 1) := by decide +kernel
theorem dc_M_sooner_61 : decode cb_M_sooner 61 = .ok (.invokevirtual 146, 3) := by decide +kernel
theorem dc_M_sooner_64 : decode cb_M_sooner 64 = .ok (.if_icmp .ge 7, 3) := by decide +kernel
theorem dc_M_sooner_67 : decode cb_M_sooner 67 = .ok (.iconst 1, 1) := by decide +kernel
theorem dc_M_sooner_68 : decode cb_M_sooner 68 = .ok (.goto 26, 3) := by decide +kernel
theorem dc_M_sooner_71 : decode cb_M_sooner 71 = .ok (.iconst 0, 1) := by decide +kernel
theorem dc_M_sooner_72 : decode cb_M_sooner 72 = .ok (.goto 22, 3) := by decide +kernel
theorem dc_M_sooner_75 : decode cb_M_sooner 75 = .ok (.aload_n 0, 1) := by decide +kernel
theorem dc_M_sooner_76 : decode cb_M_sooner 76 = .ok (.iload_n 2, 1) := by decide +kernel
theorem dc_M_sooner_77 : decode cb_M_sooner 77 = .ok (.invokevirtual 146, 3) := by decide +kernel
theorem dc_M_sooner_80 : decode cb_M_sooner 80 = .ok (.aload_n 0, 1) := by decide +kernel
theorem dc_M_sooner_81 : decode cb_M_sooner 81 = .ok (.iload 4, 2) := by decide +kernel
theorem dc_M_sooner_83 : decode cb_M_sooner 83 = .ok (.invokevirtual 146, 3) := by decide +kernel
theorem dc_M_sooner_86 : decode cb_M_sooner 86 = .ok (.if_icmp .ge 7, 3) := by decide +kernel
theorem dc_M_sooner_89 : decode cb_M_sooner 89 = .ok (.iconst 1, 1) := by decide +kernel
theorem dc_M_sooner_90 : decode cb_M_sooner 90 = .ok (.goto 4, 3) := by decide +kernel
theorem dc_M_sooner_93 : decode cb_M_sooner 93 = .ok (.iconst 0, 1) := by decide +kernel
theorem dc_M_sooner_94 : decode cb_M_sooner 94 = .ok (.ireturn, 1) := by decide +kernel
theorem dc_M_lockWinners_0 : decode cb_M_lockWinners 0 = .ok (.iconst 0, 1) := by decide +kernel
theorem dc_M_lockWinners_1 : decode cb_M_lockWinners 1 = .ok (.istore_n 1, 1) := by decide +kernel
theorem dc_M_lockWinners_2 : decode cb_M_lockWinners 2 = .ok (.iload_n 1, 1) := by decide +kernel
theorem dc_M_lockWinners_3 : decode cb_M_lockWinners 3 = .ok (.bipush 49, 2) := by decide +kernel
theorem dc_M_lockWinners_5 : decode cb_M_lockWinners 5 = .ok (.if_icmp .ge 16, 3) := by decide +kernel
theorem dc_M_lockWinners_8 : decode cb_M_lockWinners 8 = .ok (.aload_n 0, 1) := by decide +kernel
theorem dc_M_lockWinners_9 : decode cb_M_lockWinners 9 = .ok (.getfield 50, 3) := by decide +kernel
theorem dc_M_lockWinners_12 : decode cb_M_lockWinners 12 = .ok (.iload_n 1, 1) := by decide +kernel
theorem dc_M_lockWinners_13 : decode cb_M_lockWinners 13 = .ok (.iconst 0, 1) := by decide +kernel
theorem dc_M_lockWinners_14 : decode cb_M_lockWinners 14 = .ok (.bastore, 1) := by decide +kernel
theorem dc_M_lockWinners_15 : decode cb_M_lockWinners 15 = .ok (.iinc 1 1, 3) := by decide +kernel
theorem dc_M_lockWinners_18 : decode cb_M_lockWinners 18 = .ok (.goto (-16), 3) := by decide +kernel
theorem dc_M_lockWinners_21 : decode cb_M_lockWinners 21 = .ok (.lconst 0, 1) := by decide +kernel
theorem dc_M_lockWinners_22 : decode cb_M_lockWinners 22 = .ok (.lstore_n 1, 1) := by decide +kernel
theorem dc_M_lockWinners_23 : decode cb_M_lockWinners 23 = .ok (.iconst 0, 1) := by decide +kernel
theorem dc_M_lockWinners_24 : decode cb_M_lockWinners 24 = .ok (.istore_n 3, 1) := by decide +kernel
theorem dc_M_lockWinners_25 : decode cb_M_lockWinners 25 = .ok (.iload_n 3, 1) := by decide +kernel
theorem dc_M_lockWinners_26 : decode cb_M_lockWinners 26 = .ok (.bipush 49, 2) := by decide +kernel
theorem dc_M_lockWinners_28 : decode cb_M_lockWinners 28 = .ok (.if_icmp .ge 187, 3) := by decide +kernel
theorem dc_M_lockWinners_31 : decode cb_M_lockWinners 31 = .ok (.iconst (-1), 1) := by decide +kernel
theorem dc_M_lockWinners_32 : decode cb_M_lockWinners 32 = .ok (.istore 4, 2) := by decide +kernel
theorem dc_M_lockWinners_34 : decode cb_M_lockWinners 34 = .ok (.iconst 0, 1) := by decide +kernel
theorem dc_M_lockWinners_35 : decode cb_M_lockWinners 35 = .ok (.istore 5, 2) := by decide +kernel
theorem dc_M_lockWinners_37 : decode cb_M_lockWinners 37 = .ok (.iload 5, 2) := by decide +kernel
theorem dc_M_lockWinners_39 : decode cb_M_lockWinners 39 = .ok (.bipush 49, 2) := by decide +kernel
theorem dc_M_lockWinners_41 : decode cb_M_lockWinners 41 = .ok (.if_icmp .ge 127, 3) := by decide +kernel
theorem dc_M_lockWinners_44 : decode cb_M_lockWinners 44 = .ok (.iload 5, 2) := by decide +kernel
theorem dc_M_lockWinners_46 : decode cb_M_lockWinners 46 = .ok (.bipush 7, 2) := by decide +kernel
theorem dc_M_lockWinners_48 : decode cb_M_lockWinners 48 = .ok (.idiv, 1) := by decide +kernel
theorem dc_M_lockWinners_49 : decode cb_M_lockWinners 49 = .ok (.aload_n 0, 1) := by decide +kernel
theorem dc_M_lockWinners_50 : decode cb_M_lockWinners 50 = .ok (.getfield 106, 3) := by decide +kernel
theorem dc_M_lockWinners_53 : decode cb_M_lockWinners 53 = .ok (.if_icmp .ge 60, 3) := by decide +kernel
theorem dc_M_lockWinners_56 : decode cb_M_lockWinners 56 = .ok (.iload 5, 2) := by decide +kernel
theorem dc_M_lockWinners_58 : decode cb_M_lockWinners 58 = .ok (.bipush 7, 2) := by decide +kernel
theorem dc_M_lockWinners_60 : decode cb_M_lockWinners 60 = .ok (.irem, 1) := by decide +kernel
theorem dc_M_lockWinners_61 : decode cb_M_lockWinners 61 = .ok (.aload_n 0, 1) := by decide +kernel
theorem dc_M_lockWinners_62 : decode cb_M_lockWinners 62 = .ok (.getfield 106, 3) := by decide +kernel
theorem dc_M_lockWinners_65 : decode cb_M_lockWinners 65 = .ok (.if_icmp .ge 48, 3) := by decide +kernel
theorem dc_M_lockWinners_68 : decode cb_M_lockWinners 68 = .ok (.iload 5, 2) := by decide +kernel
theorem dc_M_lockWinners_70 : decode cb_M_lockWinners 70 = .ok (.bipush 7, 2) := by decide +kernel
theorem dc_M_lockWinners_72 : decode cb_M_lockWinners 72 = .ok (.idiv, 1) := by decide +kernel
theorem dc_M_lockWinners_73 : decode cb_M_lockWinners 73 = .ok (.iload 5, 2) := by decide +kernel
theorem dc_M_lockWinners_75 : decode cb_M_lockWinners 75 = .ok (.bipush 7, 2) := by decide +kernel
theorem dc_M_lockWinners_77 : decode cb_M_lockWinners 77 = .ok (.irem, 1) := by decide +kernel
theorem dc_M_lockWinners_78 : decode cb_M_lockWinners 78 = .ok (.if_icmp .eq 35, 3) := by decide +kernel
theorem dc_M_lockWinners_81 : decode cb_M_lockWinners 81 = .ok (.aload_n 0, 1) := by decide +kernel
theorem dc_M_lockWinners_82 : decode cb_M_lockWinners 82 = .ok (.iload 5, 2) := by decide +kernel
theorem dc_M_lockWinners_84 : decode cb_M_lockWinners 84 = .ok (.bipush 7, 2) := by decide +kernel
theorem dc_M_lockWinners_86 : decode cb_M_lockWinners 86 = .ok (.idiv, 1) := by decide +kernel
theorem dc_M_lockWinners_87 : decode cb_M_lockWinners 87 = .ok (.iload 5, 2) := by decide +kernel
theorem dc_M_lockWinners_89 : decode cb_M_lockWinners 89 = .ok (.bipush 7, 2) := by decide +kernel
theorem dc_M_lockWinners_91 : decode cb_M_lockWinners 91 = .ok (.irem, 1) := by decide +kernel
theorem dc_M_lockWinners_92 : decode cb_M_lockWinners 92 = .ok (.invokevirtual 126, 3) := by decide +kernel
theorem dc_M_lockWinners_95 : decode cb_M_lockWinners 95 = .ok (.ifCond .eq 18, 3) := by decide +kernel
theorem dc_M_lockWinners_98 : decode cb_M_lockWinners 98 = .ok (.lload_n 1, 1) := by decide +kernel
theorem dc_M_lockWinners_99 : decode cb_M_lockWinners 99 = .ok (.iload 5, 2) := by decide +kernel
theorem dc_M_lockWinners_101 : decode cb_M_lockWinners 101 = .ok (.lshr, 1) := by decide +kernel
theorem dc_M_lockWinners_102 : decode cb_M_lockWinners 102 = .ok (.lconst 1, 1) := by decide +kernel
theorem dc_M_lockWinners_103 : decode cb_M_lockWinners 103 = .ok (.land, 1) := by decide +kernel
theorem dc_M_lockWinners_104 : decode cb_M_lockWinners 104 = .ok (.lconst 0, 1) := by decide +kernel
theorem dc_M_lockWinners_105 : decode cb_M_lockWinners 105 = .ok (.lcmp, 1) := by decide +kernel
theorem dc_M_lockWinners_106 : decode cb_M_lockWinners 106 = .ok (.ifCond .ne 7, 3) := by decide +kernel
theorem dc_M_lockWinners_109 : decode cb_M_lockWinners 109 = .ok (.iconst 1, 1) := by decide +kernel
theorem dc_M_lockWinners_110 : decode cb_M_lockWinners 110 = .ok (.goto 4, 3) := by decide +kernel
theorem dc_M_lockWinners_113 : decode cb_M_lockWinners 113 = .ok (.iconst 0, 1) := by decide +kernel
theorem dc_M_lockWinners_114 : decode cb_M_lockWinners 114 = .ok (.istore 6, 2) := by decide +kernel
theorem dc_M_lockWinners_116 : decode cb_M_lockWinners 116 = .ok (.iload 6, 2) := by decide +kernel
theorem dc_M_lockWinners_118 : decode cb_M_lockWinners 118 = .ok (.ifCond .eq 40, 3) := by decide +kernel
theorem dc_M_lockWinners_121 : decode cb_M_lockWinners 121 = .ok (.iload 4, 2) := by decide +kernel
theorem dc_M_lockWinners_123 : decode cb_M_lockWinners 123 = .ok (.ifCond .lt 30, 3) := by decide +kernel
theorem dc_M_lockWinners_126 : decode cb_M_lockWinners 126 = .ok (.aload_n 0, 1) := by decide +kernel
theorem dc_M_lockWinners_127 : decode cb_M_lockWinners 127 = .ok (.iload 5, 2) := by decide +kernel
theorem dc_M_lockWinners_129 : decode cb_M_lockWinners 129 = .ok (.bipush 7, 2) := by decide +kernel
theorem dc_M_lockWinners_131 : decode cb_M_lockWinners 131 = .ok (.idiv, 1) := by decide +kernel
theorem dc_M_lockWinners_132 : decode cb_M_lockWinners 132 = .ok (.iload 5, 2) := by decide +kernel
theorem dc_M_lockWinners_134 : decode cb_M_lockWinners 134 = .ok (.bipush 7, 2) := by decide +kernel
theorem dc_M_lockWinners_136 : decode cb_M_lockWinners 136 = .ok (.irem, 1) := by decide +kernel
theorem dc_M_lockWinners_137 : decode cb_M_lockWinners 137 = .ok (.iload 4, 2) := by decide +kernel
theorem dc_M_lockWinners_139 : decode cb_M_lockWinners 139 = .ok (.bipush 7, 2) := by decide +kernel
theorem dc_M_lockWinners_141 : decode cb_M_lockWinners 141 = .ok (.idiv, 1) := by decide +kernel
theorem dc_M_lockWinners_142 : decode cb_M_lockWinners 142 = .ok (.iload 4, 2) := by decide +kernel
theorem dc_M_lockWinners_144 : decode cb_M_lockWinners 144 = .ok (.bipush 7, 2) := by decide +kernel
theorem dc_M_lockWinners_146 : decode cb_M_lockWinners 146 = .ok (.irem, 1) := by decide +kernel
theorem dc_M_lockWinners_147 : decode cb_M_lockWinners 147 = .ok (.invokevirtual 149, 3) := by decide +kernel
theorem dc_M_lockWinners_150 : decode cb_M_lockWinners 150 = .ok (.ifCond .eq 8, 3) := by decide +kernel
theorem dc_M_lockWinners_153 : decode cb_M_lockWinners 153 = .ok (.iload 5, 2) := by decide +kernel
theorem dc_M_lockWinners_155 : decode cb_M_lockWinners 155 = .ok (.goto 5, 3) := by decide +kernel
theorem dc_M_lockWinners_158 : decode cb_M_lockWinners 158 = .ok (.iload 4, 2) := by decide +kernel
theorem dc_M_lockWinners_160 : decode cb_M_lockWinners 160 = .ok (.istore 4, 2) := by decide +kernel
theorem dc_M_lockWinners_162 : decode cb_M_lockWinners 162 = .ok (.iinc 5 1, 3) := by decide +kernel
theorem dc_M_lockWinners_165 : decode cb_M_lockWinners 165 = .ok (.goto (-128), 3) := by decide +kernel
theorem dc_M_lockWinners_168 : decode cb_M_lockWinners 168 = .ok (.iload 4, 2) := by decide +kernel
theorem dc_M_lockWinners_170 : decode cb_M_lockWinners 170 = .ok (.ifCond .lt 39, 3) := by decide +kernel
theorem dc_M_lockWinners_173 : decode cb_M_lockWinners 173 = .ok (.lload_n 1, 1) := by decide +kernel
theorem dc_M_lockWinners_174 : decode cb_M_lockWinners 174 = .ok (.lconst 1, 1) := by decide +kernel
theorem dc_M_lockWinners_175 : decode cb_M_lockWinners 175 = .ok (.iload 4, 2) := by decide +kernel
theorem dc_M_lockWinners_177 : decode cb_M_lockWinners 177 = .ok (.lshl, 1) := by decide +kernel
theorem dc_M_lockWinners_178 : decode cb_M_lockWinners 178 = .ok (.lor, 1) := by decide +kernel
theorem dc_M_lockWinners_179 : decode cb_M_lockWinners 179 = .ok (.lstore_n 1, 1) := by decide +kernel
theorem dc_M_lockWinners_180 : decode cb_M_lockWinners 180 = .ok (.aload_n 0, 1) := by decide +kernel
theorem dc_M_lockWinners_181 : decode cb_M_lockWinners 181 = .ok (.getfield 50, 3) := by decide +kernel
theorem dc_M_lockWinners_184 : decode cb_M_lockWinners 184 = .ok (.iload 4, 2) := by decide +kernel
theorem dc_M_lockWinners_186 : decode cb_M_lockWinners 186 = .ok (.aload_n 0, 1) := by decide +kernel
theorem dc_M_lockWinners_187 : decode cb_M_lockWinners 187 = .ok (.iload 4, 2) := by decide +kernel
theorem dc_M_lockWinners_189 : decode cb_M_lockWinners 189 = .ok (.bipush 7, 2) := by decide +kernel
theorem dc_M_lockWinners_191 : decode cb_M_lockWinners 191 = .ok (.irem, 1) := by decide +kernel
theorem dc_M_lockWinners_192 : decode cb_M_lockWinners 192 = .ok (.iload 4, 2) := by decide +kernel
theorem dc_M_lockWinners_194 : decode cb_M_lockWinners 194 = .ok (.bipush 7, 2) := by decide +kernel
theorem dc_M_lockWinners_196 : decode cb_M_lockWinners 196 = .ok (.idiv, 1) := by decide +kernel
theorem dc_M_lockWinners_197 : decode cb_M_lockWinners 197 = .ok (.invokevirtual 153, 3) := by decide +kernel
theorem dc_M_lockWinners_200 : decode cb_M_lockWinners 200 = .ok (.ifCond .ne 7, 3) := by decide +kernel
theorem dc_M_lockWinners_203 : decode cb_M_lockWinners 203 = .ok (.iconst 1, 1) := by decide +kernel
theorem dc_M_lockWinners_204 : decode cb_M_lockWinners 204 = .ok (.goto 4, 3) := by decide +kernel
theorem dc_M_lockWinners_207 : decode cb_M_lockWinners 207 = .ok (.iconst 0, 1) := by decide +kernel
theorem dc_M_lockWinners_208 : decode cb_M_lockWinners 208 = .ok (.bastore, 1) := by decide +kernel
theorem dc_M_lockWinners_209 : decode cb_M_lockWinners 209 = .ok (.iinc 3 1, 3) := by decide +kernel
theorem dc_M_lockWinners_212 : decode cb_M_lockWinners 212 = .ok (.goto (-187), 3) := by decide +kernel
theorem dc_M_lockWinners_215 : decode cb_M_lockWinners 215 = .ok (.aload_n 0, 1) := by decide +kernel
theorem dc_M_lockWinners_216 : decode cb_M_lockWinners 216 = .ok (.invokevirtual 115, 3) := by decide +kernel
theorem dc_M_lockWinners_219 : decode cb_M_lockWinners 219 = .ok (.istore_n 3, 1) := by decide +kernel
theorem dc_M_lockWinners_220 : decode cb_M_lockWinners 220 = .ok (.iconst 0, 1) := by decide +kernel
theorem dc_M_lockWinners_221 : decode cb_M_lockWinners 221 = .ok (.istore 4, 2) := by decide +kernel
theorem dc_M_lockWinners_223 : decode cb_M_lockWinners 223 = .ok (.iload 4, 2) := by decide +kernel
theorem dc_M_lockWinners_225 : decode cb_M_lockWinners 225 = .ok (.bipush 49, 2) := by decide +kernel
theorem dc_M_lockWinners_227 : decode cb_M_lockWinners 227 = .ok (.if_icmp .ge 35, 3) := by decide +kernel
theorem dc_M_lockWinners_230 : decode cb_M_lockWinners 230 = .ok (.aload_n 0, 1) := by decide +kernel
theorem dc_M_lockWinners_231 : decode cb_M_lockWinners 231 = .ok (.getfield 50, 3) := by decide +kernel
theorem dc_M_lockWinners_234 : decode cb_M_lockWinners 234 = .ok (.iload 4, 2) := by decide +kernel
theorem dc_M_lockWinners_236 : decode cb_M_lockWinners 236 = .ok (.baload, 1) := by decide +kernel
theorem dc_M_lockWinners_237 : decode cb_M_lockWinners 237 = .ok (.ifCond .eq 17, 3) := by decide +kernel
theorem dc_M_lockWinners_240 : decode cb_M_lockWinners 240 = .ok (.iload_n 3, 1) := by decide +kernel
theorem dc_M_lockWinners_241 : decode cb_M_lockWinners 241 = .ok (.iconst 1, 1) := by decide +kernel
theorem dc_M_lockWinners_242 : decode cb_M_lockWinners 242 = .ok (.iload 4, 2) := by decide +kernel
theorem dc_M_lockWinners_244 : decode cb_M_lockWinners 244 = .ok (.bipush 7, 2) := by decide +kernel
theorem dc_M_lockWinners_246 : decode cb_M_lockWinners 246 = .ok (.irem, 1) := by decide +kernel
theorem dc_M_lockWinners_247 : decode cb_M_lockWinners 247 = .ok (.ishl, 1) := by decide +kernel
theorem dc_M_lockWinners_248 : decode cb_M_lockWinners 248 = .ok (.iconst (-1), 1) := by decide +kernel
theorem dc_M_lockWinners_249 : decode cb_M_lockWinners 249 = .ok (.ixor, 1) := by decide +kernel
theorem dc_M_lockWinners_250 : decode cb_M_lockWinners 250 = .ok (.iand, 1) := by decide +kernel
theorem dc_M_lockWinners_251 : decode cb_M_lockWinners 251 = .ok (.goto 4, 3) := by decide +kernel
theorem dc_M_lockWinners_254 : decode cb_M_lockWinners 254 = .ok (.iload_n 3, 1) := by decide +kernel
theorem dc_M_lockWinners_255 : decode cb_M_lockWinners 255 = .ok (.istore_n 3, 1) := by decide +kernel
theorem dc_M_lockWinners_256 : decode cb_M_lockWinners 256 = .ok (.iinc 4 1, 3) := by decide +kernel
theorem dc_M_lockWinners_259 : decode cb_M_lockWinners 259 = .ok (.goto (-36), 3) := by decide +kernel
theorem dc_M_lockWinners_262 : decode cb_M_lockWinners 262 = .ok (.iload_n 3, 1) := by decide +kernel
theorem dc_M_lockWinners_263 : decode cb_M_lockWinners 263 = .ok (.ireturn, 1) := by decide +kernel
theorem dc_M_over_0 : decode cb_M_over 0 = .ok (.lconst 0, 1) := by decide +kernel
theorem dc_M_over_1 : decode cb_M_over 1 = .ok (.lstore_n 3, 1) := by decide +kernel
theorem dc_M_over_2 : decode cb_M_over 2 = .ok (.iconst 0, 1) := by decide +kernel
theorem dc_M_over_3 : decode cb_M_over 3 = .ok (.istore 5, 2) := by decide +kernel
theorem dc_M_over_5 : decode cb_M_over 5 = .ok (.iload 5, 2) := by decide +kernel
theorem dc_M_over_7 : decode cb_M_over 7 = .ok (.aload_n 0, 1) := by decide +kernel
theorem dc_M_over_8 : decode cb_M_over 8 = .ok (.getfield 106, 3) := by decide +kernel
theorem dc_M_over_11 : decode cb_M_over 11 = .ok (.if_icmp .ge 39, 3) := by decide +kernel
theorem dc_M_over_14 : decode cb_M_over 14 = .ok (.iload_n 2, 1) := by decide +kernel
theorem dc_M_over_15 : decode cb_M_over 15 = .ok (.iload 5, 2) := by decide +kernel
theorem dc_M_over_17 : decode cb_M_over 17 = .ok (.ishr, 1) := by decide +kernel
theorem dc_M_over_18 : decode cb_M_over 18 = .ok (.iconst 1, 1) := by decide +kernel
theorem dc_M_over_19 : decode cb_M_over 19 = .ok (.iand, 1) := by decide +kernel
theorem dc_M_over_20 : decode cb_M_over 20 = .ok (.iconst 1, 1) := by decide +kernel
theorem dc_M_over_21 : decode cb_M_over 21 = .ok (.if_icmp .ne 21, 3) := by decide +kernel
theorem dc_M_over_24 : decode cb_M_over 24 = .ok (.lload_n 3, 1) := by decide +kernel
theorem dc_M_over_25 : decode cb_M_over 25 = .ok (.aload_n 0, 1) := by decide +kernel
theorem dc_M_over_26 : decode cb_M_over 26 = .ok (.getfield 44, 3) := by decide +kernel
theorem dc_M_over_29 : decode cb_M_over 29 = .ok (.bipush 7, 2) := by decide +kernel
theorem dc_M_over_31 : decode cb_M_over 31 = .ok (.iload 5, 2) := by decide +kernel
theorem dc_M_over_33 : decode cb_M_over 33 = .ok (.imul, 1) := by decide +kernel
theorem dc_M_over_34 : decode cb_M_over 34 = .ok (.iload_n 1, 1) := by decide +kernel
theorem dc_M_over_35 : decode cb_M_over 35 = .ok (.iadd, 1) := by decide +kernel
theorem dc_M_over_36 : decode cb_M_over 36 = .ok (.iaload, 1) := by decide +kernel
theorem dc_M_over_37 : decode cb_M_over 37 = .ok (.i2l, 1) := by decide +kernel
theorem dc_M_over_38 : decode cb_M_over 38 = .ok (.ladd, 1) := by decide +kernel
theorem dc_M_over_39 : decode cb_M_over 39 = .ok (.goto 4, 3) := by decide +kernel
theorem dc_M_over_42 : decode cb_M_over 42 = .ok (.lload_n 3, 1) := by decide +kernel
theorem dc_M_over_43 : decode cb_M_over 43 = .ok (.lstore_n 3, 1) := by decide +kernel
theorem dc_M_over_44 : decode cb_M_over 44 = .ok (.iinc 5 1, 3) := by decide +kernel
theorem dc_M_over_47 : decode cb_M_over 47 = .ok (.goto (-42), 3) := by decide +kernel
theorem dc_M_over_50 : decode cb_M_over 50 = .ok (.lload_n 3, 1) := by decide +kernel
theorem dc_M_over_51 : decode cb_M_over 51 = .ok (.lreturn, 1) := by decide +kernel
theorem dc_M_findLeast_0 : decode cb_M_findLeast 0 = .ok (.aload_n 0, 1) := by decide +kernel
theorem dc_M_findLeast_1 : decode cb_M_findLeast 1 = .ok (.getfield 57, 3) := by decide +kernel
theorem dc_M_findLeast_4 : decode cb_M_findLeast 4 = .ok (.iconst 0, 1) := by decide +kernel
theorem dc_M_findLeast_5 : decode cb_M_findLeast 5 = .ok (.lconst 0, 1) := by decide +kernel
theorem dc_M_findLeast_6 : decode cb_M_findLeast 6 = .ok (.lastore, 1) := by decide +kernel
theorem dc_M_findLeast_7 : decode cb_M_findLeast 7 = .ok (.iconst 1, 1) := by decide +kernel
theorem dc_M_findLeast_8 : decode cb_M_findLeast 8 = .ok (.istore_n 1, 1) := by decide +kernel
theorem dc_M_findLeast_9 : decode cb_M_findLeast 9 = .ok (.iload_n 1, 1) := by decide +kernel
theorem dc_M_findLeast_10 : decode cb_M_findLeast 10 = .ok (.aload_n 0, 1) := by decide +kernel
theorem dc_M_findLeast_11 : decode cb_M_findLeast 11 = .ok (.invokevirtual 115, 3) := by decide +kernel
theorem dc_M_findLeast_14 : decode cb_M_findLeast 14 = .ok (.if_icmp .gt 94, 3) := by decide +kernel
theorem dc_M_findLeast_17 : decode cb_M_findLeast 17 = .ok (.iconst 1, 1) := by decide +kernel
theorem dc_M_findLeast_18 : decode cb_M_findLeast 18 = .ok (.istore_n 2, 1) := by decide +kernel
theorem dc_M_findLeast_19 : decode cb_M_findLeast 19 = .ok (.iconst 0, 1) := by decide +kernel
theorem dc_M_findLeast_20 : decode cb_M_findLeast 20 = .ok (.istore_n 3, 1) := by decide +kernel
theorem dc_M_findLeast_21 : decode cb_M_findLeast 21 = .ok (.iload_n 3, 1) := by decide +kernel
theorem dc_M_findLeast_22 : decode cb_M_findLeast 22 = .ok (.aload_n 0, 1) := by decide +kernel
theorem dc_M_findLeast_23 : decode cb_M_findLeast 23 = .ok (.getfield 106, 3) := by decide +kernel
theorem dc_M_findLeast_26 : decode cb_M_findLeast 26 = .ok (.if_icmp .ge 76, 3) := by decide +kernel
theorem dc_M_findLeast_29 : decode cb_M_findLeast 29 = .ok (.iload_n 1, 1) := by decide +kernel
theorem dc_M_findLeast_30 : decode cb_M_findLeast 30 = .ok (.iconst 1, 1) := by decide +kernel
theorem dc_M_findLeast_31 : decode cb_M_findLeast 31 = .ok (.iload_n 3, 1) := by decide +kernel
theorem dc_M_findLeast_32 : decode cb_M_findLeast 32 = .ok (.ishl, 1) := by decide +kernel
theorem dc_M_findLeast_33 : decode cb_M_findLeast 33 = .ok (.iconst (-1), 1) := by decide +kernel
theorem dc_M_findLeast_34 : decode cb_M_findLeast 34 = .ok (.ixor, 1) := by decide +kernel
theorem dc_M_findLeast_35 : decode cb_M_findLeast 35 = .ok (.iand, 1) := by decide +kernel
theorem dc_M_findLeast_36 : decode cb_M_findLeast 36 = .ok (.istore 4, 2) := by decide +kernel
theorem dc_M_findLeast_38 : decode cb_M_findLeast 38 = .ok (.iload 4, 2) := by decide +kernel
theorem dc_M_findLeast_40 : decode cb_M_findLeast 40 = .ok (.iload_n 1, 1) := by decide +kernel
theorem dc_M_findLeast_41 : decode cb_M_findLeast 41 = .ok (.if_icmp .eq 55, 3) := by decide +kernel
theorem dc_M_findLeast_44 : decode cb_M_findLeast 44 = .ok (.aload_n 0, 1) := by decide +kernel
theorem dc_M_findLeast_45 : decode cb_M_findLeast 45 = .ok (.iload_n 3, 1) := by decide +kernel
theorem dc_M_findLeast_46 : decode cb_M_findLeast 46 = .ok (.iload 4, 2) := by decide +kernel
theorem dc_M_findLeast_48 : decode cb_M_findLeast 48 = .ok (.invokevirtual 156, 3) := by decide +kernel
theorem dc_M_findLeast_51 : decode cb_M_findLeast 51 = .ok (.aload_n 0, 1) := by decide +kernel
theorem dc_M_findLeast_52 : decode cb_M_findLeast 52 = .ok (.getfield 57, 3) := by decide +kernel
theorem dc_M_findLeast_55 : decode cb_M_findLeast 55 = .ok (.iload 4, 2) := by decide +kernel
theorem dc_M_findLeast_57 : decode cb_M_findLeast 57 = .ok (.laload, 1) := by decide +kernel
theorem dc_M_findLeast_58 : decode cb_M_findLeast 58 = .ok (.ladd, 1) := by decide +kernel
theorem dc_M_findLeast_59 : decode cb_M_findLeast 59 = .ok (.lstore 5, 2) := by decide +kernel
theorem dc_M_findLeast_61 : decode cb_M_findLeast 61 = .ok (.aload_n 0, 1) := by decide +kernel
theorem dc_M_findLeast_62 : decode cb_M_findLeast 62 = .ok (.getfield 57, 3) := by decide +kernel
theorem dc_M_findLeast_65 : decode cb_M_findLeast 65 = .ok (.iload_n 1, 1) := by decide +kernel
theorem dc_M_findLeast_66 : decode cb_M_findLeast 66 = .ok (.iload_n 2, 1) := by decide +kernel
theorem dc_M_findLeast_67 : decode cb_M_findLeast 67 = .ok (.ifCond .ne 15, 3) := by decide +kernel
theorem dc_M_findLeast_70 : decode cb_M_findLeast 70 = .ok (.lload 5, 2) := by decide +kernel
theorem dc_M_findLeast_72 : decode cb_M_findLeast 72 = .ok (.aload_n 0, 1) := by decide +kernel
theorem dc_M_findLeast_73 : decode cb_M_findLeast 73 = .ok (.getfield 57, 3) := by decide +kernel
theorem dc_M_findLeast_76 : decode cb_M_findLeast 76 = .ok (.iload_n 1, 1) := by decide +kernel
theorem dc_M_findLeast_77 : decode cb_M_findLeast 77 = .ok (.laload, 1) := by decide +kernel
theorem dc_M_findLeast_78 : decode cb_M_findLeast 78 = .ok (.lcmp, 1) := by decide +kernel
theorem dc_M_findLeast_79 : decode cb_M_findLeast 79 = .ok (.ifCond .ge 8, 3) := by decide +kernel
theorem dc_M_findLeast_82 : decode cb_M_findLeast 82 = .ok (.lload 5, 2) := by decide +kernel
theorem dc_M_findLeast_84 : decode cb_M_findLeast 84 = .ok (.goto 9, 3) := by decide +kernel
theorem dc_M_findLeast_87 : decode cb_M_findLeast 87 = .ok (.aload_n 0, 1) := by decide +kernel
theorem dc_M_findLeast_88 : decode cb_M_findLeast 88 = .ok (.getfield 57, 3) := by decide +kernel
theorem dc_M_findLeast_91 : decode cb_M_findLeast 91 = .ok (.iload_n 1, 1) := by decide +kernel
theorem dc_M_findLeast_92 : decode cb_M_findLeast 92 = .ok (.laload, 1) := by decide +kernel
theorem dc_M_findLeast_93 : decode cb_M_findLeast 93 = .ok (.lastore, 1) := by decide +kernel
theorem dc_M_findLeast_94 : decode cb_M_findLeast 94 = .ok (.iconst 0, 1) := by decide +kernel
theorem dc_M_findLeast_95 : decode cb_M_findLeast 95 = .ok (.istore_n 2, 1) := by decide +kernel
theorem dc_M_findLeast_96 : decode cb_M_findLeast 96 = .ok (.iinc 3 1, 3) := by decide +kernel
theorem dc_M_findLeast_99 : decode cb_M_findLeast 99 = .ok (.goto (-78), 3) := by decide +kernel
theorem dc_M_findLeast_102 : decode cb_M_findLeast 102 = .ok (.iinc 1 1, 3) := by decide +kernel
theorem dc_M_findLeast_105 : decode cb_M_findLeast 105 = .ok (.goto (-96), 3) := by decide +kernel
theorem dc_M_findLeast_108 : decode cb_M_findLeast 108 = .ok (.return_, 1) := by decide +kernel
theorem dc_M_agreeing_0 : decode cb_M_agreeing 0 = .ok (.aload_n 0, 1) := by decide +kernel
theorem dc_M_agreeing_1 : decode cb_M_agreeing 1 = .ok (.invokevirtual 159, 3) := by decide +kernel
theorem dc_M_agreeing_4 : decode cb_M_agreeing 4 = .ok (.iconst 0, 1) := by decide +kernel
theorem dc_M_agreeing_5 : decode cb_M_agreeing 5 = .ok (.istore_n 1, 1) := by decide +kernel
theorem dc_M_agreeing_6 : decode cb_M_agreeing 6 = .ok (.iconst 0, 1) := by decide +kernel
theorem dc_M_agreeing_7 : decode cb_M_agreeing 7 = .ok (.istore_n 2, 1) := by decide +kernel
theorem dc_M_agreeing_8 : decode cb_M_agreeing 8 = .ok (.iload_n 2, 1) := by decide +kernel
theorem dc_M_agreeing_9 : decode cb_M_agreeing 9 = .ok (.aload_n 0, 1) := by decide +kernel
theorem dc_M_agreeing_10 : decode cb_M_agreeing 10 = .ok (.getfield 106, 3) := by decide +kernel
theorem dc_M_agreeing_13 : decode cb_M_agreeing 13 = .ok (.if_icmp .ge 56, 3) := by decide +kernel
theorem dc_M_agreeing_16 : decode cb_M_agreeing 16 = .ok (.aload_n 0, 1) := by decide +kernel
theorem dc_M_agreeing_17 : decode cb_M_agreeing 17 = .ok (.invokevirtual 115, 3) := by decide +kernel
theorem dc_M_agreeing_20 : decode cb_M_agreeing 20 = .ok (.iconst 1, 1) := by decide +kernel
theorem dc_M_agreeing_21 : decode cb_M_agreeing 21 = .ok (.iload_n 2, 1) := by decide +kernel
theorem dc_M_agreeing_22 : decode cb_M_agreeing 22 = .ok (.ishl, 1) := by decide +kernel
theorem dc_M_agreeing_23 : decode cb_M_agreeing 23 = .ok (.iconst (-1), 1) := by decide +kernel
theorem dc_M_agreeing_24 : decode cb_M_agreeing 24 = .ok (.ixor, 1) := by decide +kernel
theorem dc_M_agreeing_25 : decode cb_M_agreeing 25 = .ok (.iand, 1) := by decide +kernel
theorem dc_M_agreeing_26 : decode cb_M_agreeing 26 = .ok (.istore_n 3, 1) := by decide +kernel
theorem dc_M_agreeing_27 : decode cb_M_agreeing 27 = .ok (.aload_n 0, 1) := by decide +kernel
theorem dc_M_agreeing_28 : decode cb_M_agreeing 28 = .ok (.iload_n 2, 1) := by decide +kernel
theorem dc_M_agreeing_29 : decode cb_M_agreeing 29 = .ok (.iload_n 3, 1) := by decide +kernel
theorem dc_M_agreeing_30 : decode cb_M_agreeing 30 = .ok (.invokevirtual 156, 3) := by decide +kernel
theorem dc_M_agreeing_33 : decode cb_M_agreeing 33 = .ok (.aload_n 0, 1) := by decide +kernel
theorem dc_M_agreeing_34 : decode cb_M_agreeing 34 = .ok (.getfield 57, 3) := by decide +kernel
theorem dc_M_agreeing_37 : decode cb_M_agreeing 37 = .ok (.iload_n 3, 1) := by decide +kernel
theorem dc_M_agreeing_38 : decode cb_M_agreeing 38 = .ok (.laload, 1) := by decide +kernel
theorem dc_M_agreeing_39 : decode cb_M_agreeing 39 = .ok (.ladd, 1) := by decide +kernel
theorem dc_M_agreeing_40 : decode cb_M_agreeing 40 = .ok (.aload_n 0, 1) := by decide +kernel
theorem dc_M_agreeing_41 : decode cb_M_agreeing 41 = .ok (.getfield 57, 3) := by decide +kernel
theorem dc_M_agreeing_44 : decode cb_M_agreeing 44 = .ok (.aload_n 0, 1) := by decide +kernel
theorem dc_M_agreeing_45 : decode cb_M_agreeing 45 = .ok (.invokevirtual 115, 3) := by decide +kernel
theorem dc_M_agreeing_48 : decode cb_M_agreeing 48 = .ok (.laload, 1) := by decide +kernel
theorem dc_M_agreeing_49 : decode cb_M_agreeing 49 = .ok (.lcmp, 1) := by decide +kernel
theorem dc_M_agreeing_50 : decode cb_M_agreeing 50 = .ok (.ifCond .ne 11, 3) := by decide +kernel
theorem dc_M_agreeing_53 : decode cb_M_agreeing 53 = .ok (.iload_n 1, 1) := by decide +kernel
theorem dc_M_agreeing_54 : decode cb_M_agreeing 54 = .ok (.iconst 1, 1) := by decide +kernel
theorem dc_M_agreeing_55 : decode cb_M_agreeing 55 = .ok (.iload_n 2, 1) := by decide +kernel
theorem dc_M_agreeing_56 : decode cb_M_agreeing 56 = .ok (.ishl, 1) := by decide +kernel
theorem dc_M_agreeing_57 : decode cb_M_agreeing 57 = .ok (.ior, 1) := by decide +kernel
theorem dc_M_agreeing_58 : decode cb_M_agreeing 58 = .ok (.goto 4, 3) := by decide +kernel
theorem dc_M_agreeing_61 : decode cb_M_agreeing 61 = .ok (.iload_n 1, 1) := by decide +kernel
theorem dc_M_agreeing_62 : decode cb_M_agreeing 62 = .ok (.istore_n 1, 1) := by decide +kernel
theorem dc_M_agreeing_63 : decode cb_M_agreeing 63 = .ok (.iinc 2 1, 3) := by decide +kernel
theorem dc_M_agreeing_66 : decode cb_M_agreeing 66 = .ok (.goto (-58), 3) := by decide +kernel
theorem dc_M_agreeing_69 : decode cb_M_agreeing 69 = .ok (.iload_n 1, 1) := by decide +kernel
theorem dc_M_agreeing_70 : decode cb_M_agreeing 70 = .ok (.ireturn, 1) := by decide +kernel
theorem dc_M_uncovered_0 : decode cb_M_uncovered 0 = .ok (.aload_n 0, 1) := by decide +kernel
theorem dc_M_uncovered_1 : decode cb_M_uncovered 1 = .ok (.invokevirtual 115, 3) := by decide +kernel
theorem dc_M_uncovered_4 : decode cb_M_uncovered 4 = .ok (.istore_n 1, 1) := by decide +kernel
theorem dc_M_uncovered_5 : decode cb_M_uncovered 5 = .ok (.iconst 0, 1) := by decide +kernel
theorem dc_M_uncovered_6 : decode cb_M_uncovered 6 = .ok (.istore_n 2, 1) := by decide +kernel
theorem dc_M_uncovered_7 : decode cb_M_uncovered 7 = .ok (.iload_n 2, 1) := by decide +kernel
theorem dc_M_uncovered_8 : decode cb_M_uncovered 8 = .ok (.aload_n 0, 1) := by decide +kernel
theorem dc_M_uncovered_9 : decode cb_M_uncovered 9 = .ok (.getfield 106, 3) := by decide +kernel
theorem dc_M_uncovered_12 : decode cb_M_uncovered 12 = .ok (.if_icmp .ge 125, 3) := by decide +kernel
theorem dc_M_uncovered_15 : decode cb_M_uncovered 15 = .ok (.iconst 0, 1) := by decide +kernel
theorem dc_M_uncovered_16 : decode cb_M_uncovered 16 = .ok (.istore_n 3, 1) := by decide +kernel
theorem dc_M_uncovered_17 : decode cb_M_uncovered 17 = .ok (.iload_n 3, 1) := by decide +kernel
theorem dc_M_uncovered_18 : decode cb_M_uncovered 18 = .ok (.aload_n 0, 1) := by decide +kernel
theorem dc_M_uncovered_19 : decode cb_M_uncovered 19 = .ok (.getfield 106, 3) := by decide +kernel
theorem dc_M_uncovered_22 : decode cb_M_uncovered 22 = .ok (.if_icmp .ge 109, 3) := by decide +kernel
theorem dc_M_uncovered_25 : decode cb_M_uncovered 25 = .ok (.iload_n 2, 1) := by decide +kernel
theorem dc_M_uncovered_26 : decode cb_M_uncovered 26 = .ok (.iload_n 3, 1) := by decide +kernel
theorem dc_M_uncovered_27 : decode cb_M_uncovered 27 = .ok (.if_icmp .eq 16, 3) := by decide +kernel
theorem dc_M_uncovered_30 : decode cb_M_uncovered 30 = .ok (.aload_n 0, 1) := by decide +kernel
theorem dc_M_uncovered_31 : decode cb_M_uncovered 31 = .ok (.iload_n 2, 1) := by decide +kernel
theorem dc_M_uncovered_32 : decode cb_M_uncovered 32 = .ok (.iload_n 3, 1) := by decide +kernel
theorem dc_M_uncovered_33 : decode cb_M_uncovered 33 = .ok (.invokevirtual 126, 3) := by decide +kernel
theorem dc_M_uncovered_36 : decode cb_M_uncovered 36 = .ok (.ifCond .eq 7, 3) := by decide +kernel
theorem dc_M_uncovered_39 : decode cb_M_uncovered 39 = .ok (.iconst 1, 1) := by decide +kernel
theorem dc_M_uncovered_40 : decode cb_M_uncovered 40 = .ok (.goto 4, 3) := by decide +kernel
theorem dc_M_uncovered_43 : decode cb_M_uncovered 43 = .ok (.iconst 0, 1) := by decide +kernel
theorem dc_M_uncovered_44 : decode cb_M_uncovered 44 = .ok (.istore 4, 2) := by decide +kernel
theorem dc_M_uncovered_46 : decode cb_M_uncovered 46 = .ok (.iconst 0, 1) := by decide +kernel
theorem dc_M_uncovered_47 : decode cb_M_uncovered 47 = .ok (.istore 5, 2) := by decide +kernel
theorem dc_M_uncovered_49 : decode cb_M_uncovered 49 = .ok (.iload 5, 2) := by decide +kernel
theorem dc_M_uncovered_51 : decode cb_M_uncovered 51 = .ok (.aload_n 0, 1) := by decide +kernel
theorem dc_M_uncovered_52 : decode cb_M_uncovered 52 = .ok (.getfield 106, 3) := by decide +kernel
theorem dc_M_uncovered_55 : decode cb_M_uncovered 55 = .ok (.if_icmp .ge 53, 3) := by decide +kernel
theorem dc_M_uncovered_58 : decode cb_M_uncovered 58 = .ok (.iload 4, 2) := by decide +kernel
theorem dc_M_uncovered_60 : decode cb_M_uncovered 60 = .ok (.ifCond .eq 39, 3) := by decide +kernel
theorem dc_M_uncovered_63 : decode cb_M_uncovered 63 = .ok (.iload 5, 2) := by decide +kernel
theorem dc_M_uncovered_65 : decode cb_M_uncovered 65 = .ok (.iload_n 2, 1) := by decide +kernel
theorem dc_M_uncovered_66 : decode cb_M_uncovered 66 = .ok (.if_icmp .eq 29, 3) := by decide +kernel
theorem dc_M_uncovered_69 : decode cb_M_uncovered 69 = .ok (.iload 5, 2) := by decide +kernel
theorem dc_M_uncovered_71 : decode cb_M_uncovered 71 = .ok (.iload_n 3, 1) := by decide +kernel
theorem dc_M_uncovered_72 : decode cb_M_uncovered 72 = .ok (.if_icmp .eq 23, 3) := by decide +kernel
theorem dc_M_uncovered_75 : decode cb_M_uncovered 75 = .ok (.aload_n 0, 1) := by decide +kernel
theorem dc_M_uncovered_76 : decode cb_M_uncovered 76 = .ok (.iload_n 3, 1) := by decide +kernel
theorem dc_M_uncovered_77 : decode cb_M_uncovered 77 = .ok (.iload 5, 2) := by decide +kernel
theorem dc_M_uncovered_79 : decode cb_M_uncovered 79 = .ok (.invokevirtual 126, 3) := by decide +kernel
theorem dc_M_uncovered_82 : decode cb_M_uncovered 82 = .ok (.ifCond .eq 13, 3) := by decide +kernel
theorem dc_M_uncovered_85 : decode cb_M_uncovered 85 = .ok (.aload_n 0, 1) := by decide +kernel
theorem dc_M_uncovered_86 : decode cb_M_uncovered 86 = .ok (.iload_n 2, 1) := by decide +kernel
theorem dc_M_uncovered_87 : decode cb_M_uncovered 87 = .ok (.iload 5, 2) := by decide +kernel
theorem dc_M_uncovered_89 : decode cb_M_uncovered 89 = .ok (.invokevirtual 126, 3) := by decide +kernel
theorem dc_M_uncovered_92 : decode cb_M_uncovered 92 = .ok (.ifCond .eq 7, 3) := by decide +kernel
theorem dc_M_uncovered_95 : decode cb_M_uncovered 95 = .ok (.iconst 1, 1) := by decide +kernel
theorem dc_M_uncovered_96 : decode cb_M_uncovered 96 = .ok (.goto 4, 3) := by decide +kernel
theorem dc_M_uncovered_99 : decode cb_M_uncovered 99 = .ok (.iconst 0, 1) := by decide +kernel
theorem dc_M_uncovered_100 : decode cb_M_uncovered 100 = .ok (.istore 4, 2) := by decide +kernel
theorem dc_M_uncovered_102 : decode cb_M_uncovered 102 = .ok (.iinc 5 1, 3) := by decide +kernel
theorem dc_M_uncovered_105 : decode cb_M_uncovered 105 = .ok (.goto (-56), 3) := by decide +kernel
theorem dc_M_uncovered_108 : decode cb_M_uncovered 108 = .ok (.iload 4, 2) := by decide +kernel
theorem dc_M_uncovered_110 : decode cb_M_uncovered 110 = .ok (.ifCond .eq 13, 3) := by decide +kernel
theorem dc_M_uncovered_113 : decode cb_M_uncovered 113 = .ok (.iload_n 1, 1) := by decide +kernel
theorem dc_M_uncovered_114 : decode cb_M_uncovered 114 = .ok (.iconst 1, 1) := by decide +kernel
theorem dc_M_uncovered_115 : decode cb_M_uncovered 115 = .ok (.iload_n 3, 1) := by decide +kernel
theorem dc_M_uncovered_116 : decode cb_M_uncovered 116 = .ok (.ishl, 1) := by decide +kernel
theorem dc_M_uncovered_117 : decode cb_M_uncovered 117 = .ok (.iconst (-1), 1) := by decide +kernel
theorem dc_M_uncovered_118 : decode cb_M_uncovered 118 = .ok (.ixor, 1) := by decide +kernel
theorem dc_M_uncovered_119 : decode cb_M_uncovered 119 = .ok (.iand, 1) := by decide +kernel
theorem dc_M_uncovered_120 : decode cb_M_uncovered 120 = .ok (.goto 4, 3) := by decide +kernel
theorem dc_M_uncovered_123 : decode cb_M_uncovered 123 = .ok (.iload_n 1, 1) := by decide +kernel
theorem dc_M_uncovered_124 : decode cb_M_uncovered 124 = .ok (.istore_n 1, 1) := by decide +kernel
theorem dc_M_uncovered_125 : decode cb_M_uncovered 125 = .ok (.iinc 3 1, 3) := by decide +kernel
theorem dc_M_uncovered_128 : decode cb_M_uncovered 128 = .ok (.goto (-111), 3) := by decide +kernel
theorem dc_M_uncovered_131 : decode cb_M_uncovered 131 = .ok (.iinc 2 1, 3) := by decide +kernel
theorem dc_M_uncovered_134 : decode cb_M_uncovered 134 = .ok (.goto (-127), 3) := by decide +kernel
theorem dc_M_uncovered_137 : decode cb_M_uncovered 137 = .ok (.iload_n 1, 1) := by decide +kernel
theorem dc_M_uncovered_138 : decode cb_M_uncovered 138 = .ok (.ireturn, 1) := by decide +kernel
theorem dc_M_byAgenda_0 : decode cb_M_byAgenda 0 = .ok (.aload_n 0, 1) := by decide +kernel
theorem dc_M_byAgenda_1 : decode cb_M_byAgenda 1 = .ok (.getfield 38, 3) := by decide +kernel
theorem dc_M_byAgenda_4 : decode cb_M_byAgenda 4 = .ok (.iconst 0, 1) := by decide +kernel
theorem dc_M_byAgenda_5 : decode cb_M_byAgenda 5 = .ok (.iaload, 1) := by decide +kernel
theorem dc_M_byAgenda_6 : decode cb_M_byAgenda 6 = .ok (.istore_n 1, 1) := by decide +kernel
theorem dc_M_byAgenda_7 : decode cb_M_byAgenda 7 = .ok (.iconst 1, 1) := by decide +kernel
theorem dc_M_byAgenda_8 : decode cb_M_byAgenda 8 = .ok (.istore_n 2, 1) := by decide +kernel
theorem dc_M_byAgenda_9 : decode cb_M_byAgenda 9 = .ok (.iload_n 2, 1) := by decide +kernel
theorem dc_M_byAgenda_10 : decode cb_M_byAgenda 10 = .ok (.aload_n 0, 1) := by decide +kernel
theorem dc_M_byAgenda_11 : decode cb_M_byAgenda 11 = .ok (.getfield 106, 3) := by decide +kernel
theorem dc_M_byAgenda_14 : decode cb_M_byAgenda 14 = .ok (.if_icmp .ge 65, 3) := by decide +kernel
theorem dc_M_byAgenda_17 : decode cb_M_byAgenda 17 = .ok (.aload_n 0, 1) := by decide +kernel
theorem dc_M_byAgenda_18 : decode cb_M_byAgenda 18 = .ok (.getfield 38, 3) := by decide +kernel
theorem dc_M_byAgenda_21 : decode cb_M_byAgenda 21 = .ok (.iload_n 2, 1) := by decide +kernel
theorem dc_M_byAgenda_22 : decode cb_M_byAgenda 22 = .ok (.iaload, 1) := by decide +kernel
theorem dc_M_byAgenda_23 : decode cb_M_byAgenda 23 = .ok (.istore_n 3, 1) := by decide +kernel
theorem dc_M_byAgenda_24 : decode cb_M_byAgenda 24 = .ok (.aload_n 0, 1) := by decide +kernel
theorem dc_M_byAgenda_25 : decode cb_M_byAgenda 25 = .ok (.iload_n 3, 1) := by decide +kernel
theorem dc_M_byAgenda_26 : decode cb_M_byAgenda 26 = .ok (.iload_n 1, 1) := by decide +kernel
theorem dc_M_byAgenda_27 : decode cb_M_byAgenda 27 = .ok (.invokevirtual 126, 3) := by decide +kernel
theorem dc_M_byAgenda_30 : decode cb_M_byAgenda 30 = .ok (.ifCond .ne 25, 3) := by decide +kernel
theorem dc_M_byAgenda_33 : decode cb_M_byAgenda 33 = .ok (.aload_n 0, 1) := by decide +kernel
theorem dc_M_byAgenda_34 : decode cb_M_byAgenda 34 = .ok (.iload_n 1, 1) := by decide +kernel
theorem dc_M_byAgenda_35 : decode cb_M_byAgenda 35 = .ok (.iload_n 3, 1) := by decide +kernel
theorem dc_M_byAgenda_36 : decode cb_M_byAgenda 36 = .ok (.invokevirtual 126, 3) := by decide +kernel
theorem dc_M_byAgenda_39 : decode cb_M_byAgenda 39 = .ok (.ifCond .ne 20, 3) := by decide +kernel
theorem dc_M_byAgenda_42 : decode cb_M_byAgenda 42 = .ok (.aload_n 0, 1) := by decide +kernel
theorem dc_M_byAgenda_43 : decode cb_M_byAgenda 43 = .ok (.iload_n 3, 1) := by decide +kernel
theorem dc_M_byAgenda_44 : decode cb_M_byAgenda 44 = .ok (.invokevirtual 146, 3) := by decide +kernel
theorem dc_M_byAgenda_47 : decode cb_M_byAgenda 47 = .ok (.aload_n 0, 1) := by decide +kernel
theorem dc_M_byAgenda_48 : decode cb_M_byAgenda 48 = .ok (.iload_n 1, 1) := by decide +kernel
theorem dc_M_byAgenda_49 : decode cb_M_byAgenda 49 = .ok (.invokevirtual 146, 3) := by decide +kernel
theorem dc_M_byAgenda_52 : decode cb_M_byAgenda 52 = .ok (.if_icmp .ge 7, 3) := by decide +kernel
theorem dc_M_byAgenda_55 : decode cb_M_byAgenda 55 = .ok (.iconst 1, 1) := by decide +kernel
theorem dc_M_byAgenda_56 : decode cb_M_byAgenda 56 = .ok (.goto 4, 3) := by decide +kernel
theorem dc_M_byAgenda_59 : decode cb_M_byAgenda 59 = .ok (.iconst 0, 1) := by decide +kernel
theorem dc_M_byAgenda_60 : decode cb_M_byAgenda 60 = .ok (.istore 4, 2) := by decide +kernel
theorem dc_M_byAgenda_62 : decode cb_M_byAgenda 62 = .ok (.iload 4, 2) := by decide +kernel
theorem dc_M_byAgenda_64 : decode cb_M_byAgenda 64 = .ok (.ifCond .eq 7, 3) := by decide +kernel
theorem dc_M_byAgenda_67 : decode cb_M_byAgenda 67 = .ok (.iload_n 3, 1) := by decide +kernel
theorem dc_M_byAgenda_68 : decode cb_M_byAgenda 68 = .ok (.goto 4, 3) := by decide +kernel
theorem dc_M_byAgenda_71 : decode cb_M_byAgenda 71 = .ok (.iload_n 1, 1) := by decide +kernel
theorem dc_M_byAgenda_72 : decode cb_M_byAgenda 72 = .ok (.istore_n 1, 1) := by decide +kernel
theorem dc_M_byAgenda_73 : decode cb_M_byAgenda 73 = .ok (.iinc 2 1, 3) := by decide +kernel
theorem dc_M_byAgenda_76 : decode cb_M_byAgenda 76 = .ok (.goto (-67), 3) := by decide +kernel
theorem dc_M_byAgenda_79 : decode cb_M_byAgenda 79 = .ok (.iconst 1, 1) := by decide +kernel
theorem dc_M_byAgenda_80 : decode cb_M_byAgenda 80 = .ok (.iload_n 1, 1) := by decide +kernel
theorem dc_M_byAgenda_81 : decode cb_M_byAgenda 81 = .ok (.ishl, 1) := by decide +kernel
theorem dc_M_byAgenda_82 : decode cb_M_byAgenda 82 = .ok (.ireturn, 1) := by decide +kernel
theorem dc_M_work_0 : decode cb_M_work 0 = .ok (.aload_n 0, 1) := by decide +kernel
theorem dc_M_work_1 : decode cb_M_work 1 = .ok (.invokevirtual 162, 3) := by decide +kernel
theorem dc_M_work_4 : decode cb_M_work 4 = .ok (.iload_n 1, 1) := by decide +kernel
theorem dc_M_work_5 : decode cb_M_work 5 = .ok (.tableswitch 103 0 10 #[59, 66, 59, 73, 78, 66, 59, 83, 88, 93, 98], 59) := by decide +kernel
theorem dc_M_work_64 : decode cb_M_work 64 = .ok (.aload_n 0, 1) := by decide +kernel
theorem dc_M_work_65 : decode cb_M_work 65 = .ok (.iload_n 1, 1) := by decide +kernel
theorem dc_M_work_66 : decode cb_M_work 66 = .ok (.iconst 1, 1) := by decide +kernel
theorem dc_M_work_67 : decode cb_M_work 67 = .ok (.invokevirtual 165, 3) := by decide +kernel
theorem dc_M_work_70 : decode cb_M_work 70 = .ok (.ireturn, 1) := by decide +kernel
theorem dc_M_work_71 : decode cb_M_work 71 = .ok (.aload_n 0, 1) := by decide +kernel
theorem dc_M_work_72 : decode cb_M_work 72 = .ok (.iload_n 1, 1) := by decide +kernel
theorem dc_M_work_73 : decode cb_M_work 73 = .ok (.iconst 0, 1) := by decide +kernel
theorem dc_M_work_74 : decode cb_M_work 74 = .ok (.invokevirtual 165, 3) := by decide +kernel
theorem dc_M_work_77 : decode cb_M_work 77 = .ok (.ireturn, 1) := by decide +kernel
theorem dc_M_work_78 : decode cb_M_work 78 = .ok (.aload_n 0, 1) := by decide +kernel
theorem dc_M_work_79 : decode cb_M_work 79 = .ok (.invokevirtual 169, 3) := by decide +kernel
theorem dc_M_work_82 : decode cb_M_work 82 = .ok (.ireturn, 1) := by decide +kernel
theorem dc_M_work_83 : decode cb_M_work 83 = .ok (.aload_n 0, 1) := by decide +kernel
theorem dc_M_work_84 : decode cb_M_work 84 = .ok (.invokevirtual 172, 3) := by decide +kernel
theorem dc_M_work_87 : decode cb_M_work 87 = .ok (.ireturn, 1) := by decide +kernel
theorem dc_M_work_88 : decode cb_M_work 88 = .ok (.aload_n 0, 1) := by decide +kernel
theorem dc_M_work_89 : decode cb_M_work 89 = .ok (.invokevirtual 175, 3) := by decide +kernel
theorem dc_M_work_92 : decode cb_M_work 92 = .ok (.ireturn, 1) := by decide +kernel
theorem dc_M_work_93 : decode cb_M_work 93 = .ok (.aload_n 0, 1) := by decide +kernel
theorem dc_M_work_94 : decode cb_M_work 94 = .ok (.invokevirtual 178, 3) := by decide +kernel
theorem dc_M_work_97 : decode cb_M_work 97 = .ok (.ireturn, 1) := by decide +kernel
theorem dc_M_work_98 : decode cb_M_work 98 = .ok (.aload_n 0, 1) := by decide +kernel
theorem dc_M_work_99 : decode cb_M_work 99 = .ok (.invokevirtual 181, 3) := by decide +kernel
theorem dc_M_work_102 : decode cb_M_work 102 = .ok (.ireturn, 1) := by decide +kernel
theorem dc_M_work_103 : decode cb_M_work 103 = .ok (.aload_n 0, 1) := by decide +kernel
theorem dc_M_work_104 : decode cb_M_work 104 = .ok (.invokevirtual 184, 3) := by decide +kernel
theorem dc_M_work_107 : decode cb_M_work 107 = .ok (.ireturn, 1) := by decide +kernel
theorem dc_M_work_108 : decode cb_M_work 108 = .ok (.aload_n 0, 1) := by decide +kernel
theorem dc_M_work_109 : decode cb_M_work 109 = .ok (.invokevirtual 187, 3) := by decide +kernel
theorem dc_M_work_112 : decode cb_M_work 112 = .ok (.ireturn, 1) := by decide +kernel
theorem dc_M_firstOf_0 : decode cb_M_firstOf 0 = .ok (.iconst 0, 1) := by decide +kernel
theorem dc_M_firstOf_1 : decode cb_M_firstOf 1 = .ok (.istore_n 2, 1) := by decide +kernel
theorem dc_M_firstOf_2 : decode cb_M_firstOf 2 = .ok (.iload_n 1, 1) := by decide +kernel
theorem dc_M_firstOf_3 : decode cb_M_firstOf 3 = .ok (.aload_n 0, 1) := by decide +kernel
theorem dc_M_firstOf_4 : decode cb_M_firstOf 4 = .ok (.getfield 35, 3) := by decide +kernel
theorem dc_M_firstOf_7 : decode cb_M_firstOf 7 = .ok (.iload_n 2, 1) := by decide +kernel
theorem dc_M_firstOf_8 : decode cb_M_firstOf 8 = .ok (.iaload, 1) := by decide +kernel
theorem dc_M_firstOf_9 : decode cb_M_firstOf 9 = .ok (.ishr, 1) := by decide +kernel
theorem dc_M_firstOf_10 : decode cb_M_firstOf 10 = .ok (.iconst 1, 1) := by decide +kernel
theorem dc_M_firstOf_11 : decode cb_M_firstOf 11 = .ok (.iand, 1) := by decide +kernel
theorem dc_M_firstOf_12 : decode cb_M_firstOf 12 = .ok (.ifCond .ne 9, 3) := by decide +kernel
theorem dc_M_firstOf_15 : decode cb_M_firstOf 15 = .ok (.iinc 2 1, 3) := by decide +kernel
theorem dc_M_firstOf_18 : decode cb_M_firstOf 18 = .ok (.goto (-16), 3) := by decide +kernel
theorem dc_M_firstOf_21 : decode cb_M_firstOf 21 = .ok (.aload_n 0, 1) := by decide +kernel
theorem dc_M_firstOf_22 : decode cb_M_firstOf 22 = .ok (.getfield 35, 3) := by decide +kernel
theorem dc_M_firstOf_25 : decode cb_M_firstOf 25 = .ok (.iload_n 2, 1) := by decide +kernel
theorem dc_M_firstOf_26 : decode cb_M_firstOf 26 = .ok (.iaload, 1) := by decide +kernel
theorem dc_M_firstOf_27 : decode cb_M_firstOf 27 = .ok (.ireturn, 1) := by decide +kernel
theorem dc_M_isRule_0 : decode cb_M_isRule 0 = .ok (.iload_n 0, 1) := by decide +kernel
theorem dc_M_isRule_1 : decode cb_M_isRule 1 = .ok (.iconst 0, 1) := by decide +kernel
theorem dc_M_isRule_2 : decode cb_M_isRule 2 = .ok (.bipush 11, 2) := by decide +kernel
theorem dc_M_isRule_4 : decode cb_M_isRule 4 = .ok (.invokestatic 82, 3) := by decide +kernel
theorem dc_M_isRule_7 : decode cb_M_isRule 7 = .ok (.ireturn, 1) := by decide +kernel
theorem dc_M_isCandidate_0 : decode cb_M_isCandidate 0 = .ok (.iload_n 1, 1) := by decide +kernel
theorem dc_M_isCandidate_1 : decode cb_M_isCandidate 1 = .ok (.iconst 0, 1) := by decide +kernel
theorem dc_M_isCandidate_2 : decode cb_M_isCandidate 2 = .ok (.aload_n 0, 1) := by decide +kernel
theorem dc_M_isCandidate_3 : decode cb_M_isCandidate 3 = .ok (.getfield 7, 3) := by decide +kernel
theorem dc_M_isCandidate_6 : decode cb_M_isCandidate 6 = .ok (.iconst 1, 1) := by decide +kernel
theorem dc_M_isCandidate_7 : decode cb_M_isCandidate 7 = .ok (.isub, 1) := by decide +kernel
theorem dc_M_isCandidate_8 : decode cb_M_isCandidate 8 = .ok (.invokestatic 82, 3) := by decide +kernel
theorem dc_M_isCandidate_11 : decode cb_M_isCandidate 11 = .ok (.ireturn, 1) := by decide +kernel
theorem dc_M_winners_0 : decode cb_M_winners 0 = .ok (.aload_n 0, 1) := by decide +kernel
theorem dc_M_winners_1 : decode cb_M_winners 1 = .ok (.iload_n 1, 1) := by decide +kernel
theorem dc_M_winners_2 : decode cb_M_winners 2 = .ok (.invokestatic 190, 3) := by decide +kernel
theorem dc_M_winners_5 : decode cb_M_winners 5 = .ok (.iconst 1, 1) := by decide +kernel
theorem dc_M_winners_6 : decode cb_M_winners 6 = .ok (.invokevirtual 86, 3) := by decide +kernel
theorem dc_M_winners_9 : decode cb_M_winners 9 = .ok (.ifCond .ne 5, 3) := by decide +kernel
theorem dc_M_winners_12 : decode cb_M_winners 12 = .ok (.iconst 0, 1) := by decide +kernel
theorem dc_M_winners_13 : decode cb_M_winners 13 = .ok (.ireturn, 1) := by decide +kernel
theorem dc_M_winners_14 : decode cb_M_winners 14 = .ok (.aload_n 0, 1) := by decide +kernel
theorem dc_M_winners_15 : decode cb_M_winners 15 = .ok (.invokevirtual 193, 3) := by decide +kernel
theorem dc_M_winners_18 : decode cb_M_winners 18 = .ok (.aload_n 0, 1) := by decide +kernel
theorem dc_M_winners_19 : decode cb_M_winners 19 = .ok (.iload_n 1, 1) := by decide +kernel
theorem dc_M_winners_20 : decode cb_M_winners 20 = .ok (.invokevirtual 196, 3) := by decide +kernel
theorem dc_M_winners_23 : decode cb_M_winners 23 = .ok (.ireturn, 1) := by decide +kernel
theorem dc_M_winner_0 : decode cb_M_winner 0 = .ok (.aload_n 0, 1) := by decide +kernel
theorem dc_M_winner_1 : decode cb_M_winner 1 = .ok (.iload_n 1, 1) := by decide +kernel
theorem dc_M_winner_2 : decode cb_M_winner 2 = .ok (.invokestatic 190, 3) := by decide +kernel
theorem dc_M_winner_5 : decode cb_M_winner 5 = .ok (.iconst 1, 1) := by decide +kernel
theorem dc_M_winner_6 : decode cb_M_winner 6 = .ok (.invokevirtual 86, 3) := by decide +kernel
theorem dc_M_winner_9 : decode cb_M_winner 9 = .ok (.ifCond .ne 5, 3) := by decide +kernel
theorem dc_M_winner_12 : decode cb_M_winner 12 = .ok (.iconst 0, 1) := by decide +kernel
theorem dc_M_winner_13 : decode cb_M_winner 13 = .ok (.ireturn, 1) := by decide +kernel
theorem dc_M_winner_14 : decode cb_M_winner 14 = .ok (.aload_n 0, 1) := by decide +kernel
theorem dc_M_winner_15 : decode cb_M_winner 15 = .ok (.invokevirtual 193, 3) := by decide +kernel
theorem dc_M_winner_18 : decode cb_M_winner 18 = .ok (.aload_n 0, 1) := by decide +kernel
theorem dc_M_winner_19 : decode cb_M_winner 19 = .ok (.aload_n 0, 1) := by decide +kernel
theorem dc_M_winner_20 : decode cb_M_winner 20 = .ok (.iload_n 1, 1) := by decide +kernel
theorem dc_M_winner_21 : decode cb_M_winner 21 = .ok (.invokevirtual 196, 3) := by decide +kernel
theorem dc_M_winner_24 : decode cb_M_winner 24 = .ok (.invokevirtual 199, 3) := by decide +kernel
theorem dc_M_winner_27 : decode cb_M_winner 27 = .ok (.ireturn, 1) := by decide +kernel
theorem dc_M_score_0 : decode cb_M_score 0 = .ok (.aload_n 0, 1) := by decide +kernel
theorem dc_M_score_1 : decode cb_M_score 1 = .ok (.iload_n 1, 1) := by decide +kernel
theorem dc_M_score_2 : decode cb_M_score 2 = .ok (.invokestatic 190, 3) := by decide +kernel
theorem dc_M_score_5 : decode cb_M_score 5 = .ok (.ifCond .eq 15, 3) := by decide +kernel
theorem dc_M_score_8 : decode cb_M_score 8 = .ok (.aload_n 0, 1) := by decide +kernel
theorem dc_M_score_9 : decode cb_M_score 9 = .ok (.iload_n 2, 1) := by decide +kernel
theorem dc_M_score_10 : decode cb_M_score 10 = .ok (.invokevirtual 202, 3) := by decide +kernel
theorem dc_M_score_13 : decode cb_M_score 13 = .ok (.ifCond .eq 7, 3) := by decide +kernel
theorem dc_M_score_16 : decode cb_M_score 16 = .ok (.iconst 1, 1) := by decide +kernel
theorem dc_M_score_17 : decode cb_M_score 17 = .ok (.goto 4, 3) := by decide +kernel
theorem dc_M_score_20 : decode cb_M_score 20 = .ok (.iconst 0, 1) := by decide +kernel
theorem dc_M_score_21 : decode cb_M_score 21 = .ok (.iload_n 1, 1) := by decide +kernel
theorem dc_M_score_22 : decode cb_M_score 22 = .ok (.iconst 0, 1) := by decide +kernel
theorem dc_M_score_23 : decode cb_M_score 23 = .ok (.iconst 2, 1) := by decide +kernel
theorem dc_M_score_24 : decode cb_M_score 24 = .ok (.invokestatic 82, 3) := by decide +kernel
theorem dc_M_score_27 : decode cb_M_score 27 = .ok (.ifCond .ne 13, 3) := by decide +kernel
theorem dc_M_score_30 : decode cb_M_score 30 = .ok (.iload_n 1, 1) := by decide +kernel
theorem dc_M_score_31 : decode cb_M_score 31 = .ok (.iconst 5, 1) := by decide +kernel
theorem dc_M_score_32 : decode cb_M_score 32 = .ok (.bipush 6, 2) := by decide +kernel
theorem dc_M_score_34 : decode cb_M_score 34 = .ok (.invokestatic 82, 3) := by decide +kernel
theorem dc_M_score_37 : decode cb_M_score 37 = .ok (.ifCond .eq 7, 3) := by decide +kernel
theorem dc_M_score_40 : decode cb_M_score 40 = .ok (.iconst 1, 1) := by decide +kernel
theorem dc_M_score_41 : decode cb_M_score 41 = .ok (.goto 4, 3) := by decide +kernel
theorem dc_M_score_44 : decode cb_M_score 44 = .ok (.iconst 0, 1) := by decide +kernel
theorem dc_M_score_45 : decode cb_M_score 45 = .ok (.invokevirtual 86, 3) := by decide +kernel
theorem dc_M_score_48 : decode cb_M_score 48 = .ok (.ifCond .ne 5, 3) := by decide +kernel
theorem dc_M_score_51 : decode cb_M_score 51 = .ok (.lconst 0, 1) := by decide +kernel
theorem dc_M_score_52 : decode cb_M_score 52 = .ok (.lreturn, 1) := by decide +kernel
theorem dc_M_score_53 : decode cb_M_score 53 = .ok (.aload_n 0, 1) := by decide +kernel
theorem dc_M_score_54 : decode cb_M_score 54 = .ok (.invokevirtual 193, 3) := by decide +kernel
theorem dc_M_score_57 : decode cb_M_score 57 = .ok (.aload_n 0, 1) := by decide +kernel
theorem dc_M_score_58 : decode cb_M_score 58 = .ok (.invokevirtual 162, 3) := by decide +kernel
theorem dc_M_score_61 : decode cb_M_score 61 = .ok (.aload_n 0, 1) := by decide +kernel
theorem dc_M_score_62 : decode cb_M_score 62 = .ok (.iload_n 1, 1) := by decide +kernel
theorem dc_M_score_63 : decode cb_M_score 63 = .ok (.iload_n 2, 1) := by decide +kernel
theorem dc_M_score_64 : decode cb_M_score 64 = .ok (.invokevirtual 132, 3) := by decide +kernel
theorem dc_M_score_67 : decode cb_M_score 67 = .ok (.lreturn, 1) := by decide +kernel
theorem dc_M_pair_0 : decode cb_M_pair 0 = .ok (.aload_n 0, 1) := by decide +kernel
theorem dc_M_pair_1 : decode cb_M_pair 1 = .ok (.aload_n 0, 1) := by decide +kernel
theorem dc_M_pair_2 : decode cb_M_pair 2 = .ok (.iload_n 1, 1) := by decide +kernel
theorem dc_M_pair_3 : decode cb_M_pair 3 = .ok (.invokevirtual 202, 3) := by decide +kernel
theorem dc_M_pair_6 : decode cb_M_pair 6 = .ok (.ifCond .eq 15, 3) := by decide +kernel
theorem dc_M_pair_9 : decode cb_M_pair 9 = .ok (.aload_n 0, 1) := by decide +kernel
theorem dc_M_pair_10 : decode cb_M_pair 10 = .ok (.iload_n 2, 1) := by decide +kernel
theorem dc_M_pair_11 : decode cb_M_pair 11 = .ok (.invokevirtual 202, 3) := by decide +kernel
theorem dc_M_pair_14 : decode cb_M_pair 14 = .ok (.ifCond .eq 7, 3) := by decide +kernel
theorem dc_M_pair_17 : decode cb_M_pair 17 = .ok (.iconst 1, 1) := by decide +kernel
theorem dc_M_pair_18 : decode cb_M_pair 18 = .ok (.goto 4, 3) := by decide +kernel
theorem dc_M_pair_21 : decode cb_M_pair 21 = .ok (.iconst 0, 1) := by decide +kernel
theorem dc_M_pair_22 : decode cb_M_pair 22 = .ok (.iconst 1, 1) := by decide +kernel
theorem dc_M_pair_23 : decode cb_M_pair 23 = .ok (.invokevirtual 86, 3) := by decide +kernel
theorem dc_M_pair_26 : decode cb_M_pair 26 = .ok (.ifCond .ne 5, 3) := by decide +kernel
theorem dc_M_pair_29 : decode cb_M_pair 29 = .ok (.iconst 0, 1) := by decide +kernel
theorem dc_M_pair_30 : decode cb_M_pair 30 = .ok (.ireturn, 1) := by decide +kernel
theorem dc_M_pair_31 : decode cb_M_pair 31 = .ok (.aload_n 0, 1) := by decide +kernel
theorem dc_M_pair_32 : decode cb_M_pair 32 = .ok (.invokevirtual 193, 3) := by decide +kernel
theorem dc_M_pair_35 : decode cb_M_pair 35 = .ok (.aload_n 0, 1) := by decide +kernel
theorem dc_M_pair_36 : decode cb_M_pair 36 = .ok (.invokevirtual 162, 3) := by decide +kernel
theorem dc_M_pair_39 : decode cb_M_pair 39 = .ok (.aload_n 0, 1) := by decide +kernel
theorem dc_M_pair_40 : decode cb_M_pair 40 = .ok (.getfield 44, 3) := by decide +kernel
theorem dc_M_pair_43 : decode cb_M_pair 43 = .ok (.bipush 7, 2) := by decide +kernel
theorem dc_M_pair_45 : decode cb_M_pair 45 = .ok (.iload_n 1, 1) := by decide +kernel
theorem dc_M_pair_46 : decode cb_M_pair 46 = .ok (.imul, 1) := by decide +kernel
theorem dc_M_pair_47 : decode cb_M_pair 47 = .ok (.iload_n 2, 1) := by decide +kernel
theorem dc_M_pair_48 : decode cb_M_pair 48 = .ok (.iadd, 1) := by decide +kernel
theorem dc_M_pair_49 : decode cb_M_pair 49 = .ok (.iaload, 1) := by decide +kernel
theorem dc_M_pair_50 : decode cb_M_pair 50 = .ok (.ireturn, 1) := by decide +kernel
theorem dc_M_path_0 : decode cb_M_path 0 = .ok (.aload_n 0, 1) := by decide +kernel
theorem dc_M_path_1 : decode cb_M_path 1 = .ok (.aload_n 0, 1) := by decide +kernel
theorem dc_M_path_2 : decode cb_M_path 2 = .ok (.iload_n 1, 1) := by decide +kernel
theorem dc_M_path_3 : decode cb_M_path 3 = .ok (.invokevirtual 202, 3) := by decide +kernel
theorem dc_M_path_6 : decode cb_M_path 6 = .ok (.ifCond .eq 15, 3) := by decide +kernel
theorem dc_M_path_9 : decode cb_M_path 9 = .ok (.aload_n 0, 1) := by decide +kernel
theorem dc_M_path_10 : decode cb_M_path 10 = .ok (.iload_n 2, 1) := by decide +kernel
theorem dc_M_path_11 : decode cb_M_path 11 = .ok (.invokevirtual 202, 3) := by decide +kernel
theorem dc_M_path_14 : decode cb_M_path 14 = .ok (.ifCond .eq 7, 3) := by decide +kernel
theorem dc_M_path_17 : decode cb_M_path 17 = .ok (.iconst 1, 1) := by decide +kernel
theorem dc_M_path_18 : decode cb_M_path 18 = .ok (.goto 4, 3) := by decide +kernel
