theorem dc_M_clones_42 : decode cb_M_clones 42 = .ok (.getfield 76, 3) := by decide +kernel
theorem dc_M_clones_45 : decode cb_M_clones 45 = .ok (.if_icmp .ge 137, 3) := by decide +kernel
theorem dc_M_clones_48 : decode cb_M_clones 48 = .ok (.iconst 0, 1) := by decide +kernel
theorem dc_M_clones_49 : decode cb_M_clones 49 = .ok (.istore 4, 2) := by decide +kernel
theorem dc_M_clones_51 : decode cb_M_clones 51 = .ok (.iconst 0, 1) := by decide +kernel
theorem dc_M_clones_52 : decode cb_M_clones 52 = .ok (.istore 5, 2) := by decide +kernel
theorem dc_M_clones_54 : decode cb_M_clones 54 = .ok (.iload 5, 2) := by decide +kernel
theorem dc_M_clones_56 : decode cb_M_clones 56 = .ok (.aload_n 0, 1) := by decide +kernel
theorem dc_M_clones_57 : decode cb_M_clones 57 = .ok (.getfield 7, 3) := by decide +kernel
theorem dc_M_clones_60 : decode cb_M_clones 60 = .ok (.if_icmp .ge 91, 3) := by decide +kernel
theorem dc_M_clones_63 : decode cb_M_clones 63 = .ok (.iload_n 1, 1) := by decide +kernel
theorem dc_M_clones_64 : decode cb_M_clones 64 = .ok (.aload_n 0, 1) := by decide +kernel
theorem dc_M_clones_65 : decode cb_M_clones 65 = .ok (.getfield 13, 3) := by decide +kernel
theorem dc_M_clones_68 : decode cb_M_clones 68 = .ok (.bipush 7, 2) := by decide +kernel
theorem dc_M_clones_70 : decode cb_M_clones 70 = .ok (.iload_n 3, 1) := by decide +kernel
theorem dc_M_clones_71 : decode cb_M_clones 71 = .ok (.imul, 1) := by decide +kernel
theorem dc_M_clones_72 : decode cb_M_clones 72 = .ok (.iload 5, 2) := by decide +kernel
theorem dc_M_clones_74 : decode cb_M_clones 74 = .ok (.iadd, 1) := by decide +kernel
theorem dc_M_clones_75 : decode cb_M_clones 75 = .ok (.iaload, 1) := by decide +kernel
theorem dc_M_clones_76 : decode cb_M_clones 76 = .ok (.ishr, 1) := by decide +kernel
theorem dc_M_clones_77 : decode cb_M_clones 77 = .ok (.iconst 1, 1) := by decide +kernel
theorem dc_M_clones_78 : decode cb_M_clones 78 = .ok (.iand, 1) := by decide +kernel
theorem dc_M_clones_79 : decode cb_M_clones 79 = .ok (.iconst 1, 1) := by decide +kernel
theorem dc_M_clones_80 : decode cb_M_clones 80 = .ok (.if_icmp .ne 7, 3) := by decide +kernel
theorem dc_M_clones_83 : decode cb_M_clones 83 = .ok (.iconst 1, 1) := by decide +kernel
theorem dc_M_clones_84 : decode cb_M_clones 84 = .ok (.goto 4, 3) := by decide +kernel
theorem dc_M_clones_87 : decode cb_M_clones 87 = .ok (.iconst 0, 1) := by decide +kernel
theorem dc_M_clones_88 : decode cb_M_clones 88 = .ok (.istore 6, 2) := by decide +kernel
theorem dc_M_clones_90 : decode cb_M_clones 90 = .ok (.iload 5, 2) := by decide +kernel
theorem dc_M_clones_92 : decode cb_M_clones 92 = .ok (.ifCond .le 29, 3) := by decide +kernel
theorem dc_M_clones_95 : decode cb_M_clones 95 = .ok (.iload_n 1, 1) := by decide +kernel
theorem dc_M_clones_96 : decode cb_M_clones 96 = .ok (.aload_n 0, 1) := by decide +kernel
theorem dc_M_clones_97 : decode cb_M_clones 97 = .ok (.getfield 13, 3) := by decide +kernel
theorem dc_M_clones_100 : decode cb_M_clones 100 = .ok (.bipush 7, 2) := by decide +kernel
theorem dc_M_clones_102 : decode cb_M_clones 102 = .ok (.iload_n 3, 1) := by decide +kernel
theorem dc_M_clones_103 : decode cb_M_clones 103 = .ok (.imul, 1) := by decide +kernel
theorem dc_M_clones_104 : decode cb_M_clones 104 = .ok (.iload 5, 2) := by decide +kernel
theorem dc_M_clones_106 : decode cb_M_clones 106 = .ok (.iadd, 1) := by decide +kernel
theorem dc_M_clones_107 : decode cb_M_clones 107 = .ok (.iconst 1, 1) := by decide +kernel
theorem dc_M_clones_108 : decode cb_M_clones 108 = .ok (.isub, 1) := by decide +kernel
theorem dc_M_clones_109 : decode cb_M_clones 109 = .ok (.iaload, 1) := by decide +kernel
theorem dc_M_clones_110 : decode cb_M_clones 110 = .ok (.ishr, 1) := by decide +kernel
theorem dc_M_clones_111 : decode cb_M_clones 111 = .ok (.iconst 1, 1) := by decide +kernel
theorem dc_M_clones_112 : decode cb_M_clones 112 = .ok (.iand, 1) := by decide +kernel
theorem dc_M_clones_113 : decode cb_M_clones 113 = .ok (.iconst 1, 1) := by decide +kernel
theorem dc_M_clones_114 : decode cb_M_clones 114 = .ok (.if_icmp .ne 7, 3) := by decide +kernel
theorem dc_M_clones_117 : decode cb_M_clones 117 = .ok (.iconst 1, 1) := by decide +kernel
theorem dc_M_clones_118 : decode cb_M_clones 118 = .ok (.goto 4, 3) := by decide +kernel
theorem dc_M_clones_121 : decode cb_M_clones 121 = .ok (.iconst 0, 1) := by decide +kernel
theorem dc_M_clones_122 : decode cb_M_clones 122 = .ok (.istore 7, 2) := by decide +kernel
theorem dc_M_clones_124 : decode cb_M_clones 124 = .ok (.iload 6, 2) := by decide +kernel
theorem dc_M_clones_126 : decode cb_M_clones 126 = .ok (.ifCond .eq 15, 3) := by decide +kernel
theorem dc_M_clones_129 : decode cb_M_clones 129 = .ok (.iload 7, 2) := by decide +kernel
theorem dc_M_clones_131 : decode cb_M_clones 131 = .ok (.ifCond .ne 10, 3) := by decide +kernel
theorem dc_M_clones_134 : decode cb_M_clones 134 = .ok (.iload 4, 2) := by decide +kernel
theorem dc_M_clones_136 : decode cb_M_clones 136 = .ok (.iconst 1, 1) := by decide +kernel
theorem dc_M_clones_137 : decode cb_M_clones 137 = .ok (.iadd, 1) := by decide +kernel
theorem dc_M_clones_138 : decode cb_M_clones 138 = .ok (.goto 5, 3) := by decide +kernel
theorem dc_M_clones_141 : decode cb_M_clones 141 = .ok (.iload 4, 2) := by decide +kernel
theorem dc_M_clones_143 : decode cb_M_clones 143 = .ok (.istore 4, 2) := by decide +kernel
theorem dc_M_clones_145 : decode cb_M_clones 145 = .ok (.iinc 5 1, 3) := by decide +kernel
theorem dc_M_clones_148 : decode cb_M_clones 148 = .ok (.goto (-94), 3) := by decide +kernel
theorem dc_M_clones_151 : decode cb_M_clones 151 = .ok (.iload_n 2, 1) := by decide +kernel
theorem dc_M_clones_152 : decode cb_M_clones 152 = .ok (.ifCond .eq 22, 3) := by decide +kernel
theorem dc_M_clones_155 : decode cb_M_clones 155 = .ok (.aload_n 0, 1) := by decide +kernel
theorem dc_M_clones_156 : decode cb_M_clones 156 = .ok (.getfield 17, 3) := by decide +kernel
theorem dc_M_clones_159 : decode cb_M_clones 159 = .ok (.iload_n 3, 1) := by decide +kernel
theorem dc_M_clones_160 : decode cb_M_clones 160 = .ok (.iaload, 1) := by decide +kernel
theorem dc_M_clones_161 : decode cb_M_clones 161 = .ok (.ifCond .eq 9, 3) := by decide +kernel
theorem dc_M_clones_164 : decode cb_M_clones 164 = .ok (.iload 4, 2) := by decide +kernel
theorem dc_M_clones_166 : decode cb_M_clones 166 = .ok (.iconst 1, 1) := by decide +kernel
theorem dc_M_clones_167 : decode cb_M_clones 167 = .ok (.if_icmp .ne 7, 3) := by decide +kernel
theorem dc_M_clones_170 : decode cb_M_clones 170 = .ok (.iconst 1, 1) := by decide +kernel
theorem dc_M_clones_171 : decode cb_M_clones 171 = .ok (.goto 4, 3) := by decide +kernel
theorem dc_M_clones_174 : decode cb_M_clones 174 = .ok (.iconst 0, 1) := by decide +kernel
theorem dc_M_clones_175 : decode cb_M_clones 175 = .ok (.istore_n 2, 1) := by decide +kernel
theorem dc_M_clones_176 : decode cb_M_clones 176 = .ok (.iinc 3 1, 3) := by decide +kernel
theorem dc_M_clones_179 : decode cb_M_clones 179 = .ok (.goto (-139), 3) := by decide +kernel
theorem dc_M_clones_182 : decode cb_M_clones 182 = .ok (.iload_n 2, 1) := by decide +kernel
theorem dc_M_clones_183 : decode cb_M_clones 183 = .ok (.ireturn, 1) := by decide +kernel
theorem dc_M_count_0 : decode cb_M_count 0 = .ok (.aload_n 0, 1) := by decide +kernel
theorem dc_M_count_1 : decode cb_M_count 1 = .ok (.iload_n 1, 1) := by decide +kernel
theorem dc_M_count_2 : decode cb_M_count 2 = .ok (.iconst 0, 1) := by decide +kernel
theorem dc_M_count_3 : decode cb_M_count 3 = .ok (.iconst 2, 1) := by decide +kernel
theorem dc_M_count_4 : decode cb_M_count 4 = .ok (.invokestatic 82, 3) := by decide +kernel
theorem dc_M_count_7 : decode cb_M_count 7 = .ok (.iconst 1, 1) := by decide +kernel
theorem dc_M_count_8 : decode cb_M_count 8 = .ok (.invokevirtual 86, 3) := by decide +kernel
theorem dc_M_count_11 : decode cb_M_count 11 = .ok (.ifCond .ne 5, 3) := by decide +kernel
theorem dc_M_count_14 : decode cb_M_count 14 = .ok (.iconst 0, 1) := by decide +kernel
theorem dc_M_count_15 : decode cb_M_count 15 = .ok (.ireturn, 1) := by decide +kernel
theorem dc_M_count_16 : decode cb_M_count 16 = .ok (.iconst 0, 1) := by decide +kernel
theorem dc_M_count_17 : decode cb_M_count 17 = .ok (.istore_n 2, 1) := by decide +kernel
theorem dc_M_count_18 : decode cb_M_count 18 = .ok (.iconst 0, 1) := by decide +kernel
theorem dc_M_count_19 : decode cb_M_count 19 = .ok (.istore_n 3, 1) := by decide +kernel
theorem dc_M_count_20 : decode cb_M_count 20 = .ok (.iload_n 3, 1) := by decide +kernel
theorem dc_M_count_21 : decode cb_M_count 21 = .ok (.aload_n 0, 1) := by decide +kernel
theorem dc_M_count_22 : decode cb_M_count 22 = .ok (.getfield 76, 3) := by decide +kernel
theorem dc_M_count_25 : decode cb_M_count 25 = .ok (.if_icmp .ge 18, 3) := by decide +kernel
theorem dc_M_count_28 : decode cb_M_count 28 = .ok (.iload_n 2, 1) := by decide +kernel
theorem dc_M_count_29 : decode cb_M_count 29 = .ok (.aload_n 0, 1) := by decide +kernel
theorem dc_M_count_30 : decode cb_M_count 30 = .ok (.getfield 17, 3) := by decide +kernel
theorem dc_M_count_33 : decode cb_M_count 33 = .ok (.iload_n 3, 1) := by decide +kernel
theorem dc_M_count_34 : decode cb_M_count 34 = .ok (.iaload, 1) := by decide +kernel
theorem dc_M_count_35 : decode cb_M_count 35 = .ok (.iadd, 1) := by decide +kernel
theorem dc_M_count_36 : decode cb_M_count 36 = .ok (.istore_n 2, 1) := by decide +kernel
theorem dc_M_count_37 : decode cb_M_count 37 = .ok (.iinc 3 1, 3) := by decide +kernel
theorem dc_M_count_40 : decode cb_M_count 40 = .ok (.goto (-20), 3) := by decide +kernel
theorem dc_M_count_43 : decode cb_M_count 43 = .ok (.iload_n 1, 1) := by decide +kernel
theorem dc_M_count_44 : decode cb_M_count 44 = .ok (.ifCond .ne 10, 3) := by decide +kernel
theorem dc_M_count_47 : decode cb_M_count 47 = .ok (.aload_n 0, 1) := by decide +kernel
theorem dc_M_count_48 : decode cb_M_count 48 = .ok (.getfield 7, 3) := by decide +kernel
theorem dc_M_count_51 : decode cb_M_count 51 = .ok (.goto 16, 3) := by decide +kernel
theorem dc_M_count_54 : decode cb_M_count 54 = .ok (.iload_n 1, 1) := by decide +kernel
theorem dc_M_count_55 : decode cb_M_count 55 = .ok (.iconst 1, 1) := by decide +kernel
theorem dc_M_count_56 : decode cb_M_count 56 = .ok (.if_icmp .ne 10, 3) := by decide +kernel
theorem dc_M_count_59 : decode cb_M_count 59 = .ok (.aload_n 0, 1) := by decide +kernel
theorem dc_M_count_60 : decode cb_M_count 60 = .ok (.getfield 76, 3) := by decide +kernel
theorem dc_M_count_63 : decode cb_M_count 63 = .ok (.goto 4, 3) := by decide +kernel
theorem dc_M_count_66 : decode cb_M_count 66 = .ok (.iload_n 2, 1) := by decide +kernel
theorem dc_M_count_67 : decode cb_M_count 67 = .ok (.ireturn, 1) := by decide +kernel
theorem dc_A_init_0 : decode cb_A_init 0 = .ok (.aload_n 0, 1) := by decide +kernel
theorem dc_A_init_1 : decode cb_A_init 1 = .ok (.invokespecial 3, 3) := by decide +kernel
theorem dc_A_init_4 : decode cb_A_init 4 = .ok (.aload_n 0, 1) := by decide +kernel
theorem dc_A_init_5 : decode cb_A_init 5 = .ok (.sipush 128, 3) := by decide +kernel
theorem dc_A_init_8 : decode cb_A_init 8 = .ok (.newarray .int, 2) := by decide +kernel
theorem dc_A_init_10 : decode cb_A_init 10 = .ok (.putfield 9, 3) := by decide +kernel
theorem dc_A_init_13 : decode cb_A_init 13 = .ok (.aload_n 0, 1) := by decide +kernel
theorem dc_A_init_14 : decode cb_A_init 14 = .ok (.bipush 7, 2) := by decide +kernel
theorem dc_A_init_16 : decode cb_A_init 16 = .ok (.sipush 128, 3) := by decide +kernel
theorem dc_A_init_19 : decode cb_A_init 19 = .ok (.multianewarray 15 2, 4) := by decide +kernel
theorem dc_A_init_23 : decode cb_A_init 23 = .ok (.putfield 17, 3) := by decide +kernel
theorem dc_A_init_26 : decode cb_A_init 26 = .ok (.return_, 1) := by decide +kernel
theorem dc_A_leastOfAll_0 : decode cb_A_leastOfAll 0 = .ok (.aload_n 0, 1) := by decide +kernel
theorem dc_A_leastOfAll_1 : decode cb_A_leastOfAll 1 = .ok (.aload_n 1, 1) := by decide +kernel
theorem dc_A_leastOfAll_2 : decode cb_A_leastOfAll 2 = .ok (.invokevirtual 20, 3) := by decide +kernel
theorem dc_A_leastOfAll_5 : decode cb_A_leastOfAll 5 = .ok (.aload_n 0, 1) := by decide +kernel
theorem dc_A_leastOfAll_6 : decode cb_A_leastOfAll 6 = .ok (.getfield 9, 3) := by decide +kernel
theorem dc_A_leastOfAll_9 : decode cb_A_leastOfAll 9 = .ok (.aload_n 1, 1) := by decide +kernel
theorem dc_A_leastOfAll_10 : decode cb_A_leastOfAll 10 = .ok (.invokevirtual 24, 3) := by decide +kernel
theorem dc_A_leastOfAll_13 : decode cb_A_leastOfAll 13 = .ok (.iaload, 1) := by decide +kernel
theorem dc_A_leastOfAll_14 : decode cb_A_leastOfAll 14 = .ok (.i2l, 1) := by decide +kernel
theorem dc_A_leastOfAll_15 : decode cb_A_leastOfAll 15 = .ok (.lreturn, 1) := by decide +kernel
theorem dc_A_winnerSet_0 : decode cb_A_winnerSet 0 = .ok (.aload_n 0, 1) := by decide +kernel
theorem dc_A_winnerSet_1 : decode cb_A_winnerSet 1 = .ok (.aload_n 1, 1) := by decide +kernel
theorem dc_A_winnerSet_2 : decode cb_A_winnerSet 2 = .ok (.invokevirtual 20, 3) := by decide +kernel
theorem dc_A_winnerSet_5 : decode cb_A_winnerSet 5 = .ok (.aload_n 0, 1) := by decide +kernel
theorem dc_A_winnerSet_6 : decode cb_A_winnerSet 6 = .ok (.aload_n 1, 1) := by decide +kernel
theorem dc_A_winnerSet_7 : decode cb_A_winnerSet 7 = .ok (.invokevirtual 24, 3) := by decide +kernel
theorem dc_A_winnerSet_10 : decode cb_A_winnerSet 10 = .ok (.aload_n 1, 1) := by decide +kernel
theorem dc_A_winnerSet_11 : decode cb_A_winnerSet 11 = .ok (.getfield 30, 3) := by decide +kernel
theorem dc_A_winnerSet_14 : decode cb_A_winnerSet 14 = .ok (.invokevirtual 34, 3) := by decide +kernel
theorem dc_A_winnerSet_17 : decode cb_A_winnerSet 17 = .ok (.ireturn, 1) := by decide +kernel
theorem dc_A_bestOrder_0 : decode cb_A_bestOrder 0 = .ok (.aload_n 0, 1) := by decide +kernel
theorem dc_A_bestOrder_1 : decode cb_A_bestOrder 1 = .ok (.aload_n 1, 1) := by decide +kernel
theorem dc_A_bestOrder_2 : decode cb_A_bestOrder 2 = .ok (.invokevirtual 20, 3) := by decide +kernel
theorem dc_A_bestOrder_5 : decode cb_A_bestOrder 5 = .ok (.iconst 0, 1) := by decide +kernel
theorem dc_A_bestOrder_6 : decode cb_A_bestOrder 6 = .ok (.istore_n 2, 1) := by decide +kernel
theorem dc_A_bestOrder_7 : decode cb_A_bestOrder 7 = .ok (.aload_n 1, 1) := by decide +kernel
theorem dc_A_bestOrder_8 : decode cb_A_bestOrder 8 = .ok (.invokevirtual 24, 3) := by decide +kernel
theorem dc_A_bestOrder_11 : decode cb_A_bestOrder 11 = .ok (.istore_n 3, 1) := by decide +kernel
theorem dc_A_bestOrder_12 : decode cb_A_bestOrder 12 = .ok (.iconst 0, 1) := by decide +kernel
theorem dc_A_bestOrder_13 : decode cb_A_bestOrder 13 = .ok (.istore 4, 2) := by decide +kernel
theorem dc_A_bestOrder_15 : decode cb_A_bestOrder 15 = .ok (.iload 4, 2) := by decide +kernel
theorem dc_A_bestOrder_17 : decode cb_A_bestOrder 17 = .ok (.aload_n 1, 1) := by decide +kernel
theorem dc_A_bestOrder_18 : decode cb_A_bestOrder 18 = .ok (.getfield 30, 3) := by decide +kernel
theorem dc_A_bestOrder_21 : decode cb_A_bestOrder 21 = .ok (.if_icmp .ge 43, 3) := by decide +kernel
theorem dc_A_bestOrder_24 : decode cb_A_bestOrder 24 = .ok (.aload_n 1, 1) := by decide +kernel
theorem dc_A_bestOrder_25 : decode cb_A_bestOrder 25 = .ok (.aload_n 0, 1) := by decide +kernel
theorem dc_A_bestOrder_26 : decode cb_A_bestOrder 26 = .ok (.iload_n 3, 1) := by decide +kernel
theorem dc_A_bestOrder_27 : decode cb_A_bestOrder 27 = .ok (.aload_n 1, 1) := by decide +kernel
theorem dc_A_bestOrder_28 : decode cb_A_bestOrder 28 = .ok (.getfield 30, 3) := by decide +kernel
theorem dc_A_bestOrder_31 : decode cb_A_bestOrder 31 = .ok (.invokevirtual 34, 3) := by decide +kernel
theorem dc_A_bestOrder_34 : decode cb_A_bestOrder 34 = .ok (.invokevirtual 38, 3) := by decide +kernel
theorem dc_A_bestOrder_37 : decode cb_A_bestOrder 37 = .ok (.istore 5, 2) := by decide +kernel
theorem dc_A_bestOrder_39 : decode cb_A_bestOrder 39 = .ok (.iload_n 2, 1) := by decide +kernel
theorem dc_A_bestOrder_40 : decode cb_A_bestOrder 40 = .ok (.iload 5, 2) := by decide +kernel
theorem dc_A_bestOrder_42 : decode cb_A_bestOrder 42 = .ok (.iconst 3, 1) := by decide +kernel
theorem dc_A_bestOrder_43 : decode cb_A_bestOrder 43 = .ok (.iload 4, 2) := by decide +kernel
theorem dc_A_bestOrder_45 : decode cb_A_bestOrder 45 = .ok (.imul, 1) := by decide +kernel
theorem dc_A_bestOrder_46 : decode cb_A_bestOrder 46 = .ok (.ishl, 1) := by decide +kernel
theorem dc_A_bestOrder_47 : decode cb_A_bestOrder 47 = .ok (.ior, 1) := by decide +kernel
theorem dc_A_bestOrder_48 : decode cb_A_bestOrder 48 = .ok (.istore_n 2, 1) := by decide +kernel
theorem dc_A_bestOrder_49 : decode cb_A_bestOrder 49 = .ok (.iload_n 3, 1) := by decide +kernel
theorem dc_A_bestOrder_50 : decode cb_A_bestOrder 50 = .ok (.iconst 1, 1) := by decide +kernel
theorem dc_A_bestOrder_51 : decode cb_A_bestOrder 51 = .ok (.iload 5, 2) := by decide +kernel
theorem dc_A_bestOrder_53 : decode cb_A_bestOrder 53 = .ok (.ishl, 1) := by decide +kernel
theorem dc_A_bestOrder_54 : decode cb_A_bestOrder 54 = .ok (.iconst (-1), 1) := by decide +kernel
theorem dc_A_bestOrder_55 : decode cb_A_bestOrder 55 = .ok (.ixor, 1) := by decide +kernel
theorem dc_A_bestOrder_56 : decode cb_A_bestOrder 56 = .ok (.iand, 1) := by decide +kernel
theorem dc_A_bestOrder_57 : decode cb_A_bestOrder 57 = .ok (.istore_n 3, 1) := by decide +kernel
theorem dc_A_bestOrder_58 : decode cb_A_bestOrder 58 = .ok (.iinc 4 1, 3) := by decide +kernel
theorem dc_A_bestOrder_61 : decode cb_A_bestOrder 61 = .ok (.goto (-46), 3) := by decide +kernel
theorem dc_A_bestOrder_64 : decode cb_A_bestOrder 64 = .ok (.iload_n 2, 1) := by decide +kernel
theorem dc_A_bestOrder_65 : decode cb_A_bestOrder 65 = .ok (.ireturn, 1) := by decide +kernel
theorem dc_A_bestLeaders_0 : decode cb_A_bestLeaders 0 = .ok (.iconst 0, 1) := by decide +kernel
theorem dc_A_bestLeaders_1 : decode cb_A_bestLeaders 1 = .ok (.istore_n 3, 1) := by decide +kernel
theorem dc_A_bestLeaders_2 : decode cb_A_bestLeaders 2 = .ok (.iconst 0, 1) := by decide +kernel
theorem dc_A_bestLeaders_3 : decode cb_A_bestLeaders 3 = .ok (.istore 4, 2) := by decide +kernel
theorem dc_A_bestLeaders_5 : decode cb_A_bestLeaders 5 = .ok (.iload 4, 2) := by decide +kernel
theorem dc_A_bestLeaders_7 : decode cb_A_bestLeaders 7 = .ok (.iload_n 2, 1) := by decide +kernel
theorem dc_A_bestLeaders_8 : decode cb_A_bestLeaders 8 = .ok (.if_icmp .ge 59, 3) := by decide +kernel
theorem dc_A_bestLeaders_11 : decode cb_A_bestLeaders 11 = .ok (.iload_n 1, 1) := by decide +kernel
theorem dc_A_bestLeaders_12 : decode cb_A_bestLeaders 12 = .ok (.iconst 1, 1) := by decide +kernel
theorem dc_A_bestLeaders_13 : decode cb_A_bestLeaders 13 = .ok (.iload 4, 2) := by decide +kernel
theorem dc_A_bestLeaders_15 : decode cb_A_bestLeaders 15 = .ok (.ishl, 1) := by decide +kernel
theorem dc_A_bestLeaders_16 : decode cb_A_bestLeaders 16 = .ok (.iconst (-1), 1) := by decide +kernel
theorem dc_A_bestLeaders_17 : decode cb_A_bestLeaders 17 = .ok (.ixor, 1) := by decide +kernel
theorem dc_A_bestLeaders_18 : decode cb_A_bestLeaders 18 = .ok (.iand, 1) := by decide +kernel
theorem dc_A_bestLeaders_19 : decode cb_A_bestLeaders 19 = .ok (.istore 5, 2) := by decide +kernel
theorem dc_A_bestLeaders_21 : decode cb_A_bestLeaders 21 = .ok (.iload 5, 2) := by decide +kernel
theorem dc_A_bestLeaders_23 : decode cb_A_bestLeaders 23 = .ok (.iload_n 1, 1) := by decide +kernel
theorem dc_A_bestLeaders_24 : decode cb_A_bestLeaders 24 = .ok (.if_icmp .eq 37, 3) := by decide +kernel
theorem dc_A_bestLeaders_27 : decode cb_A_bestLeaders 27 = .ok (.aload_n 0, 1) := by decide +kernel
theorem dc_A_bestLeaders_28 : decode cb_A_bestLeaders 28 = .ok (.getfield 9, 3) := by decide +kernel
theorem dc_A_bestLeaders_31 : decode cb_A_bestLeaders 31 = .ok (.iload 5, 2) := by decide +kernel
theorem dc_A_bestLeaders_33 : decode cb_A_bestLeaders 33 = .ok (.iaload, 1) := by decide +kernel
theorem dc_A_bestLeaders_34 : decode cb_A_bestLeaders 34 = .ok (.aload_n 0, 1) := by decide +kernel
theorem dc_A_bestLeaders_35 : decode cb_A_bestLeaders 35 = .ok (.getfield 17, 3) := by decide +kernel
theorem dc_A_bestLeaders_38 : decode cb_A_bestLeaders 38 = .ok (.iload 4, 2) := by decide +kernel
theorem dc_A_bestLeaders_40 : decode cb_A_bestLeaders 40 = .ok (.aaload, 1) := by decide +kernel
theorem dc_A_bestLeaders_41 : decode cb_A_bestLeaders 41 = .ok (.iload 5, 2) := by decide +kernel
theorem dc_A_bestLeaders_43 : decode cb_A_bestLeaders 43 = .ok (.iaload, 1) := by decide +kernel
theorem dc_A_bestLeaders_44 : decode cb_A_bestLeaders 44 = .ok (.iadd, 1) := by decide +kernel
theorem dc_A_bestLeaders_45 : decode cb_A_bestLeaders 45 = .ok (.aload_n 0, 1) := by decide +kernel
theorem dc_A_bestLeaders_46 : decode cb_A_bestLeaders 46 = .ok (.getfield 9, 3) := by decide +kernel
theorem dc_A_bestLeaders_49 : decode cb_A_bestLeaders 49 = .ok (.iload_n 1, 1) := by decide +kernel
theorem dc_A_bestLeaders_50 : decode cb_A_bestLeaders 50 = .ok (.iaload, 1) := by decide +kernel
theorem dc_A_bestLeaders_51 : decode cb_A_bestLeaders 51 = .ok (.if_icmp .ne 10, 3) := by decide +kernel
theorem dc_A_bestLeaders_54 : decode cb_A_bestLeaders 54 = .ok (.iload_n 3, 1) := by decide +kernel
theorem dc_A_bestLeaders_55 : decode cb_A_bestLeaders 55 = .ok (.iconst 1, 1) := by decide +kernel
theorem dc_A_bestLeaders_56 : decode cb_A_bestLeaders 56 = .ok (.iload 4, 2) := by decide +kernel
theorem dc_A_bestLeaders_58 : decode cb_A_bestLeaders 58 = .ok (.ishl, 1) := by decide +kernel
theorem dc_A_bestLeaders_59 : decode cb_A_bestLeaders 59 = .ok (.ior, 1) := by decide +kernel
theorem dc_A_bestLeaders_60 : decode cb_A_bestLeaders 60 = .ok (.istore_n 3, 1) := by decide +kernel
theorem dc_A_bestLeaders_61 : decode cb_A_bestLeaders 61 = .ok (.iinc 4 1, 3) := by decide +kernel
theorem dc_A_bestLeaders_64 : decode cb_A_bestLeaders 64 = .ok (.goto (-59), 3) := by decide +kernel
theorem dc_A_bestLeaders_67 : decode cb_A_bestLeaders 67 = .ok (.iload_n 3, 1) := by decide +kernel
theorem dc_A_bestLeaders_68 : decode cb_A_bestLeaders 68 = .ok (.ireturn, 1) := by decide +kernel
theorem dc_A_weigh_0 : decode cb_A_weigh 0 = .ok (.iconst 0, 1) := by decide +kernel
theorem dc_A_weigh_1 : decode cb_A_weigh 1 = .ok (.istore_n 2, 1) := by decide +kernel
theorem dc_A_weigh_2 : decode cb_A_weigh 2 = .ok (.iload_n 2, 1) := by decide +kernel
theorem dc_A_weigh_3 : decode cb_A_weigh 3 = .ok (.aload_n 1, 1) := by decide +kernel
theorem dc_A_weigh_4 : decode cb_A_weigh 4 = .ok (.getfield 30, 3) := by decide +kernel
theorem dc_A_weigh_7 : decode cb_A_weigh 7 = .ok (.if_icmp .ge 15, 3) := by decide +kernel
theorem dc_A_weigh_10 : decode cb_A_weigh 10 = .ok (.aload_n 0, 1) := by decide +kernel
theorem dc_A_weigh_11 : decode cb_A_weigh 11 = .ok (.aload_n 1, 1) := by decide +kernel
theorem dc_A_weigh_12 : decode cb_A_weigh 12 = .ok (.iload_n 2, 1) := by decide +kernel
theorem dc_A_weigh_13 : decode cb_A_weigh 13 = .ok (.invokevirtual 42, 3) := by decide +kernel
theorem dc_A_weigh_16 : decode cb_A_weigh 16 = .ok (.iinc 2 1, 3) := by decide +kernel
theorem dc_A_weigh_19 : decode cb_A_weigh 19 = .ok (.goto (-17), 3) := by decide +kernel
theorem dc_A_weigh_22 : decode cb_A_weigh 22 = .ok (.aload_n 1, 1) := by decide +kernel
theorem dc_A_weigh_23 : decode cb_A_weigh 23 = .ok (.invokevirtual 24, 3) := by decide +kernel
theorem dc_A_weigh_26 : decode cb_A_weigh 26 = .ok (.istore_n 2, 1) := by decide +kernel
theorem dc_A_weigh_27 : decode cb_A_weigh 27 = .ok (.iconst 1, 1) := by decide +kernel
theorem dc_A_weigh_28 : decode cb_A_weigh 28 = .ok (.istore_n 3, 1) := by decide +kernel
theorem dc_A_weigh_29 : decode cb_A_weigh 29 = .ok (.iload_n 3, 1) := by decide +kernel
theorem dc_A_weigh_30 : decode cb_A_weigh 30 = .ok (.iload_n 2, 1) := by decide +kernel
theorem dc_A_weigh_31 : decode cb_A_weigh 31 = .ok (.if_icmp .gt 80, 3) := by decide +kernel
theorem dc_A_weigh_34 : decode cb_A_weigh 34 = .ok (.ldc 46, 2) := by decide +kernel
theorem dc_A_weigh_36 : decode cb_A_weigh 36 = .ok (.istore 4, 2) := by decide +kernel
theorem dc_A_weigh_38 : decode cb_A_weigh 38 = .ok (.iconst 0, 1) := by decide +kernel
theorem dc_A_weigh_39 : decode cb_A_weigh 39 = .ok (.istore 5, 2) := by decide +kernel
theorem dc_A_weigh_41 : decode cb_A_weigh 41 = .ok (.iload 5, 2) := by decide +kernel
theorem dc_A_weigh_43 : decode cb_A_weigh 43 = .ok (.aload_n 1, 1) := by decide +kernel
theorem dc_A_weigh_44 : decode cb_A_weigh 44 = .ok (.getfield 30, 3) := by decide +kernel
theorem dc_A_weigh_47 : decode cb_A_weigh 47 = .ok (.if_icmp .ge 50, 3) := by decide +kernel
theorem dc_A_weigh_50 : decode cb_A_weigh 50 = .ok (.iload_n 3, 1) := by decide +kernel
theorem dc_A_weigh_51 : decode cb_A_weigh 51 = .ok (.iconst 1, 1) := by decide +kernel
theorem dc_A_weigh_52 : decode cb_A_weigh 52 = .ok (.iload 5, 2) := by decide +kernel
theorem dc_A_weigh_54 : decode cb_A_weigh 54 = .ok (.ishl, 1) := by decide +kernel
theorem dc_A_weigh_55 : decode cb_A_weigh 55 = .ok (.iconst (-1), 1) := by decide +kernel
theorem dc_A_weigh_56 : decode cb_A_weigh 56 = .ok (.ixor, 1) := by decide +kernel
theorem dc_A_weigh_57 : decode cb_A_weigh 57 = .ok (.iand, 1) := by decide +kernel
theorem dc_A_weigh_58 : decode cb_A_weigh 58 = .ok (.istore 6, 2) := by decide +kernel
theorem dc_A_weigh_60 : decode cb_A_weigh 60 = .ok (.iload 6, 2) := by decide +kernel
theorem dc_A_weigh_62 : decode cb_A_weigh 62 = .ok (.iload_n 3, 1) := by decide +kernel
theorem dc_A_weigh_63 : decode cb_A_weigh 63 = .ok (.if_icmp .eq 28, 3) := by decide +kernel
theorem dc_A_weigh_66 : decode cb_A_weigh 66 = .ok (.iload 4, 2) := by decide +kernel
theorem dc_A_weigh_68 : decode cb_A_weigh 68 = .ok (.aload_n 0, 1) := by decide +kernel
theorem dc_A_weigh_69 : decode cb_A_weigh 69 = .ok (.getfield 9, 3) := by decide +kernel
theorem dc_A_weigh_72 : decode cb_A_weigh 72 = .ok (.iload 6, 2) := by decide +kernel
theorem dc_A_weigh_74 : decode cb_A_weigh 74 = .ok (.iaload, 1) := by decide +kernel
theorem dc_A_weigh_75 : decode cb_A_weigh 75 = .ok (.aload_n 0, 1) := by decide +kernel
theorem dc_A_weigh_76 : decode cb_A_weigh 76 = .ok (.getfield 17, 3) := by decide +kernel
theorem dc_A_weigh_79 : decode cb_A_weigh 79 = .ok (.iload 5, 2) := by decide +kernel
theorem dc_A_weigh_81 : decode cb_A_weigh 81 = .ok (.aaload, 1) := by decide +kernel
theorem dc_A_weigh_82 : decode cb_A_weigh 82 = .ok (.iload 6, 2) := by decide +kernel
theorem dc_A_weigh_84 : decode cb_A_weigh 84 = .ok (.iaload, 1) := by decide +kernel
theorem dc_A_weigh_85 : decode cb_A_weigh 85 = .ok (.iadd, 1) := by decide +kernel
theorem dc_A_weigh_86 : decode cb_A_weigh 86 = .ok (.invokestatic 47, 3) := by decide +kernel
theorem dc_A_weigh_89 : decode cb_A_weigh 89 = .ok (.istore 4, 2) := by decide +kernel
theorem dc_A_weigh_91 : decode cb_A_weigh 91 = .ok (.iinc 5 1, 3) := by decide +kernel
theorem dc_A_weigh_94 : decode cb_A_weigh 94 = .ok (.goto (-53), 3) := by decide +kernel
theorem dc_A_weigh_97 : decode cb_A_weigh 97 = .ok (.aload_n 0, 1) := by decide +kernel
theorem dc_A_weigh_98 : decode cb_A_weigh 98 = .ok (.getfield 9, 3) := by decide +kernel
theorem dc_A_weigh_101 : decode cb_A_weigh 101 = .ok (.iload_n 3, 1) := by decide +kernel
theorem dc_A_weigh_102 : decode cb_A_weigh 102 = .ok (.iload 4, 2) := by decide +kernel
theorem dc_A_weigh_104 : decode cb_A_weigh 104 = .ok (.iastore, 1) := by decide +kernel
theorem dc_A_weigh_105 : decode cb_A_weigh 105 = .ok (.iinc 3 1, 3) := by decide +kernel
theorem dc_A_weigh_108 : decode cb_A_weigh 108 = .ok (.goto (-79), 3) := by decide +kernel
theorem dc_A_weigh_111 : decode cb_A_weigh 111 = .ok (.return_, 1) := by decide +kernel
theorem dc_A_sumAgainst_0 : decode cb_A_sumAgainst 0 = .ok (.aload_n 0, 1) := by decide +kernel
theorem dc_A_sumAgainst_1 : decode cb_A_sumAgainst 1 = .ok (.getfield 17, 3) := by decide +kernel
theorem dc_A_sumAgainst_4 : decode cb_A_sumAgainst 4 = .ok (.iload_n 2, 1) := by decide +kernel
theorem dc_A_sumAgainst_5 : decode cb_A_sumAgainst 5 = .ok (.aaload, 1) := by decide +kernel
theorem dc_A_sumAgainst_6 : decode cb_A_sumAgainst 6 = .ok (.astore_n 3, 1) := by decide +kernel
theorem dc_A_sumAgainst_7 : decode cb_A_sumAgainst 7 = .ok (.iconst 0, 1) := by decide +kernel
theorem dc_A_sumAgainst_8 : decode cb_A_sumAgainst 8 = .ok (.istore 4, 2) := by decide +kernel
theorem dc_A_sumAgainst_10 : decode cb_A_sumAgainst 10 = .ok (.iload 4, 2) := by decide +kernel
theorem dc_A_sumAgainst_12 : decode cb_A_sumAgainst 12 = .ok (.aload_n 1, 1) := by decide +kernel
theorem dc_A_sumAgainst_13 : decode cb_A_sumAgainst 13 = .ok (.getfield 30, 3) := by decide +kernel
theorem dc_A_sumAgainst_16 : decode cb_A_sumAgainst 16 = .ok (.if_icmp .ge 56, 3) := by decide +kernel
theorem dc_A_sumAgainst_19 : decode cb_A_sumAgainst 19 = .ok (.iconst 1, 1) := by decide +kernel
theorem dc_A_sumAgainst_20 : decode cb_A_sumAgainst 20 = .ok (.iload 4, 2) := by decide +kernel
theorem dc_A_sumAgainst_22 : decode cb_A_sumAgainst 22 = .ok (.ishl, 1) := by decide +kernel
theorem dc_A_sumAgainst_23 : decode cb_A_sumAgainst 23 = .ok (.istore 5, 2) := by decide +kernel
theorem dc_A_sumAgainst_25 : decode cb_A_sumAgainst 25 = .ok (.aload_n 1, 1) := by decide +kernel
theorem dc_A_sumAgainst_26 : decode cb_A_sumAgainst 26 = .ok (.getfield 52, 3) := by decide +kernel
theorem dc_A_sumAgainst_29 : decode cb_A_sumAgainst 29 = .ok (.iload 4, 2) := by decide +kernel
theorem dc_A_sumAgainst_31 : decode cb_A_sumAgainst 31 = .ok (.aaload, 1) := by decide +kernel
theorem dc_A_sumAgainst_32 : decode cb_A_sumAgainst 32 = .ok (.iload_n 2, 1) := by decide +kernel
theorem dc_A_sumAgainst_33 : decode cb_A_sumAgainst 33 = .ok (.iaload, 1) := by decide +kernel
theorem dc_A_sumAgainst_34 : decode cb_A_sumAgainst 34 = .ok (.istore 6, 2) := by decide +kernel
theorem dc_A_sumAgainst_36 : decode cb_A_sumAgainst 36 = .ok (.iconst 0, 1) := by decide +kernel
theorem dc_A_sumAgainst_37 : decode cb_A_sumAgainst 37 = .ok (.istore 7, 2) := by decide +kernel
theorem dc_A_sumAgainst_39 : decode cb_A_sumAgainst 39 = .ok (.iload 7, 2) := by decide +kernel
theorem dc_A_sumAgainst_41 : decode cb_A_sumAgainst 41 = .ok (.iload 5, 2) := by decide +kernel
theorem dc_A_sumAgainst_43 : decode cb_A_sumAgainst 43 = .ok (.if_icmp .ge 23, 3) := by decide +kernel
theorem dc_A_sumAgainst_46 : decode cb_A_sumAgainst 46 = .ok (.aload_n 3, 1) := by decide +kernel
theorem dc_A_sumAgainst_47 : decode cb_A_sumAgainst 47 = .ok (.iload 5, 2) := by decide +kernel
theorem dc_A_sumAgainst_49 : decode cb_A_sumAgainst 49 = .ok (.iload 7, 2) := by decide +kernel
theorem dc_A_sumAgainst_51 : decode cb_A_sumAgainst 51 = .ok (.iadd, 1) := by decide +kernel
theorem dc_A_sumAgainst_52 : decode cb_A_sumAgainst 52 = .ok (.aload_n 3, 1) := by decide +kernel
theorem dc_A_sumAgainst_53 : decode cb_A_sumAgainst 53 = .ok (.iload 7, 2) := by decide +kernel
theorem dc_A_sumAgainst_55 : decode cb_A_sumAgainst 55 = .ok (.iaload, 1) := by decide +kernel
theorem dc_A_sumAgainst_56 : decode cb_A_sumAgainst 56 = .ok (.iload 6, 2) := by decide +kernel
theorem dc_A_sumAgainst_58 : decode cb_A_sumAgainst 58 = .ok (.iadd, 1) := by decide +kernel
theorem dc_A_sumAgainst_59 : decode cb_A_sumAgainst 59 = .ok (.iastore, 1) := by decide +kernel
theorem dc_A_sumAgainst_60 : decode cb_A_sumAgainst 60 = .ok (.iinc 7 1, 3) := by decide +kernel
theorem dc_A_sumAgainst_63 : decode cb_A_sumAgainst 63 = .ok (.goto (-24), 3) := by decide +kernel
theorem dc_A_sumAgainst_66 : decode cb_A_sumAgainst 66 = .ok (.iinc 4 1, 3) := by decide +kernel
theorem dc_A_sumAgainst_69 : decode cb_A_sumAgainst 69 = .ok (.goto (-59), 3) := by decide +kernel
theorem dc_A_sumAgainst_72 : decode cb_A_sumAgainst 72 = .ok (.return_, 1) := by decide +kernel
theorem dc_E_init_0 : decode cb_E_init 0 = .ok (.aload_n 0, 1) := by decide +kernel
theorem dc_E_init_1 : decode cb_E_init 1 = .ok (.invokespecial 3, 3) := by decide +kernel
theorem dc_E_init_4 : decode cb_E_init 4 = .ok (.aload_n 0, 1) := by decide +kernel
theorem dc_E_init_5 : decode cb_E_init 5 = .ok (.sipush 128, 3) := by decide +kernel
theorem dc_E_init_8 : decode cb_E_init 8 = .ok (.newarray .boolean, 2) := by decide +kernel
theorem dc_E_init_10 : decode cb_E_init 10 = .ok (.putfield 9, 3) := by decide +kernel
theorem dc_E_init_13 : decode cb_E_init 13 = .ok (.aload_n 0, 1) := by decide +kernel
theorem dc_E_init_14 : decode cb_E_init 14 = .ok (.bipush 7, 2) := by decide +kernel
theorem dc_E_init_16 : decode cb_E_init 16 = .ok (.newarray .int, 2) := by decide +kernel
theorem dc_E_init_18 : decode cb_E_init 18 = .ok (.putfield 15, 3) := by decide +kernel
theorem dc_E_init_21 : decode cb_E_init 21 = .ok (.return_, 1) := by decide +kernel
theorem dc_E_winnerSet_0 : decode cb_E_winnerSet 0 = .ok (.aload_n 0, 1) := by decide +kernel
theorem dc_E_winnerSet_1 : decode cb_E_winnerSet 1 = .ok (.aload_n 1, 1) := by decide +kernel
theorem dc_E_winnerSet_2 : decode cb_E_winnerSet 2 = .ok (.invokevirtual 19, 3) := by decide +kernel
theorem dc_E_winnerSet_5 : decode cb_E_winnerSet 5 = .ok (.iconst 0, 1) := by decide +kernel
theorem dc_E_winnerSet_6 : decode cb_E_winnerSet 6 = .ok (.istore_n 2, 1) := by decide +kernel
theorem dc_E_winnerSet_7 : decode cb_E_winnerSet 7 = .ok (.iconst 0, 1) := by decide +kernel
theorem dc_E_winnerSet_8 : decode cb_E_winnerSet 8 = .ok (.istore_n 3, 1) := by decide +kernel
theorem dc_E_winnerSet_9 : decode cb_E_winnerSet 9 = .ok (.iload_n 3, 1) := by decide +kernel
theorem dc_E_winnerSet_10 : decode cb_E_winnerSet 10 = .ok (.aload_n 1, 1) := by decide +kernel
theorem dc_E_winnerSet_11 : decode cb_E_winnerSet 11 = .ok (.getfield 23, 3) := by decide +kernel
theorem dc_E_winnerSet_14 : decode cb_E_winnerSet 14 = .ok (.if_icmp .ge 26, 3) := by decide +kernel
theorem dc_E_winnerSet_17 : decode cb_E_winnerSet 17 = .ok (.aload_n 0, 1) := by decide +kernel
theorem dc_E_winnerSet_18 : decode cb_E_winnerSet 18 = .ok (.getfield 9, 3) := by decide +kernel
theorem dc_E_winnerSet_21 : decode cb_E_winnerSet 21 = .ok (.iconst 1, 1) := by decide +kernel
theorem dc_E_winnerSet_22 : decode cb_E_winnerSet 22 = .ok (.iload_n 3, 1) := by decide +kernel
theorem dc_E_winnerSet_23 : decode cb_E_winnerSet 23 = .ok (.ishl, 1) := by decide +kernel
theorem dc_E_winnerSet_24 : decode cb_E_winnerSet 24 = .ok (.baload, 1) := by decide +kernel
theorem dc_E_winnerSet_25 : decode cb_E_winnerSet 25 = .ok (.ifCond .eq 9, 3) := by decide +kernel
theorem dc_E_winnerSet_28 : decode cb_E_winnerSet 28 = .ok (.iload_n 2, 1) := by decide +kernel
theorem dc_E_winnerSet_29 : decode cb_E_winnerSet 29 = .ok (.iconst 1, 1) := by decide +kernel
theorem dc_E_winnerSet_30 : decode cb_E_winnerSet 30 = .ok (.iload_n 3, 1) := by decide +kernel
theorem dc_E_winnerSet_31 : decode cb_E_winnerSet 31 = .ok (.ishl, 1) := by decide +kernel
theorem dc_E_winnerSet_32 : decode cb_E_winnerSet 32 = .ok (.ior, 1) := by decide +kernel
theorem dc_E_winnerSet_33 : decode cb_E_winnerSet 33 = .ok (.istore_n 2, 1) := by decide +kernel
theorem dc_E_winnerSet_34 : decode cb_E_winnerSet 34 = .ok (.iinc 3 1, 3) := by decide +kernel
theorem dc_E_winnerSet_37 : decode cb_E_winnerSet 37 = .ok (.goto (-28), 3) := by decide +kernel
theorem dc_E_winnerSet_40 : decode cb_E_winnerSet 40 = .ok (.iload_n 2, 1) := by decide +kernel
theorem dc_E_winnerSet_41 : decode cb_E_winnerSet 41 = .ok (.ireturn, 1) := by decide +kernel
theorem dc_E_setsThatCanBeLeft_0 : decode cb_E_setsThatCanBeLeft 0 = .ok (.aload_n 0, 1) := by decide +kernel
theorem dc_E_setsThatCanBeLeft_1 : decode cb_E_setsThatCanBeLeft 1 = .ok (.aload_n 1, 1) := by decide +kernel
theorem dc_E_setsThatCanBeLeft_2 : decode cb_E_setsThatCanBeLeft 2 = .ok (.invokevirtual 19, 3) := by decide +kernel
theorem dc_E_setsThatCanBeLeft_5 : decode cb_E_setsThatCanBeLeft 5 = .ok (.iconst 0, 1) := by decide +kernel
theorem dc_E_setsThatCanBeLeft_6 : decode cb_E_setsThatCanBeLeft 6 = .ok (.istore_n 2, 1) := by decide +kernel
theorem dc_E_setsThatCanBeLeft_7 : decode cb_E_setsThatCanBeLeft 7 = .ok (.iconst 1, 1) := by decide +kernel
theorem dc_E_setsThatCanBeLeft_8 : decode cb_E_setsThatCanBeLeft 8 = .ok (.istore_n 3, 1) := by decide +kernel
theorem dc_E_setsThatCanBeLeft_9 : decode cb_E_setsThatCanBeLeft 9 = .ok (.iload_n 3, 1) := by decide +kernel
theorem dc_E_setsThatCanBeLeft_10 : decode cb_E_setsThatCanBeLeft 10 = .ok (.aload_n 1, 1) := by decide +kernel
theorem dc_E_setsThatCanBeLeft_11 : decode cb_E_setsThatCanBeLeft 11 = .ok (.invokevirtual 29, 3) := by decide +kernel
theorem dc_E_setsThatCanBeLeft_14 : decode cb_E_setsThatCanBeLeft 14 = .ok (.if_icmp .gt 21, 3) := by decide +kernel
theorem dc_E_setsThatCanBeLeft_17 : decode cb_E_setsThatCanBeLeft 17 = .ok (.aload_n 0, 1) := by decide +kernel
theorem dc_E_setsThatCanBeLeft_18 : decode cb_E_setsThatCanBeLeft 18 = .ok (.getfield 9, 3) := by decide +kernel
theorem dc_E_setsThatCanBeLeft_21 : decode cb_E_setsThatCanBeLeft 21 = .ok (.iload_n 3, 1) := by decide +kernel
theorem dc_E_setsThatCanBeLeft_22 : decode cb_E_setsThatCanBeLeft 22 = .ok (.baload, 1) := by decide +kernel
theorem dc_E_setsThatCanBeLeft_23 : decode cb_E_setsThatCanBeLeft 23 = .ok (.ifCond .eq 6, 3) := by decide +kernel
theorem dc_E_setsThatCanBeLeft_26 : decode cb_E_setsThatCanBeLeft 26 = .ok (.iinc 2 1, 3) := by decide +kernel
theorem dc_E_setsThatCanBeLeft_29 : decode cb_E_setsThatCanBeLeft 29 = .ok (.iinc 3 1, 3) := by decide +kernel
theorem dc_E_setsThatCanBeLeft_32 : decode cb_E_setsThatCanBeLeft 32 = .ok (.goto (-23), 3) := by decide +kernel
theorem dc_E_setsThatCanBeLeft_35 : decode cb_E_setsThatCanBeLeft 35 = .ok (.iload_n 2, 1) := by decide +kernel
theorem dc_E_setsThatCanBeLeft_36 : decode cb_E_setsThatCanBeLeft 36 = .ok (.ireturn, 1) := by decide +kernel
theorem dc_E_goerAt_0 : decode cb_E_goerAt 0 = .ok (.aload_n 1, 1) := by decide +kernel
theorem dc_E_goerAt_1 : decode cb_E_goerAt 1 = .ok (.invokevirtual 29, 3) := by decide +kernel
theorem dc_E_goerAt_4 : decode cb_E_goerAt 4 = .ok (.istore_n 3, 1) := by decide +kernel
theorem dc_E_goerAt_5 : decode cb_E_goerAt 5 = .ok (.iconst 0, 1) := by decide +kernel
theorem dc_E_goerAt_6 : decode cb_E_goerAt 6 = .ok (.istore 4, 2) := by decide +kernel
theorem dc_E_goerAt_8 : decode cb_E_goerAt 8 = .ok (.iload 4, 2) := by decide +kernel
theorem dc_E_goerAt_10 : decode cb_E_goerAt 10 = .ok (.iload_n 2, 1) := by decide +kernel
theorem dc_E_goerAt_11 : decode cb_E_goerAt 11 = .ok (.if_icmp .ge 26, 3) := by decide +kernel
theorem dc_E_goerAt_14 : decode cb_E_goerAt 14 = .ok (.iload_n 3, 1) := by decide +kernel
theorem dc_E_goerAt_15 : decode cb_E_goerAt 15 = .ok (.iconst 1, 1) := by decide +kernel
theorem dc_E_goerAt_16 : decode cb_E_goerAt 16 = .ok (.aload_n 1, 1) := by decide +kernel
theorem dc_E_goerAt_17 : decode cb_E_goerAt 17 = .ok (.aload_n 0, 1) := by decide +kernel
theorem dc_E_goerAt_18 : decode cb_E_goerAt 18 = .ok (.aload_n 1, 1) := by decide +kernel
theorem dc_E_goerAt_19 : decode cb_E_goerAt 19 = .ok (.iload_n 3, 1) := by decide +kernel
theorem dc_E_goerAt_20 : decode cb_E_goerAt 20 = .ok (.invokevirtual 33, 3) := by decide +kernel
theorem dc_E_goerAt_23 : decode cb_E_goerAt 23 = .ok (.invokevirtual 37, 3) := by decide +kernel
theorem dc_E_goerAt_26 : decode cb_E_goerAt 26 = .ok (.ishl, 1) := by decide +kernel
theorem dc_E_goerAt_27 : decode cb_E_goerAt 27 = .ok (.iconst (-1), 1) := by decide +kernel
theorem dc_E_goerAt_28 : decode cb_E_goerAt 28 = .ok (.ixor, 1) := by decide +kernel
theorem dc_E_goerAt_29 : decode cb_E_goerAt 29 = .ok (.iand, 1) := by decide +kernel
theorem dc_E_goerAt_30 : decode cb_E_goerAt 30 = .ok (.istore_n 3, 1) := by decide +kernel
theorem dc_E_goerAt_31 : decode cb_E_goerAt 31 = .ok (.iinc 4 1, 3) := by decide +kernel
theorem dc_E_goerAt_34 : decode cb_E_goerAt 34 = .ok (.goto (-26), 3) := by decide +kernel
theorem dc_E_goerAt_37 : decode cb_E_goerAt 37 = .ok (.aload_n 1, 1) := by decide +kernel
theorem dc_E_goerAt_38 : decode cb_E_goerAt 38 = .ok (.aload_n 0, 1) := by decide +kernel
theorem dc_E_goerAt_39 : decode cb_E_goerAt 39 = .ok (.aload_n 1, 1) := by decide +kernel
theorem dc_E_goerAt_40 : decode cb_E_goerAt 40 = .ok (.iload_n 3, 1) := by decide +kernel
theorem dc_E_goerAt_41 : decode cb_E_goerAt 41 = .ok (.invokevirtual 33, 3) := by decide +kernel
theorem dc_E_goerAt_44 : decode cb_E_goerAt 44 = .ok (.invokevirtual 37, 3) := by decide +kernel
theorem dc_E_goerAt_47 : decode cb_E_goerAt 47 = .ok (.ireturn, 1) := by decide +kernel
theorem dc_E_spread_0 : decode cb_E_spread 0 = .ok (.aload_n 1, 1) := by decide +kernel
theorem dc_E_spread_1 : decode cb_E_spread 1 = .ok (.invokevirtual 29, 3) := by decide +kernel
theorem dc_E_spread_4 : decode cb_E_spread 4 = .ok (.istore_n 2, 1) := by decide +kernel
theorem dc_E_spread_5 : decode cb_E_spread 5 = .ok (.iconst 0, 1) := by decide +kernel
theorem dc_E_spread_6 : decode cb_E_spread 6 = .ok (.istore_n 3, 1) := by decide +kernel
theorem dc_E_spread_7 : decode cb_E_spread 7 = .ok (.iload_n 3, 1) := by decide +kernel
theorem dc_E_spread_8 : decode cb_E_spread 8 = .ok (.iload_n 2, 1) := by decide +kernel
theorem dc_E_spread_9 : decode cb_E_spread 9 = .ok (.if_icmp .ge 16, 3) := by decide +kernel
theorem dc_E_spread_12 : decode cb_E_spread 12 = .ok (.aload_n 0, 1) := by decide +kernel
theorem dc_E_spread_13 : decode cb_E_spread 13 = .ok (.getfield 9, 3) := by decide +kernel
theorem dc_E_spread_16 : decode cb_E_spread 16 = .ok (.iload_n 3, 1) := by decide +kernel
theorem dc_E_spread_17 : decode cb_E_spread 17 = .ok (.iconst 0, 1) := by decide +kernel
theorem dc_E_spread_18 : decode cb_E_spread 18 = .ok (.bastore, 1) := by decide +kernel
theorem dc_E_spread_19 : decode cb_E_spread 19 = .ok (.iinc 3 1, 3) := by decide +kernel
theorem dc_E_spread_22 : decode cb_E_spread 22 = .ok (.goto (-15), 3) := by decide +kernel
theorem dc_E_spread_25 : decode cb_E_spread 25 = .ok (.aload_n 0, 1) := by decide +kernel
theorem dc_E_spread_26 : decode cb_E_spread 26 = .ok (.getfield 9, 3) := by decide +kernel
theorem dc_E_spread_29 : decode cb_E_spread 29 = .ok (.iload_n 2, 1) := by decide +kernel
theorem dc_E_spread_30 : decode cb_E_spread 30 = .ok (.iconst 1, 1) := by decide +kernel
theorem dc_E_spread_31 : decode cb_E_spread 31 = .ok (.bastore, 1) := by decide +kernel
theorem dc_E_spread_32 : decode cb_E_spread 32 = .ok (.iload_n 2, 1) := by decide +kernel
theorem dc_E_spread_33 : decode cb_E_spread 33 = .ok (.istore_n 3, 1) := by decide +kernel
theorem dc_E_spread_34 : decode cb_E_spread 34 = .ok (.iload_n 3, 1) := by decide +kernel
theorem dc_E_spread_35 : decode cb_E_spread 35 = .ok (.ifCond .le 74, 3) := by decide +kernel
theorem dc_E_spread_38 : decode cb_E_spread 38 = .ok (.aload_n 0, 1) := by decide +kernel
theorem dc_E_spread_39 : decode cb_E_spread 39 = .ok (.getfield 9, 3) := by decide +kernel
theorem dc_E_spread_42 : decode cb_E_spread 42 = .ok (.iload_n 3, 1) := by decide +kernel
theorem dc_E_spread_43 : decode cb_E_spread 43 = .ok (.baload, 1) := by decide +kernel
theorem dc_E_spread_44 : decode cb_E_spread 44 = .ok (.ifCond .eq 59, 3) := by decide +kernel
theorem dc_E_spread_47 : decode cb_E_spread 47 = .ok (.iload_n 3, 1) := by decide +kernel
theorem dc_E_spread_48 : decode cb_E_spread 48 = .ok (.invokestatic 41, 3) := by decide +kernel
theorem dc_E_spread_51 : decode cb_E_spread 51 = .ok (.iconst 2, 1) := by decide +kernel
theorem dc_E_spread_52 : decode cb_E_spread 52 = .ok (.if_icmp .lt 51, 3) := by decide +kernel
theorem dc_E_spread_55 : decode cb_E_spread 55 = .ok (.aload_n 0, 1) := by decide +kernel
theorem dc_E_spread_56 : decode cb_E_spread 56 = .ok (.aload_n 1, 1) := by decide +kernel
theorem dc_E_spread_57 : decode cb_E_spread 57 = .ok (.iload_n 3, 1) := by decide +kernel
theorem dc_E_spread_58 : decode cb_E_spread 58 = .ok (.invokevirtual 33, 3) := by decide +kernel
theorem dc_E_spread_61 : decode cb_E_spread 61 = .ok (.istore 4, 2) := by decide +kernel
theorem dc_E_spread_63 : decode cb_E_spread 63 = .ok (.iconst 0, 1) := by decide +kernel
theorem dc_E_spread_64 : decode cb_E_spread 64 = .ok (.istore 5, 2) := by decide +kernel
theorem dc_E_spread_66 : decode cb_E_spread 66 = .ok (.iload 5, 2) := by decide +kernel
theorem dc_E_spread_68 : decode cb_E_spread 68 = .ok (.aload_n 1, 1) := by decide +kernel
theorem dc_E_spread_69 : decode cb_E_spread 69 = .ok (.getfield 23, 3) := by decide +kernel
theorem dc_E_spread_72 : decode cb_E_spread 72 = .ok (.if_icmp .ge 31, 3) := by decide +kernel
theorem dc_E_spread_75 : decode cb_E_spread 75 = .ok (.iload 4, 2) := by decide +kernel
theorem dc_E_spread_77 : decode cb_E_spread 77 = .ok (.iload 5, 2) := by decide +kernel
theorem dc_E_spread_79 : decode cb_E_spread 79 = .ok (.ishr, 1) := by decide +kernel
theorem dc_E_spread_80 : decode cb_E_spread 80 = .ok (.iconst 1, 1) := by decide +kernel
theorem dc_E_spread_81 : decode cb_E_spread 81 = .ok (.iand, 1) := by decide +kernel
theorem dc_E_spread_82 : decode cb_E_spread 82 = .ok (.ifCond .eq 15, 3) := by decide +kernel
theorem dc_E_spread_85 : decode cb_E_spread 85 = .ok (.aload_n 0, 1) := by decide +kernel
theorem dc_E_spread_86 : decode cb_E_spread 86 = .ok (.getfield 9, 3) := by decide +kernel
theorem dc_E_spread_89 : decode cb_E_spread 89 = .ok (.iload_n 3, 1) := by decide +kernel
theorem dc_E_spread_90 : decode cb_E_spread 90 = .ok (.iconst 1, 1) := by decide +kernel
theorem dc_E_spread_91 : decode cb_E_spread 91 = .ok (.iload 5, 2) := by decide +kernel
theorem dc_E_spread_93 : decode cb_E_spread 93 = .ok (.ishl, 1) := by decide +kernel
theorem dc_E_spread_94 : decode cb_E_spread 94 = .ok (.isub, 1) := by decide +kernel
theorem dc_E_spread_95 : decode cb_E_spread 95 = .ok (.iconst 1, 1) := by decide +kernel
theorem dc_E_spread_96 : decode cb_E_spread 96 = .ok (.bastore, 1) := by decide +kernel
theorem dc_E_spread_97 : decode cb_E_spread 97 = .ok (.iinc 5 1, 3) := by decide +kernel
theorem dc_E_spread_100 : decode cb_E_spread 100 = .ok (.goto (-34), 3) := by decide +kernel
theorem dc_E_spread_103 : decode cb_E_spread 103 = .ok (.iinc 3 (-1), 3) := by decide +kernel
theorem dc_E_spread_106 : decode cb_E_spread 106 = .ok (.goto (-72), 3) := by decide +kernel
theorem dc_E_spread_109 : decode cb_E_spread 109 = .ok (.return_, 1) := by decide +kernel
theorem dc_E_goers_0 : decode cb_E_goers 0 = .ok (.aload_n 0, 1) := by decide +kernel
theorem dc_E_goers_1 : decode cb_E_goers 1 = .ok (.aload_n 1, 1) := by decide +kernel
theorem dc_E_goers_2 : decode cb_E_goers 2 = .ok (.iload_n 2, 1) := by decide +kernel
theorem dc_E_goers_3 : decode cb_E_goers 3 = .ok (.invokevirtual 46, 3) := by decide +kernel
theorem dc_E_goers_6 : decode cb_E_goers 6 = .ok (.iconst 0, 1) := by decide +kernel
theorem dc_E_goers_7 : decode cb_E_goers 7 = .ok (.istore_n 3, 1) := by decide +kernel
theorem dc_E_goers_8 : decode cb_E_goers 8 = .ok (.iconst 0, 1) := by decide +kernel
theorem dc_E_goers_9 : decode cb_E_goers 9 = .ok (.istore 4, 2) := by decide +kernel
theorem dc_E_goers_11 : decode cb_E_goers 11 = .ok (.iconst 0, 1) := by decide +kernel
theorem dc_E_goers_12 : decode cb_E_goers 12 = .ok (.istore 5, 2) := by decide +kernel
theorem dc_E_goers_14 : decode cb_E_goers 14 = .ok (.iload 5, 2) := by decide +kernel
theorem dc_E_goers_16 : decode cb_E_goers 16 = .ok (.aload_n 1, 1) := by decide +kernel
theorem dc_E_goers_17 : decode cb_E_goers 17 = .ok (.getfield 23, 3) := by decide +kernel
theorem dc_E_goers_20 : decode cb_E_goers 20 = .ok (.if_icmp .ge 70, 3) := by decide +kernel
theorem dc_E_goers_23 : decode cb_E_goers 23 = .ok (.iload_n 2, 1) := by decide +kernel
theorem dc_E_goers_24 : decode cb_E_goers 24 = .ok (.iload 5, 2) := by decide +kernel
theorem dc_E_goers_26 : decode cb_E_goers 26 = .ok (.ishr, 1) := by decide +kernel
theorem dc_E_goers_27 : decode cb_E_goers 27 = .ok (.iconst 1, 1) := by decide +kernel
theorem dc_E_goers_28 : decode cb_E_goers 28 = .ok (.iand, 1) := by decide +kernel
theorem dc_E_goers_29 : decode cb_E_goers 29 = .ok (.ifCond .eq 55, 3) := by decide +kernel
theorem dc_E_goers_32 : decode cb_E_goers 32 = .ok (.iload_n 3, 1) := by decide +kernel
theorem dc_E_goers_33 : decode cb_E_goers 33 = .ok (.ifCond .eq 15, 3) := by decide +kernel
theorem dc_E_goers_36 : decode cb_E_goers 36 = .ok (.aload_n 0, 1) := by decide +kernel
theorem dc_E_goers_37 : decode cb_E_goers 37 = .ok (.getfield 15, 3) := by decide +kernel
theorem dc_E_goers_40 : decode cb_E_goers 40 = .ok (.iload 5, 2) := by decide +kernel
theorem dc_E_goers_42 : decode cb_E_goers 42 = .ok (.iaload, 1) := by decide +kernel
theorem dc_E_goers_43 : decode cb_E_goers 43 = .ok (.iload 4, 2) := by decide +kernel
theorem dc_E_goers_45 : decode cb_E_goers 45 = .ok (.if_icmp .ge 20, 3) := by decide +kernel
theorem dc_E_goers_48 : decode cb_E_goers 48 = .ok (.aload_n 0, 1) := by decide +kernel
theorem dc_E_goers_49 : decode cb_E_goers 49 = .ok (.getfield 15, 3) := by decide +kernel
theorem dc_E_goers_52 : decode cb_E_goers 52 = .ok (.iload 5, 2) := by decide +kernel
theorem dc_E_goers_54 : decode cb_E_goers 54 = .ok (.iaload, 1) := by decide +kernel
theorem dc_E_goers_55 : decode cb_E_goers 55 = .ok (.istore 4, 2) := by decide +kernel
theorem dc_E_goers_57 : decode cb_E_goers 57 = .ok (.iconst 1, 1) := by decide +kernel
theorem dc_E_goers_58 : decode cb_E_goers 58 = .ok (.iload 5, 2) := by decide +kernel
theorem dc_E_goers_60 : decode cb_E_goers 60 = .ok (.ishl, 1) := by decide +kernel
theorem dc_E_goers_61 : decode cb_E_goers 61 = .ok (.istore_n 3, 1) := by decide +kernel
theorem dc_E_goers_62 : decode cb_E_goers 62 = .ok (.goto 22, 3) := by decide +kernel
theorem dc_E_goers_65 : decode cb_E_goers 65 = .ok (.aload_n 0, 1) := by decide +kernel
theorem dc_E_goers_66 : decode cb_E_goers 66 = .ok (.getfield 15, 3) := by decide +kernel
theorem dc_E_goers_69 : decode cb_E_goers 69 = .ok (.iload 5, 2) := by decide +kernel
theorem dc_E_goers_71 : decode cb_E_goers 71 = .ok (.iaload, 1) := by decide +kernel
theorem dc_E_goers_72 : decode cb_E_goers 72 = .ok (.iload 4, 2) := by decide +kernel
theorem dc_E_goers_74 : decode cb_E_goers 74 = .ok (.if_icmp .ne 10, 3) := by decide +kernel
theorem dc_E_goers_77 : decode cb_E_goers 77 = .ok (.iload_n 3, 1) := by decide +kernel
theorem dc_E_goers_78 : decode cb_E_goers 78 = .ok (.iconst 1, 1) := by decide +kernel
theorem dc_E_goers_79 : decode cb_E_goers 79 = .ok (.iload 5, 2) := by decide +kernel
theorem dc_E_goers_81 : decode cb_E_goers 81 = .ok (.ishl, 1) := by decide +kernel
theorem dc_E_goers_82 : decode cb_E_goers 82 = .ok (.ior, 1) := by decide +kernel
theorem dc_E_goers_83 : decode cb_E_goers 83 = .ok (.istore_n 3, 1) := by decide +kernel
theorem dc_E_goers_84 : decode cb_E_goers 84 = .ok (.iinc 5 1, 3) := by decide +kernel
theorem dc_E_goers_87 : decode cb_E_goers 87 = .ok (.goto (-73), 3) := by decide +kernel
theorem dc_E_goers_90 : decode cb_E_goers 90 = .ok (.iload_n 3, 1) := by decide +kernel
theorem dc_E_goers_91 : decode cb_E_goers 91 = .ok (.ireturn, 1) := by decide +kernel
theorem dc_E_countLeads_0 : decode cb_E_countLeads 0 = .ok (.iconst 0, 1) := by decide +kernel
theorem dc_E_countLeads_1 : decode cb_E_countLeads 1 = .ok (.istore_n 3, 1) := by decide +kernel
theorem dc_E_countLeads_2 : decode cb_E_countLeads 2 = .ok (.iload_n 3, 1) := by decide +kernel
theorem dc_E_countLeads_3 : decode cb_E_countLeads 3 = .ok (.aload_n 1, 1) := by decide +kernel
theorem dc_E_countLeads_4 : decode cb_E_countLeads 4 = .ok (.getfield 23, 3) := by decide +kernel
theorem dc_E_countLeads_7 : decode cb_E_countLeads 7 = .ok (.if_icmp .ge 16, 3) := by decide +kernel
theorem dc_E_countLeads_10 : decode cb_E_countLeads 10 = .ok (.aload_n 0, 1) := by decide +kernel
theorem dc_E_countLeads_11 : decode cb_E_countLeads 11 = .ok (.getfield 15, 3) := by decide +kernel
theorem dc_E_countLeads_14 : decode cb_E_countLeads 14 = .ok (.iload_n 3, 1) := by decide +kernel
theorem dc_E_countLeads_15 : decode cb_E_countLeads 15 = .ok (.iconst 0, 1) := by decide +kernel
theorem dc_E_countLeads_16 : decode cb_E_countLeads 16 = .ok (.iastore, 1) := by decide +kernel
theorem dc_E_countLeads_17 : decode cb_E_countLeads 17 = .ok (.iinc 3 1, 3) := by decide +kernel
theorem dc_E_countLeads_20 : decode cb_E_countLeads 20 = .ok (.goto (-18), 3) := by decide +kernel
theorem dc_E_countLeads_23 : decode cb_E_countLeads 23 = .ok (.iconst 0, 1) := by decide +kernel
theorem dc_E_countLeads_24 : decode cb_E_countLeads 24 = .ok (.istore_n 3, 1) := by decide +kernel
theorem dc_E_countLeads_25 : decode cb_E_countLeads 25 = .ok (.iload_n 3, 1) := by decide +kernel
theorem dc_E_countLeads_26 : decode cb_E_countLeads 26 = .ok (.aload_n 1, 1) := by decide +kernel
theorem dc_E_countLeads_27 : decode cb_E_countLeads 27 = .ok (.getfield 50, 3) := by decide +kernel
theorem dc_E_countLeads_30 : decode cb_E_countLeads 30 = .ok (.if_icmp .ge 76, 3) := by decide +kernel
theorem dc_E_countLeads_33 : decode cb_E_countLeads 33 = .ok (.aload_n 1, 1) := by decide +kernel
theorem dc_E_countLeads_34 : decode cb_E_countLeads 34 = .ok (.getfield 53, 3) := by decide +kernel
theorem dc_E_countLeads_37 : decode cb_E_countLeads 37 = .ok (.iload_n 3, 1) := by decide +kernel
theorem dc_E_countLeads_38 : decode cb_E_countLeads 38 = .ok (.iaload, 1) := by decide +kernel
theorem dc_E_countLeads_39 : decode cb_E_countLeads 39 = .ok (.istore 4, 2) := by decide +kernel
theorem dc_E_countLeads_41 : decode cb_E_countLeads 41 = .ok (.iconst 0, 1) := by decide +kernel
theorem dc_E_countLeads_42 : decode cb_E_countLeads 42 = .ok (.istore 5, 2) := by decide +kernel
theorem dc_E_countLeads_44 : decode cb_E_countLeads 44 = .ok (.iload 5, 2) := by decide +kernel
theorem dc_E_countLeads_46 : decode cb_E_countLeads 46 = .ok (.aload_n 1, 1) := by decide +kernel
theorem dc_E_countLeads_47 : decode cb_E_countLeads 47 = .ok (.getfield 23, 3) := by decide +kernel
theorem dc_E_countLeads_50 : decode cb_E_countLeads 50 = .ok (.if_icmp .ge 50, 3) := by decide +kernel
theorem dc_E_countLeads_53 : decode cb_E_countLeads 53 = .ok (.iload 4, 2) := by decide +kernel
theorem dc_E_countLeads_55 : decode cb_E_countLeads 55 = .ok (.bipush 7, 2) := by decide +kernel
theorem dc_E_countLeads_57 : decode cb_E_countLeads 57 = .ok (.iand, 1) := by decide +kernel
theorem dc_E_countLeads_58 : decode cb_E_countLeads 58 = .ok (.istore 6, 2) := by decide +kernel
theorem dc_E_countLeads_60 : decode cb_E_countLeads 60 = .ok (.iload_n 2, 1) := by decide +kernel
theorem dc_E_countLeads_61 : decode cb_E_countLeads 61 = .ok (.iload 6, 2) := by decide +kernel
theorem dc_E_countLeads_63 : decode cb_E_countLeads 63 = .ok (.ishr, 1) := by decide +kernel
theorem dc_E_countLeads_64 : decode cb_E_countLeads 64 = .ok (.iconst 1, 1) := by decide +kernel
theorem dc_E_countLeads_65 : decode cb_E_countLeads 65 = .ok (.iand, 1) := by decide +kernel
theorem dc_E_countLeads_66 : decode cb_E_countLeads 66 = .ok (.ifCond .eq 22, 3) := by decide +kernel
theorem dc_E_countLeads_69 : decode cb_E_countLeads 69 = .ok (.aload_n 0, 1) := by decide +kernel
theorem dc_E_countLeads_70 : decode cb_E_countLeads 70 = .ok (.getfield 15, 3) := by decide +kernel
theorem dc_E_countLeads_73 : decode cb_E_countLeads 73 = .ok (.iload 6, 2) := by decide +kernel
theorem dc_E_countLeads_75 : decode cb_E_countLeads 75 = .ok (.dup2, 1) := by decide +kernel
theorem dc_E_countLeads_76 : decode cb_E_countLeads 76 = .ok (.iaload, 1) := by decide +kernel
theorem dc_E_countLeads_77 : decode cb_E_countLeads 77 = .ok (.aload_n 1, 1) := by decide +kernel
theorem dc_E_countLeads_78 : decode cb_E_countLeads 78 = .ok (.getfield 56, 3) := by decide +kernel
theorem dc_E_countLeads_81 : decode cb_E_countLeads 81 = .ok (.iload_n 3, 1) := by decide +kernel
theorem dc_E_countLeads_82 : decode cb_E_countLeads 82 = .ok (.iaload, 1) := by decide +kernel
theorem dc_E_countLeads_83 : decode cb_E_countLeads 83 = .ok (.iadd, 1) := by decide +kernel
theorem dc_E_countLeads_84 : decode cb_E_countLeads 84 = .ok (.iastore, 1) := by decide +kernel
theorem dc_E_countLeads_85 : decode cb_E_countLeads 85 = .ok (.goto 15, 3) := by decide +kernel
theorem dc_E_countLeads_88 : decode cb_E_countLeads 88 = .ok (.iload 4, 2) := by decide +kernel
theorem dc_E_countLeads_90 : decode cb_E_countLeads 90 = .ok (.iconst 3, 1) := by decide +kernel
theorem dc_E_countLeads_91 : decode cb_E_countLeads 91 = .ok (.ishr, 1) := by decide +kernel
theorem dc_E_countLeads_92 : decode cb_E_countLeads 92 = .ok (.istore 4, 2) := by decide +kernel
theorem dc_E_countLeads_94 : decode cb_E_countLeads 94 = .ok (.iinc 5 1, 3) := by decide +kernel
theorem dc_E_countLeads_97 : decode cb_E_countLeads 97 = .ok (.goto (-53), 3) := by decide +kernel
theorem dc_E_countLeads_100 : decode cb_E_countLeads 100 = .ok (.iinc 3 1, 3) := by decide +kernel
theorem dc_E_countLeads_103 : decode cb_E_countLeads 103 = .ok (.goto (-78), 3) := by decide +kernel
theorem dc_E_countLeads_106 : decode cb_E_countLeads 106 = .ok (.return_, 1) := by decide +kernel
theorem dc_K_init_0 : decode cb_K_init 0 = .ok (.aload_n 0, 1) := by decide +kernel
theorem dc_K_init_1 : decode cb_K_init 1 = .ok (.invokespecial 3, 3) := by decide +kernel
theorem dc_K_init_4 : decode cb_K_init 4 = .ok (.aload_n 0, 1) := by decide +kernel
theorem dc_K_init_5 : decode cb_K_init 5 = .ok (.bipush 21, 2) := by decide +kernel
theorem dc_K_init_7 : decode cb_K_init 7 = .ok (.newarray .int, 2) := by decide +kernel
theorem dc_K_init_9 : decode cb_K_init 9 = .ok (.putfield 9, 3) := by decide +kernel
theorem dc_K_init_12 : decode cb_K_init 12 = .ok (.aload_n 0, 1) := by decide +kernel
theorem dc_K_init_13 : decode cb_K_init 13 = .ok (.bipush 7, 2) := by decide +kernel
theorem dc_K_init_15 : decode cb_K_init 15 = .ok (.newarray .int, 2) := by decide +kernel
theorem dc_K_init_17 : decode cb_K_init 17 = .ok (.putfield 15, 3) := by decide +kernel
theorem dc_K_init_20 : decode cb_K_init 20 = .ok (.return_, 1) := by decide +kernel
theorem dc_K_winnerSet_0 : decode cb_K_winnerSet 0 = .ok (.aload_n 0, 1) := by decide +kernel
theorem dc_K_winnerSet_1 : decode cb_K_winnerSet 1 = .ok (.aload_n 1, 1) := by decide +kernel
theorem dc_K_winnerSet_2 : decode cb_K_winnerSet 2 = .ok (.invokevirtual 18, 3) := by decide +kernel
theorem dc_K_winnerSet_5 : decode cb_K_winnerSet 5 = .ok (.aload_n 0, 1) := by decide +kernel
theorem dc_K_winnerSet_6 : decode cb_K_winnerSet 6 = .ok (.getfield 15, 3) := by decide +kernel
theorem dc_K_winnerSet_9 : decode cb_K_winnerSet 9 = .ok (.iconst 0, 1) := by decide +kernel
theorem dc_K_winnerSet_10 : decode cb_K_winnerSet 10 = .ok (.invokestatic 22, 3) := by decide +kernel
theorem dc_K_winnerSet_13 : decode cb_K_winnerSet 13 = .ok (.aload_n 1, 1) := by decide +kernel
theorem dc_K_winnerSet_14 : decode cb_K_winnerSet 14 = .ok (.invokevirtual 28, 3) := by decide +kernel
theorem dc_K_winnerSet_17 : decode cb_K_winnerSet 17 = .ok (.istore_n 2, 1) := by decide +kernel
theorem dc_K_winnerSet_18 : decode cb_K_winnerSet 18 = .ok (.iconst 0, 1) := by decide +kernel
theorem dc_K_winnerSet_19 : decode cb_K_winnerSet 19 = .ok (.istore_n 3, 1) := by decide +kernel
theorem dc_K_winnerSet_20 : decode cb_K_winnerSet 20 = .ok (.iload_n 3, 1) := by decide +kernel
theorem dc_K_winnerSet_21 : decode cb_K_winnerSet 21 = .ok (.aload_n 0, 1) := by decide +kernel
theorem dc_K_winnerSet_22 : decode cb_K_winnerSet 22 = .ok (.getfield 34, 3) := by decide +kernel
theorem dc_K_winnerSet_25 : decode cb_K_winnerSet 25 = .ok (.if_icmp .ge 89, 3) := by decide +kernel
theorem dc_K_winnerSet_28 : decode cb_K_winnerSet 28 = .ok (.aload_n 1, 1) := by decide +kernel
theorem dc_K_winnerSet_29 : decode cb_K_winnerSet 29 = .ok (.getfield 38, 3) := by decide +kernel
theorem dc_K_winnerSet_32 : decode cb_K_winnerSet 32 = .ok (.bipush 7, 2) := by decide +kernel
theorem dc_K_winnerSet_34 : decode cb_K_winnerSet 34 = .ok (.aload_n 0, 1) := by decide +kernel
theorem dc_K_winnerSet_35 : decode cb_K_winnerSet 35 = .ok (.getfield 9, 3) := by decide +kernel
theorem dc_K_winnerSet_38 : decode cb_K_winnerSet 38 = .ok (.iload_n 3, 1) := by decide +kernel
theorem dc_K_winnerSet_39 : decode cb_K_winnerSet 39 = .ok (.iaload, 1) := by decide +kernel
theorem dc_K_winnerSet_40 : decode cb_K_winnerSet 40 = .ok (.iconst 3, 1) := by decide +kernel
theorem dc_K_winnerSet_41 : decode cb_K_winnerSet 41 = .ok (.ishr, 1) := by decide +kernel
theorem dc_K_winnerSet_42 : decode cb_K_winnerSet 42 = .ok (.bipush 7, 2) := by decide +kernel
theorem dc_K_winnerSet_44 : decode cb_K_winnerSet 44 = .ok (.iand, 1) := by decide +kernel
theorem dc_K_winnerSet_45 : decode cb_K_winnerSet 45 = .ok (.isub, 1) := by decide +kernel
theorem dc_K_winnerSet_46 : decode cb_K_winnerSet 46 = .ok (.invokestatic 41, 3) := by decide +kernel
theorem dc_K_winnerSet_49 : decode cb_K_winnerSet 49 = .ok (.istore 4, 2) := by decide +kernel
theorem dc_K_winnerSet_51 : decode cb_K_winnerSet 51 = .ok (.aload_n 1, 1) := by decide +kernel
theorem dc_K_winnerSet_52 : decode cb_K_winnerSet 52 = .ok (.getfield 38, 3) := by decide +kernel
theorem dc_K_winnerSet_55 : decode cb_K_winnerSet 55 = .ok (.bipush 7, 2) := by decide +kernel
theorem dc_K_winnerSet_57 : decode cb_K_winnerSet 57 = .ok (.aload_n 0, 1) := by decide +kernel
theorem dc_K_winnerSet_58 : decode cb_K_winnerSet 58 = .ok (.getfield 9, 3) := by decide +kernel
theorem dc_K_winnerSet_61 : decode cb_K_winnerSet 61 = .ok (.iload_n 3, 1) := by decide +kernel
theorem dc_K_winnerSet_62 : decode cb_K_winnerSet 62 = .ok (.iaload, 1) := by decide +kernel
theorem dc_K_winnerSet_63 : decode cb_K_winnerSet 63 = .ok (.bipush 7, 2) := by decide +kernel
theorem dc_K_winnerSet_65 : decode cb_K_winnerSet 65 = .ok (.iand, 1) := by decide +kernel
theorem dc_K_winnerSet_66 : decode cb_K_winnerSet 66 = .ok (.isub, 1) := by decide +kernel
theorem dc_K_winnerSet_67 : decode cb_K_winnerSet 67 = .ok (.invokestatic 41, 3) := by decide +kernel
theorem dc_K_winnerSet_70 : decode cb_K_winnerSet 70 = .ok (.istore 5, 2) := by decide +kernel
theorem dc_K_winnerSet_72 : decode cb_K_winnerSet 72 = .ok (.aload_n 0, 1) := by decide +kernel
theorem dc_K_winnerSet_73 : decode cb_K_winnerSet 73 = .ok (.getfield 15, 3) := by decide +kernel
theorem dc_K_winnerSet_76 : decode cb_K_winnerSet 76 = .ok (.iload 5, 2) := by decide +kernel
theorem dc_K_winnerSet_78 : decode cb_K_winnerSet 78 = .ok (.iaload, 1) := by decide +kernel
theorem dc_K_winnerSet_79 : decode cb_K_winnerSet 79 = .ok (.iload 4, 2) := by decide +kernel
theorem dc_K_winnerSet_81 : decode cb_K_winnerSet 81 = .ok (.ishr, 1) := by decide +kernel
theorem dc_K_winnerSet_82 : decode cb_K_winnerSet 82 = .ok (.iconst 1, 1) := by decide +kernel
theorem dc_K_winnerSet_83 : decode cb_K_winnerSet 83 = .ok (.iand, 1) := by decide +kernel
theorem dc_K_winnerSet_84 : decode cb_K_winnerSet 84 = .ok (.ifCond .ne 24, 3) := by decide +kernel
theorem dc_K_winnerSet_87 : decode cb_K_winnerSet 87 = .ok (.aload_n 0, 1) := by decide +kernel
theorem dc_K_winnerSet_88 : decode cb_K_winnerSet 88 = .ok (.iload 4, 2) := by decide +kernel
theorem dc_K_winnerSet_90 : decode cb_K_winnerSet 90 = .ok (.iload 5, 2) := by decide +kernel
theorem dc_K_winnerSet_92 : decode cb_K_winnerSet 92 = .ok (.aload_n 1, 1) := by decide +kernel
theorem dc_K_winnerSet_93 : decode cb_K_winnerSet 93 = .ok (.getfield 47, 3) := by decide +kernel
theorem dc_K_winnerSet_96 : decode cb_K_winnerSet 96 = .ok (.invokevirtual 50, 3) := by decide +kernel
theorem dc_K_winnerSet_99 : decode cb_K_winnerSet 99 = .ok (.iload_n 2, 1) := by decide +kernel
theorem dc_K_winnerSet_100 : decode cb_K_winnerSet 100 = .ok (.iconst 1, 1) := by decide +kernel
theorem dc_K_winnerSet_101 : decode cb_K_winnerSet 101 = .ok (.iload 5, 2) := by decide +kernel
theorem dc_K_winnerSet_103 : decode cb_K_winnerSet 103 = .ok (.ishl, 1) := by decide +kernel
theorem dc_K_winnerSet_104 : decode cb_K_winnerSet 104 = .ok (.iconst (-1), 1) := by decide +kernel
theorem dc_K_winnerSet_105 : decode cb_K_winnerSet 105 = .ok (.ixor, 1) := by decide +kernel
theorem dc_K_winnerSet_106 : decode cb_K_winnerSet 106 = .ok (.iand, 1) := by decide +kernel
theorem dc_K_winnerSet_107 : decode cb_K_winnerSet 107 = .ok (.istore_n 2, 1) := by decide +kernel
theorem dc_K_winnerSet_108 : decode cb_K_winnerSet 108 = .ok (.iinc 3 1, 3) := by decide +kernel
theorem dc_K_winnerSet_111 : decode cb_K_winnerSet 111 = .ok (.goto (-91), 3) := by decide +kernel
theorem dc_K_winnerSet_114 : decode cb_K_winnerSet 114 = .ok (.iload_n 2, 1) := by decide +kernel
theorem dc_K_winnerSet_115 : decode cb_K_winnerSet 115 = .ok (.ireturn, 1) := by decide +kernel
theorem dc_K_collect_0 : decode cb_K_collect 0 = .ok (.aload_n 0, 1) := by decide +kernel
theorem dc_K_collect_1 : decode cb_K_collect 1 = .ok (.iconst 0, 1) := by decide +kernel
theorem dc_K_collect_2 : decode cb_K_collect 2 = .ok (.putfield 34, 3) := by decide +kernel
theorem dc_K_collect_5 : decode cb_K_collect 5 = .ok (.iconst 0, 1) := by decide +kernel
theorem dc_K_collect_6 : decode cb_K_collect 6 = .ok (.istore_n 2, 1) := by decide +kernel
theorem dc_K_collect_7 : decode cb_K_collect 7 = .ok (.iload_n 2, 1) := by decide +kernel
theorem dc_K_collect_8 : decode cb_K_collect 8 = .ok (.aload_n 1, 1) := by decide +kernel
theorem dc_K_collect_9 : decode cb_K_collect 9 = .ok (.getfield 47, 3) := by decide +kernel
theorem dc_K_collect_12 : decode cb_K_collect 12 = .ok (.if_icmp .ge 86, 3) := by decide +kernel
theorem dc_K_collect_15 : decode cb_K_collect 15 = .ok (.aload_n 1, 1) := by decide +kernel
theorem dc_K_collect_16 : decode cb_K_collect 16 = .ok (.getfield 38, 3) := by decide +kernel
theorem dc_K_collect_19 : decode cb_K_collect 19 = .ok (.iload_n 2, 1) := by decide +kernel
theorem dc_K_collect_20 : decode cb_K_collect 20 = .ok (.invokestatic 41, 3) := by decide +kernel
theorem dc_K_collect_23 : decode cb_K_collect 23 = .ok (.istore_n 3, 1) := by decide +kernel
theorem dc_K_collect_24 : decode cb_K_collect 24 = .ok (.iconst 0, 1) := by decide +kernel
theorem dc_K_collect_25 : decode cb_K_collect 25 = .ok (.istore 4, 2) := by decide +kernel
theorem dc_K_collect_27 : decode cb_K_collect 27 = .ok (.iload 4, 2) := by decide +kernel
theorem dc_K_collect_29 : decode cb_K_collect 29 = .ok (.aload_n 1, 1) := by decide +kernel
theorem dc_K_collect_30 : decode cb_K_collect 30 = .ok (.getfield 47, 3) := by decide +kernel
theorem dc_K_collect_33 : decode cb_K_collect 33 = .ok (.if_icmp .ge 59, 3) := by decide +kernel
theorem dc_K_collect_36 : decode cb_K_collect 36 = .ok (.aload_n 1, 1) := by decide +kernel
theorem dc_K_collect_37 : decode cb_K_collect 37 = .ok (.getfield 38, 3) := by decide +kernel
theorem dc_K_collect_40 : decode cb_K_collect 40 = .ok (.iload 4, 2) := by decide +kernel
theorem dc_K_collect_42 : decode cb_K_collect 42 = .ok (.invokestatic 41, 3) := by decide +kernel
theorem dc_K_collect_45 : decode cb_K_collect 45 = .ok (.istore 5, 2) := by decide +kernel
theorem dc_K_collect_47 : decode cb_K_collect 47 = .ok (.aload_n 1, 1) := by decide +kernel
theorem dc_K_collect_48 : decode cb_K_collect 48 = .ok (.iload_n 3, 1) := by decide +kernel
theorem dc_K_collect_49 : decode cb_K_collect 49 = .ok (.iload 5, 2) := by decide +kernel
theorem dc_K_collect_51 : decode cb_K_collect 51 = .ok (.invokevirtual 54, 3) := by decide +kernel
theorem dc_K_collect_54 : decode cb_K_collect 54 = .ok (.ifCond .eq 32, 3) := by decide +kernel
theorem dc_K_collect_57 : decode cb_K_collect 57 = .ok (.aload_n 0, 1) := by decide +kernel
theorem dc_K_collect_58 : decode cb_K_collect 58 = .ok (.aload_n 1, 1) := by decide +kernel
theorem dc_K_collect_59 : decode cb_K_collect 59 = .ok (.getfield 58, 3) := by decide +kernel
theorem dc_K_collect_62 : decode cb_K_collect 62 = .ok (.iload_n 3, 1) := by decide +kernel
theorem dc_K_collect_63 : decode cb_K_collect 63 = .ok (.aaload, 1) := by decide +kernel
theorem dc_K_collect_64 : decode cb_K_collect 64 = .ok (.iload 5, 2) := by decide +kernel
theorem dc_K_collect_66 : decode cb_K_collect 66 = .ok (.iaload, 1) := by decide +kernel
theorem dc_K_collect_67 : decode cb_K_collect 67 = .ok (.bipush 6, 2) := by decide +kernel
theorem dc_K_collect_69 : decode cb_K_collect 69 = .ok (.ishl, 1) := by decide +kernel
theorem dc_K_collect_70 : decode cb_K_collect 70 = .ok (.bipush 7, 2) := by decide +kernel
theorem dc_K_collect_72 : decode cb_K_collect 72 = .ok (.iload_n 2, 1) := by decide +kernel
theorem dc_K_collect_73 : decode cb_K_collect 73 = .ok (.isub, 1) := by decide +kernel
theorem dc_K_collect_74 : decode cb_K_collect 74 = .ok (.iconst 3, 1) := by decide +kernel
theorem dc_K_collect_75 : decode cb_K_collect 75 = .ok (.ishl, 1) := by decide +kernel
theorem dc_K_collect_76 : decode cb_K_collect 76 = .ok (.ior, 1) := by decide +kernel
theorem dc_K_collect_77 : decode cb_K_collect 77 = .ok (.bipush 7, 2) := by decide +kernel
theorem dc_K_collect_79 : decode cb_K_collect 79 = .ok (.iload 4, 2) := by decide +kernel
theorem dc_K_collect_81 : decode cb_K_collect 81 = .ok (.isub, 1) := by decide +kernel
theorem dc_K_collect_82 : decode cb_K_collect 82 = .ok (.ior, 1) := by decide +kernel
theorem dc_K_collect_83 : decode cb_K_collect 83 = .ok (.invokevirtual 62, 3) := by decide +kernel
theorem dc_K_collect_86 : decode cb_K_collect 86 = .ok (.iinc 4 1, 3) := by decide +kernel
theorem dc_K_collect_89 : decode cb_K_collect 89 = .ok (.goto (-62), 3) := by decide +kernel
theorem dc_K_collect_92 : decode cb_K_collect 92 = .ok (.iinc 2 1, 3) := by decide +kernel
theorem dc_K_collect_95 : decode cb_K_collect 95 = .ok (.goto (-88), 3) := by decide +kernel
theorem dc_K_collect_98 : decode cb_K_collect 98 = .ok (.return_, 1) := by decide +kernel
theorem dc_K_insert_0 : decode cb_K_insert 0 = .ok (.aload_n 0, 1) := by decide +kernel
theorem dc_K_insert_1 : decode cb_K_insert 1 = .ok (.getfield 34, 3) := by decide +kernel
theorem dc_K_insert_4 : decode cb_K_insert 4 = .ok (.istore_n 2, 1) := by decide +kernel
theorem dc_K_insert_5 : decode cb_K_insert 5 = .ok (.iload_n 2, 1) := by decide +kernel
theorem dc_K_insert_6 : decode cb_K_insert 6 = .ok (.ifCond .le 35, 3) := by decide +kernel
theorem dc_K_insert_9 : decode cb_K_insert 9 = .ok (.aload_n 0, 1) := by decide +kernel
theorem dc_K_insert_10 : decode cb_K_insert 10 = .ok (.getfield 9, 3) := by decide +kernel
theorem dc_K_insert_13 : decode cb_K_insert 13 = .ok (.iload_n 2, 1) := by decide +kernel
theorem dc_K_insert_14 : decode cb_K_insert 14 = .ok (.iconst 1, 1) := by decide +kernel
theorem dc_K_insert_15 : decode cb_K_insert 15 = .ok (.isub, 1) := by decide +kernel
theorem dc_K_insert_16 : decode cb_K_insert 16 = .ok (.iaload, 1) := by decide +kernel
theorem dc_K_insert_17 : decode cb_K_insert 17 = .ok (.iload_n 1, 1) := by decide +kernel
theorem dc_K_insert_18 : decode cb_K_insert 18 = .ok (.if_icmp .ge 23, 3) := by decide +kernel
theorem dc_K_insert_21 : decode cb_K_insert 21 = .ok (.aload_n 0, 1) := by decide +kernel
theorem dc_K_insert_22 : decode cb_K_insert 22 = .ok (.getfield 9, 3) := by decide +kernel
theorem dc_K_insert_25 : decode cb_K_insert 25 = .ok (.iload_n 2, 1) := by decide +kernel
theorem dc_K_insert_26 : decode cb_K_insert 26 = .ok (.aload_n 0, 1) := by decide +kernel
theorem dc_K_insert_27 : decode cb_K_insert 27 = .ok (.getfield 9, 3) := by decide +kernel
theorem dc_K_insert_30 : decode cb_K_insert 30 = .ok (.iload_n 2, 1) := by decide +kernel
theorem dc_K_insert_31 : decode cb_K_insert 31 = .ok (.iconst 1, 1) := by decide +kernel
theorem dc_K_insert_32 : decode cb_K_insert 32 = .ok (.isub, 1) := by decide +kernel
theorem dc_K_insert_33 : decode cb_K_insert 33 = .ok (.iaload, 1) := by decide +kernel
theorem dc_K_insert_34 : decode cb_K_insert 34 = .ok (.iastore, 1) := by decide +kernel
theorem dc_K_insert_35 : decode cb_K_insert 35 = .ok (.iinc 2 (-1), 3) := by decide +kernel
theorem dc_K_insert_38 : decode cb_K_insert 38 = .ok (.goto (-33), 3) := by decide +kernel
theorem dc_K_insert_41 : decode cb_K_insert 41 = .ok (.aload_n 0, 1) := by decide +kernel
theorem dc_K_insert_42 : decode cb_K_insert 42 = .ok (.getfield 9, 3) := by decide +kernel
theorem dc_K_insert_45 : decode cb_K_insert 45 = .ok (.iload_n 2, 1) := by decide +kernel
theorem dc_K_insert_46 : decode cb_K_insert 46 = .ok (.iload_n 1, 1) := by decide +kernel
theorem dc_K_insert_47 : decode cb_K_insert 47 = .ok (.iastore, 1) := by decide +kernel
theorem dc_K_insert_48 : decode cb_K_insert 48 = .ok (.aload_n 0, 1) := by decide +kernel
theorem dc_K_insert_49 : decode cb_K_insert 49 = .ok (.dup, 1) := by decide +kernel
theorem dc_K_insert_50 : decode cb_K_insert 50 = .ok (.getfield 34, 3) := by decide +kernel
theorem dc_K_insert_53 : decode cb_K_insert 53 = .ok (.iconst 1, 1) := by decide +kernel
theorem dc_K_insert_54 : decode cb_K_insert 54 = .ok (.iadd, 1) := by decide +kernel
theorem dc_K_insert_55 : decode cb_K_insert 55 = .ok (.putfield 34, 3) := by decide +kernel
theorem dc_K_insert_58 : decode cb_K_insert 58 = .ok (.return_, 1) := by decide +kernel
theorem dc_K_lock_0 : decode cb_K_lock 0 = .ok (.aload_n 0, 1) := by decide +kernel
theorem dc_K_lock_1 : decode cb_K_lock 1 = .ok (.getfield 15, 3) := by decide +kernel
theorem dc_K_lock_4 : decode cb_K_lock 4 = .ok (.iload_n 2, 1) := by decide +kernel
theorem dc_K_lock_5 : decode cb_K_lock 5 = .ok (.iaload, 1) := by decide +kernel
theorem dc_K_lock_6 : decode cb_K_lock 6 = .ok (.iconst 1, 1) := by decide +kernel
theorem dc_K_lock_7 : decode cb_K_lock 7 = .ok (.iload_n 2, 1) := by decide +kernel
theorem dc_K_lock_8 : decode cb_K_lock 8 = .ok (.ishl, 1) := by decide +kernel
theorem dc_K_lock_9 : decode cb_K_lock 9 = .ok (.ior, 1) := by decide +kernel
theorem dc_K_lock_10 : decode cb_K_lock 10 = .ok (.istore 4, 2) := by decide +kernel
theorem dc_K_lock_12 : decode cb_K_lock 12 = .ok (.iconst 0, 1) := by decide +kernel
theorem dc_K_lock_13 : decode cb_K_lock 13 = .ok (.istore 5, 2) := by decide +kernel
theorem dc_K_lock_15 : decode cb_K_lock 15 = .ok (.iload 5, 2) := by decide +kernel
theorem dc_K_lock_17 : decode cb_K_lock 17 = .ok (.iload_n 3, 1) := by decide +kernel
theorem dc_K_lock_18 : decode cb_K_lock 18 = .ok (.if_icmp .ge 41, 3) := by decide +kernel
theorem dc_K_lock_21 : decode cb_K_lock 21 = .ok (.iload 5, 2) := by decide +kernel
theorem dc_K_lock_23 : decode cb_K_lock 23 = .ok (.iload_n 1, 1) := by decide +kernel
theorem dc_K_lock_24 : decode cb_K_lock 24 = .ok (.if_icmp .eq 17, 3) := by decide +kernel
theorem dc_K_lock_27 : decode cb_K_lock 27 = .ok (.aload_n 0, 1) := by decide +kernel
theorem dc_K_lock_28 : decode cb_K_lock 28 = .ok (.getfield 15, 3) := by decide +kernel
theorem dc_K_lock_31 : decode cb_K_lock 31 = .ok (.iload 5, 2) := by decide +kernel
theorem dc_K_lock_33 : decode cb_K_lock 33 = .ok (.iaload, 1) := by decide +kernel
theorem dc_K_lock_34 : decode cb_K_lock 34 = .ok (.iload_n 1, 1) := by decide +kernel
theorem dc_K_lock_35 : decode cb_K_lock 35 = .ok (.ishr, 1) := by decide +kernel
theorem dc_K_lock_36 : decode cb_K_lock 36 = .ok (.iconst 1, 1) := by decide +kernel
theorem dc_K_lock_37 : decode cb_K_lock 37 = .ok (.iand, 1) := by decide +kernel
theorem dc_K_lock_38 : decode cb_K_lock 38 = .ok (.ifCond .eq 15, 3) := by decide +kernel
theorem dc_K_lock_41 : decode cb_K_lock 41 = .ok (.aload_n 0, 1) := by decide +kernel
theorem dc_K_lock_42 : decode cb_K_lock 42 = .ok (.getfield 15, 3) := by decide +kernel
theorem dc_K_lock_45 : decode cb_K_lock 45 = .ok (.iload 5, 2) := by decide +kernel
theorem dc_K_lock_47 : decode cb_K_lock 47 = .ok (.dup2, 1) := by decide +kernel
theorem dc_K_lock_48 : decode cb_K_lock 48 = .ok (.iaload, 1) := by decide +kernel
theorem dc_K_lock_49 : decode cb_K_lock 49 = .ok (.iload 4, 2) := by decide +kernel
theorem dc_K_lock_51 : decode cb_K_lock 51 = .ok (.ior, 1) := by decide +kernel
theorem dc_K_lock_52 : decode cb_K_lock 52 = .ok (.iastore, 1) := by decide +kernel
theorem dc_K_lock_53 : decode cb_K_lock 53 = .ok (.iinc 5 1, 3) := by decide +kernel
theorem dc_K_lock_56 : decode cb_K_lock 56 = .ok (.goto (-41), 3) := by decide +kernel
theorem dc_K_lock_59 : decode cb_K_lock 59 = .ok (.return_, 1) := by decide +kernel
theorem dc_O_at_0 : decode cb_O_at 0 = .ok (.iload_n 0, 1) := by decide +kernel
theorem dc_O_at_1 : decode cb_O_at 1 = .ok (.iconst 3, 1) := by decide +kernel
theorem dc_O_at_2 : decode cb_O_at 2 = .ok (.iload_n 1, 1) := by decide +kernel
theorem dc_O_at_3 : decode cb_O_at 3 = .ok (.imul, 1) := by decide +kernel
theorem dc_O_at_4 : decode cb_O_at 4 = .ok (.ishr, 1) := by decide +kernel
theorem dc_O_at_5 : decode cb_O_at 5 = .ok (.bipush 7, 2) := by decide +kernel
theorem dc_O_at_7 : decode cb_O_at 7 = .ok (.iand, 1) := by decide +kernel
theorem dc_O_at_8 : decode cb_O_at 8 = .ok (.ireturn, 1) := by decide +kernel
theorem dc_O_isOne_0 : decode cb_O_isOne 0 = .ok (.iload_n 0, 1) := by decide +kernel
theorem dc_O_isOne_1 : decode cb_O_isOne 1 = .ok (.ifCond .lt 11, 3) := by decide +kernel
theorem dc_O_isOne_4 : decode cb_O_isOne 4 = .ok (.iload_n 0, 1) := by decide +kernel
theorem dc_O_isOne_5 : decode cb_O_isOne 5 = .ok (.iconst 3, 1) := by decide +kernel
theorem dc_O_isOne_6 : decode cb_O_isOne 6 = .ok (.iload_n 1, 1) := by decide +kernel
theorem dc_O_isOne_7 : decode cb_O_isOne 7 = .ok (.imul, 1) := by decide +kernel
theorem dc_O_isOne_8 : decode cb_O_isOne 8 = .ok (.ishr, 1) := by decide +kernel
theorem dc_O_isOne_9 : decode cb_O_isOne 9 = .ok (.ifCond .eq 5, 3) := by decide +kernel
theorem dc_O_isOne_12 : decode cb_O_isOne 12 = .ok (.iconst 0, 1) := by decide +kernel
theorem dc_O_isOne_13 : decode cb_O_isOne 13 = .ok (.ireturn, 1) := by decide +kernel
theorem dc_O_isOne_14 : decode cb_O_isOne 14 = .ok (.iconst 0, 1) := by decide +kernel
theorem dc_O_isOne_15 : decode cb_O_isOne 15 = .ok (.istore_n 2, 1) := by decide +kernel
theorem dc_O_isOne_16 : decode cb_O_isOne 16 = .ok (.iconst 0, 1) := by decide +kernel
theorem dc_O_isOne_17 : decode cb_O_isOne 17 = .ok (.istore_n 3, 1) := by decide +kernel
theorem dc_O_isOne_18 : decode cb_O_isOne 18 = .ok (.iload_n 3, 1) := by decide +kernel
theorem dc_O_isOne_19 : decode cb_O_isOne 19 = .ok (.iload_n 1, 1) := by decide +kernel
theorem dc_O_isOne_20 : decode cb_O_isOne 20 = .ok (.if_icmp .ge 19, 3) := by decide +kernel
theorem dc_O_isOne_23 : decode cb_O_isOne 23 = .ok (.iload_n 2, 1) := by decide +kernel
theorem dc_O_isOne_24 : decode cb_O_isOne 24 = .ok (.iconst 1, 1) := by decide +kernel
theorem dc_O_isOne_25 : decode cb_O_isOne 25 = .ok (.iload_n 0, 1) := by decide +kernel
theorem dc_O_isOne_26 : decode cb_O_isOne 26 = .ok (.iload_n 3, 1) := by decide +kernel
theorem dc_O_isOne_27 : decode cb_O_isOne 27 = .ok (.invokestatic 7, 3) := by decide +kernel
theorem dc_O_isOne_30 : decode cb_O_isOne 30 = .ok (.ishl, 1) := by decide +kernel
theorem dc_O_isOne_31 : decode cb_O_isOne 31 = .ok (.ior, 1) := by decide +kernel
theorem dc_O_isOne_32 : decode cb_O_isOne 32 = .ok (.istore_n 2, 1) := by decide +kernel
theorem dc_O_isOne_33 : decode cb_O_isOne 33 = .ok (.iinc 3 1, 3) := by decide +kernel
theorem dc_O_isOne_36 : decode cb_O_isOne 36 = .ok (.goto (-18), 3) := by decide +kernel
theorem dc_O_isOne_39 : decode cb_O_isOne 39 = .ok (.iload_n 2, 1) := by decide +kernel
theorem dc_O_isOne_40 : decode cb_O_isOne 40 = .ok (.iconst 1, 1) := by decide +kernel
theorem dc_O_isOne_41 : decode cb_O_isOne 41 = .ok (.iload_n 1, 1) := by decide +kernel
theorem dc_O_isOne_42 : decode cb_O_isOne 42 = .ok (.ishl, 1) := by decide +kernel
theorem dc_O_isOne_43 : decode cb_O_isOne 43 = .ok (.iconst 1, 1) := by decide +kernel
theorem dc_O_isOne_44 : decode cb_O_isOne 44 = .ok (.isub, 1) := by decide +kernel
theorem dc_O_isOne_45 : decode cb_O_isOne 45 = .ok (.if_icmp .ne 7, 3) := by decide +kernel
theorem dc_O_isOne_48 : decode cb_O_isOne 48 = .ok (.iconst 1, 1) := by decide +kernel
theorem dc_O_isOne_49 : decode cb_O_isOne 49 = .ok (.goto 4, 3) := by decide +kernel
theorem dc_O_isOne_52 : decode cb_O_isOne 52 = .ok (.iconst 0, 1) := by decide +kernel
theorem dc_O_isOne_53 : decode cb_O_isOne 53 = .ok (.ireturn, 1) := by decide +kernel
theorem dc_O_ascending_0 : decode cb_O_ascending 0 = .ok (.iconst 0, 1) := by decide +kernel
theorem dc_O_ascending_1 : decode cb_O_ascending 1 = .ok (.istore_n 1, 1) := by decide +kernel
theorem dc_O_ascending_2 : decode cb_O_ascending 2 = .ok (.iconst 0, 1) := by decide +kernel
theorem dc_O_ascending_3 : decode cb_O_ascending 3 = .ok (.istore_n 2, 1) := by decide +kernel
theorem dc_O_ascending_4 : decode cb_O_ascending 4 = .ok (.iload_n 2, 1) := by decide +kernel
theorem dc_O_ascending_5 : decode cb_O_ascending 5 = .ok (.iload_n 0, 1) := by decide +kernel
theorem dc_O_ascending_6 : decode cb_O_ascending 6 = .ok (.if_icmp .ge 17, 3) := by decide +kernel
theorem dc_O_ascending_9 : decode cb_O_ascending 9 = .ok (.iload_n 1, 1) := by decide +kernel
theorem dc_O_ascending_10 : decode cb_O_ascending 10 = .ok (.iload_n 2, 1) := by decide +kernel
theorem dc_O_ascending_11 : decode cb_O_ascending 11 = .ok (.iconst 3, 1) := by decide +kernel
theorem dc_O_ascending_12 : decode cb_O_ascending 12 = .ok (.iload_n 2, 1) := by decide +kernel
theorem dc_O_ascending_13 : decode cb_O_ascending 13 = .ok (.imul, 1) := by decide +kernel
theorem dc_O_ascending_14 : decode cb_O_ascending 14 = .ok (.ishl, 1) := by decide +kernel
theorem dc_O_ascending_15 : decode cb_O_ascending 15 = .ok (.ior, 1) := by decide +kernel
theorem dc_O_ascending_16 : decode cb_O_ascending 16 = .ok (.istore_n 1, 1) := by decide +kernel
theorem dc_O_ascending_17 : decode cb_O_ascending 17 = .ok (.iinc 2 1, 3) := by decide +kernel
theorem dc_O_ascending_20 : decode cb_O_ascending 20 = .ok (.goto (-16), 3) := by decide +kernel
theorem dc_O_ascending_23 : decode cb_O_ascending 23 = .ok (.iload_n 1, 1) := by decide +kernel
theorem dc_O_ascending_24 : decode cb_O_ascending 24 = .ok (.ireturn, 1) := by decide +kernel
theorem dc_O_placeOf_0 : decode cb_O_placeOf 0 = .ok (.iconst 0, 1) := by decide +kernel
theorem dc_O_placeOf_1 : decode cb_O_placeOf 1 = .ok (.istore_n 3, 1) := by decide +kernel
theorem dc_O_placeOf_2 : decode cb_O_placeOf 2 = .ok (.iload_n 3, 1) := by decide +kernel
theorem dc_O_placeOf_3 : decode cb_O_placeOf 3 = .ok (.iload_n 2, 1) := by decide +kernel
theorem dc_O_placeOf_4 : decode cb_O_placeOf 4 = .ok (.if_icmp .ge 20, 3) := by decide +kernel
theorem dc_O_placeOf_7 : decode cb_O_placeOf 7 = .ok (.iload_n 0, 1) := by decide +kernel
theorem dc_O_placeOf_8 : decode cb_O_placeOf 8 = .ok (.iload_n 3, 1) := by decide +kernel
theorem dc_O_placeOf_9 : decode cb_O_placeOf 9 = .ok (.invokestatic 7, 3) := by decide +kernel
theorem dc_O_placeOf_12 : decode cb_O_placeOf 12 = .ok (.iload_n 1, 1) := by decide +kernel
theorem dc_O_placeOf_13 : decode cb_O_placeOf 13 = .ok (.if_icmp .ne 5, 3) := by decide +kernel
theorem dc_O_placeOf_16 : decode cb_O_placeOf 16 = .ok (.iload_n 3, 1) := by decide +kernel
theorem dc_O_placeOf_17 : decode cb_O_placeOf 17 = .ok (.ireturn, 1) := by decide +kernel
theorem dc_O_placeOf_18 : decode cb_O_placeOf 18 = .ok (.iinc 3 1, 3) := by decide +kernel
theorem dc_O_placeOf_21 : decode cb_O_placeOf 21 = .ok (.goto (-19), 3) := by decide +kernel
