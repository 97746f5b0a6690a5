theorem dc_M_path_21 : decode cb_M_path 21 = .ok (.iconst 0, 1) := by decide +kernel
theorem dc_M_path_22 : decode cb_M_path 22 = .ok (.iconst 1, 1) := by decide +kernel
theorem dc_M_path_23 : decode cb_M_path 23 = .ok (.invokevirtual 86, 3) := by decide +kernel
theorem dc_M_path_26 : decode cb_M_path 26 = .ok (.ifCond .ne 5, 3) := by decide +kernel
theorem dc_M_path_29 : decode cb_M_path 29 = .ok (.iconst 0, 1) := by decide +kernel
theorem dc_M_path_30 : decode cb_M_path 30 = .ok (.ireturn, 1) := by decide +kernel
theorem dc_M_path_31 : decode cb_M_path 31 = .ok (.aload_n 0, 1) := by decide +kernel
theorem dc_M_path_32 : decode cb_M_path 32 = .ok (.invokevirtual 193, 3) := by decide +kernel
theorem dc_M_path_35 : decode cb_M_path 35 = .ok (.aload_n 0, 1) := by decide +kernel
theorem dc_M_path_36 : decode cb_M_path 36 = .ok (.invokevirtual 162, 3) := by decide +kernel
theorem dc_M_path_39 : decode cb_M_path 39 = .ok (.aload_n 0, 1) := by decide +kernel
theorem dc_M_path_40 : decode cb_M_path 40 = .ok (.invokevirtual 143, 3) := by decide +kernel
theorem dc_M_path_43 : decode cb_M_path 43 = .ok (.iload_n 1, 1) := by decide +kernel
theorem dc_M_path_44 : decode cb_M_path 44 = .ok (.iload_n 2, 1) := by decide +kernel
theorem dc_M_path_45 : decode cb_M_path 45 = .ok (.if_icmp .ne 7, 3) := by decide +kernel
theorem dc_M_path_48 : decode cb_M_path 48 = .ok (.iconst 0, 1) := by decide +kernel
theorem dc_M_path_49 : decode cb_M_path 49 = .ok (.goto 14, 3) := by decide +kernel
theorem dc_M_path_52 : decode cb_M_path 52 = .ok (.aload_n 0, 1) := by decide +kernel
theorem dc_M_path_53 : decode cb_M_path 53 = .ok (.getfield 47, 3) := by decide +kernel
theorem dc_M_path_56 : decode cb_M_path 56 = .ok (.bipush 7, 2) := by decide +kernel
theorem dc_M_path_58 : decode cb_M_path 58 = .ok (.iload_n 1, 1) := by decide +kernel
theorem dc_M_path_59 : decode cb_M_path 59 = .ok (.imul, 1) := by decide +kernel
theorem dc_M_path_60 : decode cb_M_path 60 = .ok (.iload_n 2, 1) := by decide +kernel
theorem dc_M_path_61 : decode cb_M_path 61 = .ok (.iadd, 1) := by decide +kernel
theorem dc_M_path_62 : decode cb_M_path 62 = .ok (.iaload, 1) := by decide +kernel
theorem dc_M_path_63 : decode cb_M_path 63 = .ok (.ireturn, 1) := by decide +kernel
theorem dc_M_branches_0 : decode cb_M_branches 0 = .ok (.aload_n 0, 1) := by decide +kernel
theorem dc_M_branches_1 : decode cb_M_branches 1 = .ok (.iconst 0, 1) := by decide +kernel
theorem dc_M_branches_2 : decode cb_M_branches 2 = .ok (.putfield 79, 3) := by decide +kernel
theorem dc_M_branches_5 : decode cb_M_branches 5 = .ok (.aload_n 0, 1) := by decide +kernel
theorem dc_M_branches_6 : decode cb_M_branches 6 = .ok (.invokevirtual 193, 3) := by decide +kernel
theorem dc_M_branches_9 : decode cb_M_branches 9 = .ok (.aload_n 0, 1) := by decide +kernel
theorem dc_M_branches_10 : decode cb_M_branches 10 = .ok (.iconst 4, 1) := by decide +kernel
theorem dc_M_branches_11 : decode cb_M_branches 11 = .ok (.invokevirtual 196, 3) := by decide +kernel
theorem dc_M_branches_14 : decode cb_M_branches 14 = .ok (.istore_n 1, 1) := by decide +kernel
theorem dc_M_branches_15 : decode cb_M_branches 15 = .ok (.iconst 0, 1) := by decide +kernel
theorem dc_M_branches_16 : decode cb_M_branches 16 = .ok (.istore_n 2, 1) := by decide +kernel
theorem dc_M_branches_17 : decode cb_M_branches 17 = .ok (.iconst 1, 1) := by decide +kernel
theorem dc_M_branches_18 : decode cb_M_branches 18 = .ok (.istore_n 3, 1) := by decide +kernel
theorem dc_M_branches_19 : decode cb_M_branches 19 = .ok (.iload_n 3, 1) := by decide +kernel
theorem dc_M_branches_20 : decode cb_M_branches 20 = .ok (.aload_n 0, 1) := by decide +kernel
theorem dc_M_branches_21 : decode cb_M_branches 21 = .ok (.invokevirtual 115, 3) := by decide +kernel
theorem dc_M_branches_24 : decode cb_M_branches 24 = .ok (.if_icmp .gt 26, 3) := by decide +kernel
theorem dc_M_branches_27 : decode cb_M_branches 27 = .ok (.aload_n 0, 1) := by decide +kernel
theorem dc_M_branches_28 : decode cb_M_branches 28 = .ok (.getfield 54, 3) := by decide +kernel
theorem dc_M_branches_31 : decode cb_M_branches 31 = .ok (.iload_n 3, 1) := by decide +kernel
theorem dc_M_branches_32 : decode cb_M_branches 32 = .ok (.baload, 1) := by decide +kernel
theorem dc_M_branches_33 : decode cb_M_branches 33 = .ok (.ifCond .eq 9, 3) := by decide +kernel
theorem dc_M_branches_36 : decode cb_M_branches 36 = .ok (.iload_n 2, 1) := by decide +kernel
theorem dc_M_branches_37 : decode cb_M_branches 37 = .ok (.iconst 1, 1) := by decide +kernel
theorem dc_M_branches_38 : decode cb_M_branches 38 = .ok (.iadd, 1) := by decide +kernel
theorem dc_M_branches_39 : decode cb_M_branches 39 = .ok (.goto 4, 3) := by decide +kernel
theorem dc_M_branches_42 : decode cb_M_branches 42 = .ok (.iload_n 2, 1) := by decide +kernel
theorem dc_M_branches_43 : decode cb_M_branches 43 = .ok (.istore_n 2, 1) := by decide +kernel
theorem dc_M_branches_44 : decode cb_M_branches 44 = .ok (.iinc 3 1, 3) := by decide +kernel
theorem dc_M_branches_47 : decode cb_M_branches 47 = .ok (.goto (-28), 3) := by decide +kernel
theorem dc_M_branches_50 : decode cb_M_branches 50 = .ok (.iload_n 2, 1) := by decide +kernel
theorem dc_M_branches_51 : decode cb_M_branches 51 = .ok (.ireturn, 1) := by decide +kernel
theorem dc_M_step_0 : decode cb_M_step 0 = .ok (.aload_n 0, 1) := by decide +kernel
theorem dc_M_step_1 : decode cb_M_step 1 = .ok (.iload_n 1, 1) := by decide +kernel
theorem dc_M_step_2 : decode cb_M_step 2 = .ok (.iconst 0, 1) := by decide +kernel
theorem dc_M_step_3 : decode cb_M_step 3 = .ok (.aload_n 0, 1) := by decide +kernel
theorem dc_M_step_4 : decode cb_M_step 4 = .ok (.getfield 7, 3) := by decide +kernel
theorem dc_M_step_7 : decode cb_M_step 7 = .ok (.iconst 1, 1) := by decide +kernel
theorem dc_M_step_8 : decode cb_M_step 8 = .ok (.isub, 1) := by decide +kernel
theorem dc_M_step_9 : decode cb_M_step 9 = .ok (.invokestatic 82, 3) := by decide +kernel
theorem dc_M_step_12 : decode cb_M_step 12 = .ok (.iconst 1, 1) := by decide +kernel
theorem dc_M_step_13 : decode cb_M_step 13 = .ok (.invokevirtual 86, 3) := by decide +kernel
theorem dc_M_step_16 : decode cb_M_step 16 = .ok (.ifCond .ne 5, 3) := by decide +kernel
theorem dc_M_step_19 : decode cb_M_step 19 = .ok (.iconst 0, 1) := by decide +kernel
theorem dc_M_step_20 : decode cb_M_step 20 = .ok (.ireturn, 1) := by decide +kernel
theorem dc_M_step_21 : decode cb_M_step 21 = .ok (.aload_n 0, 1) := by decide +kernel
theorem dc_M_step_22 : decode cb_M_step 22 = .ok (.invokevirtual 193, 3) := by decide +kernel
theorem dc_M_step_25 : decode cb_M_step 25 = .ok (.aload_n 0, 1) := by decide +kernel
theorem dc_M_step_26 : decode cb_M_step 26 = .ok (.invokevirtual 115, 3) := by decide +kernel
theorem dc_M_step_29 : decode cb_M_step 29 = .ok (.istore_n 2, 1) := by decide +kernel
theorem dc_M_step_30 : decode cb_M_step 30 = .ok (.iconst (-1), 1) := by decide +kernel
theorem dc_M_step_31 : decode cb_M_step 31 = .ok (.istore_n 3, 1) := by decide +kernel
theorem dc_M_step_32 : decode cb_M_step 32 = .ok (.iconst 0, 1) := by decide +kernel
theorem dc_M_step_33 : decode cb_M_step 33 = .ok (.istore 4, 2) := by decide +kernel
theorem dc_M_step_35 : decode cb_M_step 35 = .ok (.iload 4, 2) := by decide +kernel
theorem dc_M_step_37 : decode cb_M_step 37 = .ok (.iload_n 1, 1) := by decide +kernel
theorem dc_M_step_38 : decode cb_M_step 38 = .ok (.if_icmp .gt 70, 3) := by decide +kernel
theorem dc_M_step_41 : decode cb_M_step 41 = .ok (.aload_n 0, 1) := by decide +kernel
theorem dc_M_step_42 : decode cb_M_step 42 = .ok (.iload_n 2, 1) := by decide +kernel
theorem dc_M_step_43 : decode cb_M_step 43 = .ok (.invokevirtual 139, 3) := by decide +kernel
theorem dc_M_step_46 : decode cb_M_step 46 = .ok (.istore 5, 2) := by decide +kernel
theorem dc_M_step_48 : decode cb_M_step 48 = .ok (.iconst 0, 1) := by decide +kernel
theorem dc_M_step_49 : decode cb_M_step 49 = .ok (.istore 6, 2) := by decide +kernel
theorem dc_M_step_51 : decode cb_M_step 51 = .ok (.iload 6, 2) := by decide +kernel
theorem dc_M_step_53 : decode cb_M_step 53 = .ok (.aload_n 0, 1) := by decide +kernel
theorem dc_M_step_54 : decode cb_M_step 54 = .ok (.getfield 106, 3) := by decide +kernel
theorem dc_M_step_57 : decode cb_M_step 57 = .ok (.if_icmp .ge 37, 3) := by decide +kernel
theorem dc_M_step_60 : decode cb_M_step 60 = .ok (.iload 5, 2) := by decide +kernel
theorem dc_M_step_62 : decode cb_M_step 62 = .ok (.aload_n 0, 1) := by decide +kernel
theorem dc_M_step_63 : decode cb_M_step 63 = .ok (.getfield 35, 3) := by decide +kernel
theorem dc_M_step_66 : decode cb_M_step 66 = .ok (.iload 6, 2) := by decide +kernel
theorem dc_M_step_68 : decode cb_M_step 68 = .ok (.iaload, 1) := by decide +kernel
theorem dc_M_step_69 : decode cb_M_step 69 = .ok (.ishr, 1) := by decide +kernel
theorem dc_M_step_70 : decode cb_M_step 70 = .ok (.iconst 1, 1) := by decide +kernel
theorem dc_M_step_71 : decode cb_M_step 71 = .ok (.iand, 1) := by decide +kernel
theorem dc_M_step_72 : decode cb_M_step 72 = .ok (.iconst 1, 1) := by decide +kernel
theorem dc_M_step_73 : decode cb_M_step 73 = .ok (.if_icmp .ne 13, 3) := by decide +kernel
theorem dc_M_step_76 : decode cb_M_step 76 = .ok (.aload_n 0, 1) := by decide +kernel
theorem dc_M_step_77 : decode cb_M_step 77 = .ok (.getfield 35, 3) := by decide +kernel
theorem dc_M_step_80 : decode cb_M_step 80 = .ok (.iload 6, 2) := by decide +kernel
theorem dc_M_step_82 : decode cb_M_step 82 = .ok (.iaload, 1) := by decide +kernel
theorem dc_M_step_83 : decode cb_M_step 83 = .ok (.goto 4, 3) := by decide +kernel
theorem dc_M_step_86 : decode cb_M_step 86 = .ok (.iload_n 3, 1) := by decide +kernel
theorem dc_M_step_87 : decode cb_M_step 87 = .ok (.istore_n 3, 1) := by decide +kernel
theorem dc_M_step_88 : decode cb_M_step 88 = .ok (.iinc 6 1, 3) := by decide +kernel
theorem dc_M_step_91 : decode cb_M_step 91 = .ok (.goto (-40), 3) := by decide +kernel
theorem dc_M_step_94 : decode cb_M_step 94 = .ok (.iload_n 2, 1) := by decide +kernel
theorem dc_M_step_95 : decode cb_M_step 95 = .ok (.iconst 1, 1) := by decide +kernel
theorem dc_M_step_96 : decode cb_M_step 96 = .ok (.iload_n 3, 1) := by decide +kernel
theorem dc_M_step_97 : decode cb_M_step 97 = .ok (.ishl, 1) := by decide +kernel
theorem dc_M_step_98 : decode cb_M_step 98 = .ok (.iconst (-1), 1) := by decide +kernel
theorem dc_M_step_99 : decode cb_M_step 99 = .ok (.ixor, 1) := by decide +kernel
theorem dc_M_step_100 : decode cb_M_step 100 = .ok (.iand, 1) := by decide +kernel
theorem dc_M_step_101 : decode cb_M_step 101 = .ok (.istore_n 2, 1) := by decide +kernel
theorem dc_M_step_102 : decode cb_M_step 102 = .ok (.iinc 4 1, 3) := by decide +kernel
theorem dc_M_step_105 : decode cb_M_step 105 = .ok (.goto (-70), 3) := by decide +kernel
theorem dc_M_step_108 : decode cb_M_step 108 = .ok (.iload_n 3, 1) := by decide +kernel
theorem dc_M_step_109 : decode cb_M_step 109 = .ok (.ireturn, 1) := by decide +kernel
theorem dc_M_firstOrder_0 : decode cb_M_firstOrder 0 = .ok (.iconst 0, 1) := by decide +kernel
theorem dc_M_firstOrder_1 : decode cb_M_firstOrder 1 = .ok (.istore_n 1, 1) := by decide +kernel
theorem dc_M_firstOrder_2 : decode cb_M_firstOrder 2 = .ok (.iload_n 1, 1) := by decide +kernel
theorem dc_M_firstOrder_3 : decode cb_M_firstOrder 3 = .ok (.bipush 7, 2) := by decide +kernel
theorem dc_M_firstOrder_5 : decode cb_M_firstOrder 5 = .ok (.if_icmp .ge 16, 3) := by decide +kernel
theorem dc_M_firstOrder_8 : decode cb_M_firstOrder 8 = .ok (.aload_n 0, 1) := by decide +kernel
theorem dc_M_firstOrder_9 : decode cb_M_firstOrder 9 = .ok (.getfield 61, 3) := by decide +kernel
theorem dc_M_firstOrder_12 : decode cb_M_firstOrder 12 = .ok (.iload_n 1, 1) := by decide +kernel
theorem dc_M_firstOrder_13 : decode cb_M_firstOrder 13 = .ok (.iload_n 1, 1) := by decide +kernel
theorem dc_M_firstOrder_14 : decode cb_M_firstOrder 14 = .ok (.iastore, 1) := by decide +kernel
theorem dc_M_firstOrder_15 : decode cb_M_firstOrder 15 = .ok (.iinc 1 1, 3) := by decide +kernel
theorem dc_M_firstOrder_18 : decode cb_M_firstOrder 18 = .ok (.goto (-16), 3) := by decide +kernel
theorem dc_M_firstOrder_21 : decode cb_M_firstOrder 21 = .ok (.return_, 1) := by decide +kernel
theorem dc_M_nextOrder_0 : decode cb_M_nextOrder 0 = .ok (.aload_n 0, 1) := by decide +kernel
theorem dc_M_nextOrder_1 : decode cb_M_nextOrder 1 = .ok (.getfield 7, 3) := by decide +kernel
theorem dc_M_nextOrder_4 : decode cb_M_nextOrder 4 = .ok (.iconst 2, 1) := by decide +kernel
theorem dc_M_nextOrder_5 : decode cb_M_nextOrder 5 = .ok (.isub, 1) := by decide +kernel
theorem dc_M_nextOrder_6 : decode cb_M_nextOrder 6 = .ok (.istore_n 1, 1) := by decide +kernel
theorem dc_M_nextOrder_7 : decode cb_M_nextOrder 7 = .ok (.iload_n 1, 1) := by decide +kernel
theorem dc_M_nextOrder_8 : decode cb_M_nextOrder 8 = .ok (.ifCond .lt 26, 3) := by decide +kernel
theorem dc_M_nextOrder_11 : decode cb_M_nextOrder 11 = .ok (.aload_n 0, 1) := by decide +kernel
theorem dc_M_nextOrder_12 : decode cb_M_nextOrder 12 = .ok (.getfield 61, 3) := by decide +kernel
theorem dc_M_nextOrder_15 : decode cb_M_nextOrder 15 = .ok (.iload_n 1, 1) := by decide +kernel
theorem dc_M_nextOrder_16 : decode cb_M_nextOrder 16 = .ok (.iaload, 1) := by decide +kernel
theorem dc_M_nextOrder_17 : decode cb_M_nextOrder 17 = .ok (.aload_n 0, 1) := by decide +kernel
theorem dc_M_nextOrder_18 : decode cb_M_nextOrder 18 = .ok (.getfield 61, 3) := by decide +kernel
theorem dc_M_nextOrder_21 : decode cb_M_nextOrder 21 = .ok (.iload_n 1, 1) := by decide +kernel
theorem dc_M_nextOrder_22 : decode cb_M_nextOrder 22 = .ok (.iconst 1, 1) := by decide +kernel
theorem dc_M_nextOrder_23 : decode cb_M_nextOrder 23 = .ok (.iadd, 1) := by decide +kernel
theorem dc_M_nextOrder_24 : decode cb_M_nextOrder 24 = .ok (.iaload, 1) := by decide +kernel
theorem dc_M_nextOrder_25 : decode cb_M_nextOrder 25 = .ok (.if_icmp .le 9, 3) := by decide +kernel
theorem dc_M_nextOrder_28 : decode cb_M_nextOrder 28 = .ok (.iinc 1 (-1), 3) := by decide +kernel
theorem dc_M_nextOrder_31 : decode cb_M_nextOrder 31 = .ok (.goto (-24), 3) := by decide +kernel
theorem dc_M_nextOrder_34 : decode cb_M_nextOrder 34 = .ok (.iload_n 1, 1) := by decide +kernel
theorem dc_M_nextOrder_35 : decode cb_M_nextOrder 35 = .ok (.ifCond .ge 5, 3) := by decide +kernel
theorem dc_M_nextOrder_38 : decode cb_M_nextOrder 38 = .ok (.iconst 0, 1) := by decide +kernel
theorem dc_M_nextOrder_39 : decode cb_M_nextOrder 39 = .ok (.ireturn, 1) := by decide +kernel
theorem dc_M_nextOrder_40 : decode cb_M_nextOrder 40 = .ok (.aload_n 0, 1) := by decide +kernel
theorem dc_M_nextOrder_41 : decode cb_M_nextOrder 41 = .ok (.getfield 7, 3) := by decide +kernel
theorem dc_M_nextOrder_44 : decode cb_M_nextOrder 44 = .ok (.iconst 1, 1) := by decide +kernel
theorem dc_M_nextOrder_45 : decode cb_M_nextOrder 45 = .ok (.isub, 1) := by decide +kernel
theorem dc_M_nextOrder_46 : decode cb_M_nextOrder 46 = .ok (.istore_n 2, 1) := by decide +kernel
theorem dc_M_nextOrder_47 : decode cb_M_nextOrder 47 = .ok (.aload_n 0, 1) := by decide +kernel
theorem dc_M_nextOrder_48 : decode cb_M_nextOrder 48 = .ok (.getfield 61, 3) := by decide +kernel
theorem dc_M_nextOrder_51 : decode cb_M_nextOrder 51 = .ok (.iload_n 2, 1) := by decide +kernel
theorem dc_M_nextOrder_52 : decode cb_M_nextOrder 52 = .ok (.iaload, 1) := by decide +kernel
theorem dc_M_nextOrder_53 : decode cb_M_nextOrder 53 = .ok (.aload_n 0, 1) := by decide +kernel
theorem dc_M_nextOrder_54 : decode cb_M_nextOrder 54 = .ok (.getfield 61, 3) := by decide +kernel
theorem dc_M_nextOrder_57 : decode cb_M_nextOrder 57 = .ok (.iload_n 1, 1) := by decide +kernel
theorem dc_M_nextOrder_58 : decode cb_M_nextOrder 58 = .ok (.iaload, 1) := by decide +kernel
theorem dc_M_nextOrder_59 : decode cb_M_nextOrder 59 = .ok (.if_icmp .ge 9, 3) := by decide +kernel
theorem dc_M_nextOrder_62 : decode cb_M_nextOrder 62 = .ok (.iinc 2 (-1), 3) := by decide +kernel
theorem dc_M_nextOrder_65 : decode cb_M_nextOrder 65 = .ok (.goto (-18), 3) := by decide +kernel
theorem dc_M_nextOrder_68 : decode cb_M_nextOrder 68 = .ok (.aload_n 0, 1) := by decide +kernel
theorem dc_M_nextOrder_69 : decode cb_M_nextOrder 69 = .ok (.getfield 61, 3) := by decide +kernel
theorem dc_M_nextOrder_72 : decode cb_M_nextOrder 72 = .ok (.iload_n 1, 1) := by decide +kernel
theorem dc_M_nextOrder_73 : decode cb_M_nextOrder 73 = .ok (.iaload, 1) := by decide +kernel
theorem dc_M_nextOrder_74 : decode cb_M_nextOrder 74 = .ok (.istore_n 3, 1) := by decide +kernel
theorem dc_M_nextOrder_75 : decode cb_M_nextOrder 75 = .ok (.aload_n 0, 1) := by decide +kernel
theorem dc_M_nextOrder_76 : decode cb_M_nextOrder 76 = .ok (.getfield 61, 3) := by decide +kernel
theorem dc_M_nextOrder_79 : decode cb_M_nextOrder 79 = .ok (.iload_n 1, 1) := by decide +kernel
theorem dc_M_nextOrder_80 : decode cb_M_nextOrder 80 = .ok (.aload_n 0, 1) := by decide +kernel
theorem dc_M_nextOrder_81 : decode cb_M_nextOrder 81 = .ok (.getfield 61, 3) := by decide +kernel
theorem dc_M_nextOrder_84 : decode cb_M_nextOrder 84 = .ok (.iload_n 2, 1) := by decide +kernel
theorem dc_M_nextOrder_85 : decode cb_M_nextOrder 85 = .ok (.iaload, 1) := by decide +kernel
theorem dc_M_nextOrder_86 : decode cb_M_nextOrder 86 = .ok (.iastore, 1) := by decide +kernel
theorem dc_M_nextOrder_87 : decode cb_M_nextOrder 87 = .ok (.aload_n 0, 1) := by decide +kernel
theorem dc_M_nextOrder_88 : decode cb_M_nextOrder 88 = .ok (.getfield 61, 3) := by decide +kernel
theorem dc_M_nextOrder_91 : decode cb_M_nextOrder 91 = .ok (.iload_n 2, 1) := by decide +kernel
theorem dc_M_nextOrder_92 : decode cb_M_nextOrder 92 = .ok (.iload_n 3, 1) := by decide +kernel
theorem dc_M_nextOrder_93 : decode cb_M_nextOrder 93 = .ok (.iastore, 1) := by decide +kernel
theorem dc_M_nextOrder_94 : decode cb_M_nextOrder 94 = .ok (.iload_n 1, 1) := by decide +kernel
theorem dc_M_nextOrder_95 : decode cb_M_nextOrder 95 = .ok (.iconst 1, 1) := by decide +kernel
theorem dc_M_nextOrder_96 : decode cb_M_nextOrder 96 = .ok (.iadd, 1) := by decide +kernel
theorem dc_M_nextOrder_97 : decode cb_M_nextOrder 97 = .ok (.istore 4, 2) := by decide +kernel
theorem dc_M_nextOrder_99 : decode cb_M_nextOrder 99 = .ok (.aload_n 0, 1) := by decide +kernel
theorem dc_M_nextOrder_100 : decode cb_M_nextOrder 100 = .ok (.getfield 7, 3) := by decide +kernel
theorem dc_M_nextOrder_103 : decode cb_M_nextOrder 103 = .ok (.iconst 1, 1) := by decide +kernel
theorem dc_M_nextOrder_104 : decode cb_M_nextOrder 104 = .ok (.isub, 1) := by decide +kernel
theorem dc_M_nextOrder_105 : decode cb_M_nextOrder 105 = .ok (.istore 5, 2) := by decide +kernel
theorem dc_M_nextOrder_107 : decode cb_M_nextOrder 107 = .ok (.iload 4, 2) := by decide +kernel
theorem dc_M_nextOrder_109 : decode cb_M_nextOrder 109 = .ok (.iload 5, 2) := by decide +kernel
theorem dc_M_nextOrder_111 : decode cb_M_nextOrder 111 = .ok (.if_icmp .ge 42, 3) := by decide +kernel
theorem dc_M_nextOrder_114 : decode cb_M_nextOrder 114 = .ok (.aload_n 0, 1) := by decide +kernel
theorem dc_M_nextOrder_115 : decode cb_M_nextOrder 115 = .ok (.getfield 61, 3) := by decide +kernel
theorem dc_M_nextOrder_118 : decode cb_M_nextOrder 118 = .ok (.iload 4, 2) := by decide +kernel
theorem dc_M_nextOrder_120 : decode cb_M_nextOrder 120 = .ok (.iaload, 1) := by decide +kernel
theorem dc_M_nextOrder_121 : decode cb_M_nextOrder 121 = .ok (.istore_n 3, 1) := by decide +kernel
theorem dc_M_nextOrder_122 : decode cb_M_nextOrder 122 = .ok (.aload_n 0, 1) := by decide +kernel
theorem dc_M_nextOrder_123 : decode cb_M_nextOrder 123 = .ok (.getfield 61, 3) := by decide +kernel
theorem dc_M_nextOrder_126 : decode cb_M_nextOrder 126 = .ok (.iload 4, 2) := by decide +kernel
theorem dc_M_nextOrder_128 : decode cb_M_nextOrder 128 = .ok (.aload_n 0, 1) := by decide +kernel
theorem dc_M_nextOrder_129 : decode cb_M_nextOrder 129 = .ok (.getfield 61, 3) := by decide +kernel
theorem dc_M_nextOrder_132 : decode cb_M_nextOrder 132 = .ok (.iload 5, 2) := by decide +kernel
theorem dc_M_nextOrder_134 : decode cb_M_nextOrder 134 = .ok (.iaload, 1) := by decide +kernel
theorem dc_M_nextOrder_135 : decode cb_M_nextOrder 135 = .ok (.iastore, 1) := by decide +kernel
theorem dc_M_nextOrder_136 : decode cb_M_nextOrder 136 = .ok (.aload_n 0, 1) := by decide +kernel
theorem dc_M_nextOrder_137 : decode cb_M_nextOrder 137 = .ok (.getfield 61, 3) := by decide +kernel
theorem dc_M_nextOrder_140 : decode cb_M_nextOrder 140 = .ok (.iload 5, 2) := by decide +kernel
theorem dc_M_nextOrder_142 : decode cb_M_nextOrder 142 = .ok (.iload_n 3, 1) := by decide +kernel
theorem dc_M_nextOrder_143 : decode cb_M_nextOrder 143 = .ok (.iastore, 1) := by decide +kernel
theorem dc_M_nextOrder_144 : decode cb_M_nextOrder 144 = .ok (.iinc 4 1, 3) := by decide +kernel
theorem dc_M_nextOrder_147 : decode cb_M_nextOrder 147 = .ok (.iinc 5 (-1), 3) := by decide +kernel
theorem dc_M_nextOrder_150 : decode cb_M_nextOrder 150 = .ok (.goto (-43), 3) := by decide +kernel
theorem dc_M_nextOrder_153 : decode cb_M_nextOrder 153 = .ok (.iconst 1, 1) := by decide +kernel
theorem dc_M_nextOrder_154 : decode cb_M_nextOrder 154 = .ok (.ireturn, 1) := by decide +kernel
theorem dc_M_disagreementOf_0 : decode cb_M_disagreementOf 0 = .ok (.lconst 0, 1) := by decide +kernel
theorem dc_M_disagreementOf_1 : decode cb_M_disagreementOf 1 = .ok (.lstore_n 1, 1) := by decide +kernel
theorem dc_M_disagreementOf_2 : decode cb_M_disagreementOf 2 = .ok (.iconst 0, 1) := by decide +kernel
theorem dc_M_disagreementOf_3 : decode cb_M_disagreementOf 3 = .ok (.istore_n 3, 1) := by decide +kernel
theorem dc_M_disagreementOf_4 : decode cb_M_disagreementOf 4 = .ok (.iload_n 3, 1) := by decide +kernel
theorem dc_M_disagreementOf_5 : decode cb_M_disagreementOf 5 = .ok (.aload_n 0, 1) := by decide +kernel
theorem dc_M_disagreementOf_6 : decode cb_M_disagreementOf 6 = .ok (.getfield 7, 3) := by decide +kernel
theorem dc_M_disagreementOf_9 : decode cb_M_disagreementOf 9 = .ok (.if_icmp .ge 55, 3) := by decide +kernel
theorem dc_M_disagreementOf_12 : decode cb_M_disagreementOf 12 = .ok (.iload_n 3, 1) := by decide +kernel
theorem dc_M_disagreementOf_13 : decode cb_M_disagreementOf 13 = .ok (.iconst 1, 1) := by decide +kernel
theorem dc_M_disagreementOf_14 : decode cb_M_disagreementOf 14 = .ok (.iadd, 1) := by decide +kernel
theorem dc_M_disagreementOf_15 : decode cb_M_disagreementOf 15 = .ok (.istore 4, 2) := by decide +kernel
theorem dc_M_disagreementOf_17 : decode cb_M_disagreementOf 17 = .ok (.iload 4, 2) := by decide +kernel
theorem dc_M_disagreementOf_19 : decode cb_M_disagreementOf 19 = .ok (.aload_n 0, 1) := by decide +kernel
theorem dc_M_disagreementOf_20 : decode cb_M_disagreementOf 20 = .ok (.getfield 7, 3) := by decide +kernel
theorem dc_M_disagreementOf_23 : decode cb_M_disagreementOf 23 = .ok (.if_icmp .ge 35, 3) := by decide +kernel
theorem dc_M_disagreementOf_26 : decode cb_M_disagreementOf 26 = .ok (.lload_n 1, 1) := by decide +kernel
theorem dc_M_disagreementOf_27 : decode cb_M_disagreementOf 27 = .ok (.aload_n 0, 1) := by decide +kernel
theorem dc_M_disagreementOf_28 : decode cb_M_disagreementOf 28 = .ok (.getfield 44, 3) := by decide +kernel
theorem dc_M_disagreementOf_31 : decode cb_M_disagreementOf 31 = .ok (.bipush 7, 2) := by decide +kernel
theorem dc_M_disagreementOf_33 : decode cb_M_disagreementOf 33 = .ok (.aload_n 0, 1) := by decide +kernel
theorem dc_M_disagreementOf_34 : decode cb_M_disagreementOf 34 = .ok (.getfield 61, 3) := by decide +kernel
theorem dc_M_disagreementOf_37 : decode cb_M_disagreementOf 37 = .ok (.iload 4, 2) := by decide +kernel
theorem dc_M_disagreementOf_39 : decode cb_M_disagreementOf 39 = .ok (.iaload, 1) := by decide +kernel
theorem dc_M_disagreementOf_40 : decode cb_M_disagreementOf 40 = .ok (.imul, 1) := by decide +kernel
theorem dc_M_disagreementOf_41 : decode cb_M_disagreementOf 41 = .ok (.aload_n 0, 1) := by decide +kernel
theorem dc_M_disagreementOf_42 : decode cb_M_disagreementOf 42 = .ok (.getfield 61, 3) := by decide +kernel
theorem dc_M_disagreementOf_45 : decode cb_M_disagreementOf 45 = .ok (.iload_n 3, 1) := by decide +kernel
theorem dc_M_disagreementOf_46 : decode cb_M_disagreementOf 46 = .ok (.iaload, 1) := by decide +kernel
theorem dc_M_disagreementOf_47 : decode cb_M_disagreementOf 47 = .ok (.iadd, 1) := by decide +kernel
theorem dc_M_disagreementOf_48 : decode cb_M_disagreementOf 48 = .ok (.iaload, 1) := by decide +kernel
theorem dc_M_disagreementOf_49 : decode cb_M_disagreementOf 49 = .ok (.i2l, 1) := by decide +kernel
theorem dc_M_disagreementOf_50 : decode cb_M_disagreementOf 50 = .ok (.ladd, 1) := by decide +kernel
theorem dc_M_disagreementOf_51 : decode cb_M_disagreementOf 51 = .ok (.lstore_n 1, 1) := by decide +kernel
theorem dc_M_disagreementOf_52 : decode cb_M_disagreementOf 52 = .ok (.iinc 4 1, 3) := by decide +kernel
theorem dc_M_disagreementOf_55 : decode cb_M_disagreementOf 55 = .ok (.goto (-38), 3) := by decide +kernel
theorem dc_M_disagreementOf_58 : decode cb_M_disagreementOf 58 = .ok (.iinc 3 1, 3) := by decide +kernel
theorem dc_M_disagreementOf_61 : decode cb_M_disagreementOf 61 = .ok (.goto (-57), 3) := by decide +kernel
theorem dc_M_disagreementOf_64 : decode cb_M_disagreementOf 64 = .ok (.lload_n 1, 1) := by decide +kernel
theorem dc_M_disagreementOf_65 : decode cb_M_disagreementOf 65 = .ok (.lreturn, 1) := by decide +kernel
theorem dc_M_sooner2_0 : decode cb_M_sooner2 0 = .ok (.iconst 0, 1) := by decide +kernel
theorem dc_M_sooner2_1 : decode cb_M_sooner2 1 = .ok (.istore_n 1, 1) := by decide +kernel
theorem dc_M_sooner2_2 : decode cb_M_sooner2 2 = .ok (.iload_n 1, 1) := by decide +kernel
theorem dc_M_sooner2_3 : decode cb_M_sooner2 3 = .ok (.aload_n 0, 1) := by decide +kernel
theorem dc_M_sooner2_4 : decode cb_M_sooner2 4 = .ok (.getfield 7, 3) := by decide +kernel
theorem dc_M_sooner2_7 : decode cb_M_sooner2 7 = .ok (.if_icmp .ge 24, 3) := by decide +kernel
theorem dc_M_sooner2_10 : decode cb_M_sooner2 10 = .ok (.aload_n 0, 1) := by decide +kernel
theorem dc_M_sooner2_11 : decode cb_M_sooner2 11 = .ok (.getfield 61, 3) := by decide +kernel
theorem dc_M_sooner2_14 : decode cb_M_sooner2 14 = .ok (.iload_n 1, 1) := by decide +kernel
theorem dc_M_sooner2_15 : decode cb_M_sooner2 15 = .ok (.iaload, 1) := by decide +kernel
theorem dc_M_sooner2_16 : decode cb_M_sooner2 16 = .ok (.aload_n 0, 1) := by decide +kernel
theorem dc_M_sooner2_17 : decode cb_M_sooner2 17 = .ok (.getfield 64, 3) := by decide +kernel
theorem dc_M_sooner2_20 : decode cb_M_sooner2 20 = .ok (.iload_n 1, 1) := by decide +kernel
theorem dc_M_sooner2_21 : decode cb_M_sooner2 21 = .ok (.iaload, 1) := by decide +kernel
theorem dc_M_sooner2_22 : decode cb_M_sooner2 22 = .ok (.if_icmp .ne 9, 3) := by decide +kernel
theorem dc_M_sooner2_25 : decode cb_M_sooner2 25 = .ok (.iinc 1 1, 3) := by decide +kernel
theorem dc_M_sooner2_28 : decode cb_M_sooner2 28 = .ok (.goto (-26), 3) := by decide +kernel
theorem dc_M_sooner2_31 : decode cb_M_sooner2 31 = .ok (.iload_n 1, 1) := by decide +kernel
theorem dc_M_sooner2_32 : decode cb_M_sooner2 32 = .ok (.aload_n 0, 1) := by decide +kernel
theorem dc_M_sooner2_33 : decode cb_M_sooner2 33 = .ok (.getfield 7, 3) := by decide +kernel
theorem dc_M_sooner2_36 : decode cb_M_sooner2 36 = .ok (.if_icmp .ge 30, 3) := by decide +kernel
theorem dc_M_sooner2_39 : decode cb_M_sooner2 39 = .ok (.aload_n 0, 1) := by decide +kernel
theorem dc_M_sooner2_40 : decode cb_M_sooner2 40 = .ok (.aload_n 0, 1) := by decide +kernel
theorem dc_M_sooner2_41 : decode cb_M_sooner2 41 = .ok (.getfield 61, 3) := by decide +kernel
theorem dc_M_sooner2_44 : decode cb_M_sooner2 44 = .ok (.iload_n 1, 1) := by decide +kernel
theorem dc_M_sooner2_45 : decode cb_M_sooner2 45 = .ok (.iaload, 1) := by decide +kernel
theorem dc_M_sooner2_46 : decode cb_M_sooner2 46 = .ok (.invokevirtual 146, 3) := by decide +kernel
theorem dc_M_sooner2_49 : decode cb_M_sooner2 49 = .ok (.aload_n 0, 1) := by decide +kernel
theorem dc_M_sooner2_50 : decode cb_M_sooner2 50 = .ok (.aload_n 0, 1) := by decide +kernel
theorem dc_M_sooner2_51 : decode cb_M_sooner2 51 = .ok (.getfield 64, 3) := by decide +kernel
theorem dc_M_sooner2_54 : decode cb_M_sooner2 54 = .ok (.iload_n 1, 1) := by decide +kernel
theorem dc_M_sooner2_55 : decode cb_M_sooner2 55 = .ok (.iaload, 1) := by decide +kernel
theorem dc_M_sooner2_56 : decode cb_M_sooner2 56 = .ok (.invokevirtual 146, 3) := by decide +kernel
theorem dc_M_sooner2_59 : decode cb_M_sooner2 59 = .ok (.if_icmp .ge 7, 3) := by decide +kernel
theorem dc_M_sooner2_62 : decode cb_M_sooner2 62 = .ok (.iconst 1, 1) := by decide +kernel
theorem dc_M_sooner2_63 : decode cb_M_sooner2 63 = .ok (.goto 4, 3) := by decide +kernel
theorem dc_M_sooner2_66 : decode cb_M_sooner2 66 = .ok (.iconst 0, 1) := by decide +kernel
theorem dc_M_sooner2_67 : decode cb_M_sooner2 67 = .ok (.ireturn, 1) := by decide +kernel
theorem dc_M_findAgreed_0 : decode cb_M_findAgreed 0 = .ok (.aload_n 0, 1) := by decide +kernel
theorem dc_M_findAgreed_1 : decode cb_M_findAgreed 1 = .ok (.invokevirtual 193, 3) := by decide +kernel
theorem dc_M_findAgreed_4 : decode cb_M_findAgreed 4 = .ok (.aload_n 0, 1) := by decide +kernel
theorem dc_M_findAgreed_5 : decode cb_M_findAgreed 5 = .ok (.invokevirtual 162, 3) := by decide +kernel
theorem dc_M_findAgreed_8 : decode cb_M_findAgreed 8 = .ok (.aload_n 0, 1) := by decide +kernel
theorem dc_M_findAgreed_9 : decode cb_M_findAgreed 9 = .ok (.invokevirtual 205, 3) := by decide +kernel
theorem dc_M_findAgreed_12 : decode cb_M_findAgreed 12 = .ok (.ldc2_w 208, 3) := by decide +kernel
theorem dc_M_findAgreed_15 : decode cb_M_findAgreed 15 = .ok (.lstore_n 1, 1) := by decide +kernel
theorem dc_M_findAgreed_16 : decode cb_M_findAgreed 16 = .ok (.iconst 1, 1) := by decide +kernel
theorem dc_M_findAgreed_17 : decode cb_M_findAgreed 17 = .ok (.istore_n 3, 1) := by decide +kernel
theorem dc_M_findAgreed_18 : decode cb_M_findAgreed 18 = .ok (.iload_n 3, 1) := by decide +kernel
theorem dc_M_findAgreed_19 : decode cb_M_findAgreed 19 = .ok (.ifCond .eq 77, 3) := by decide +kernel
theorem dc_M_findAgreed_22 : decode cb_M_findAgreed 22 = .ok (.aload_n 0, 1) := by decide +kernel
theorem dc_M_findAgreed_23 : decode cb_M_findAgreed 23 = .ok (.invokevirtual 210, 3) := by decide +kernel
theorem dc_M_findAgreed_26 : decode cb_M_findAgreed 26 = .ok (.lstore 4, 2) := by decide +kernel
theorem dc_M_findAgreed_28 : decode cb_M_findAgreed 28 = .ok (.lload_n 1, 1) := by decide +kernel
theorem dc_M_findAgreed_29 : decode cb_M_findAgreed 29 = .ok (.lconst 0, 1) := by decide +kernel
theorem dc_M_findAgreed_30 : decode cb_M_findAgreed 30 = .ok (.lcmp, 1) := by decide +kernel
theorem dc_M_findAgreed_31 : decode cb_M_findAgreed 31 = .ok (.ifCond .lt 24, 3) := by decide +kernel
theorem dc_M_findAgreed_34 : decode cb_M_findAgreed 34 = .ok (.lload 4, 2) := by decide +kernel
theorem dc_M_findAgreed_36 : decode cb_M_findAgreed 36 = .ok (.lload_n 1, 1) := by decide +kernel
theorem dc_M_findAgreed_37 : decode cb_M_findAgreed 37 = .ok (.lcmp, 1) := by decide +kernel
theorem dc_M_findAgreed_38 : decode cb_M_findAgreed 38 = .ok (.ifCond .lt 17, 3) := by decide +kernel
theorem dc_M_findAgreed_41 : decode cb_M_findAgreed 41 = .ok (.lload 4, 2) := by decide +kernel
theorem dc_M_findAgreed_43 : decode cb_M_findAgreed 43 = .ok (.lload_n 1, 1) := by decide +kernel
theorem dc_M_findAgreed_44 : decode cb_M_findAgreed 44 = .ok (.lcmp, 1) := by decide +kernel
theorem dc_M_findAgreed_45 : decode cb_M_findAgreed 45 = .ok (.ifCond .ne 43, 3) := by decide +kernel
theorem dc_M_findAgreed_48 : decode cb_M_findAgreed 48 = .ok (.aload_n 0, 1) := by decide +kernel
theorem dc_M_findAgreed_49 : decode cb_M_findAgreed 49 = .ok (.invokevirtual 214, 3) := by decide +kernel
theorem dc_M_findAgreed_52 : decode cb_M_findAgreed 52 = .ok (.ifCond .eq 36, 3) := by decide +kernel
theorem dc_M_findAgreed_55 : decode cb_M_findAgreed 55 = .ok (.lload 4, 2) := by decide +kernel
theorem dc_M_findAgreed_57 : decode cb_M_findAgreed 57 = .ok (.lstore_n 1, 1) := by decide +kernel
theorem dc_M_findAgreed_58 : decode cb_M_findAgreed 58 = .ok (.iconst 0, 1) := by decide +kernel
theorem dc_M_findAgreed_59 : decode cb_M_findAgreed 59 = .ok (.istore 6, 2) := by decide +kernel
theorem dc_M_findAgreed_61 : decode cb_M_findAgreed 61 = .ok (.iload 6, 2) := by decide +kernel
theorem dc_M_findAgreed_63 : decode cb_M_findAgreed 63 = .ok (.bipush 7, 2) := by decide +kernel
theorem dc_M_findAgreed_65 : decode cb_M_findAgreed 65 = .ok (.if_icmp .ge 23, 3) := by decide +kernel
theorem dc_M_findAgreed_68 : decode cb_M_findAgreed 68 = .ok (.aload_n 0, 1) := by decide +kernel
theorem dc_M_findAgreed_69 : decode cb_M_findAgreed 69 = .ok (.getfield 64, 3) := by decide +kernel
theorem dc_M_findAgreed_72 : decode cb_M_findAgreed 72 = .ok (.iload 6, 2) := by decide +kernel
theorem dc_M_findAgreed_74 : decode cb_M_findAgreed 74 = .ok (.aload_n 0, 1) := by decide +kernel
theorem dc_M_findAgreed_75 : decode cb_M_findAgreed 75 = .ok (.getfield 61, 3) := by decide +kernel
theorem dc_M_findAgreed_78 : decode cb_M_findAgreed 78 = .ok (.iload 6, 2) := by decide +kernel
theorem dc_M_findAgreed_80 : decode cb_M_findAgreed 80 = .ok (.iaload, 1) := by decide +kernel
theorem dc_M_findAgreed_81 : decode cb_M_findAgreed 81 = .ok (.iastore, 1) := by decide +kernel
theorem dc_M_findAgreed_82 : decode cb_M_findAgreed 82 = .ok (.iinc 6 1, 3) := by decide +kernel
theorem dc_M_findAgreed_85 : decode cb_M_findAgreed 85 = .ok (.goto (-24), 3) := by decide +kernel
theorem dc_M_findAgreed_88 : decode cb_M_findAgreed 88 = .ok (.aload_n 0, 1) := by decide +kernel
theorem dc_M_findAgreed_89 : decode cb_M_findAgreed 89 = .ok (.invokevirtual 217, 3) := by decide +kernel
theorem dc_M_findAgreed_92 : decode cb_M_findAgreed 92 = .ok (.istore_n 3, 1) := by decide +kernel
theorem dc_M_findAgreed_93 : decode cb_M_findAgreed 93 = .ok (.goto (-75), 3) := by decide +kernel
theorem dc_M_findAgreed_96 : decode cb_M_findAgreed 96 = .ok (.lload_n 1, 1) := by decide +kernel
theorem dc_M_findAgreed_97 : decode cb_M_findAgreed 97 = .ok (.lreturn, 1) := by decide +kernel
theorem dc_M_disagreement_0 : decode cb_M_disagreement 0 = .ok (.aload_n 0, 1) := by decide +kernel
theorem dc_M_disagreement_1 : decode cb_M_disagreement 1 = .ok (.iconst 0, 1) := by decide +kernel
theorem dc_M_disagreement_2 : decode cb_M_disagreement 2 = .ok (.putfield 79, 3) := by decide +kernel
theorem dc_M_disagreement_5 : decode cb_M_disagreement 5 = .ok (.aload_n 0, 1) := by decide +kernel
theorem dc_M_disagreement_6 : decode cb_M_disagreement 6 = .ok (.invokevirtual 220, 3) := by decide +kernel
theorem dc_M_disagreement_9 : decode cb_M_disagreement 9 = .ok (.lreturn, 1) := by decide +kernel
theorem dc_M_agreed_0 : decode cb_M_agreed 0 = .ok (.aload_n 0, 1) := by decide +kernel
theorem dc_M_agreed_1 : decode cb_M_agreed 1 = .ok (.iconst 0, 1) := by decide +kernel
theorem dc_M_agreed_2 : decode cb_M_agreed 2 = .ok (.putfield 79, 3) := by decide +kernel
theorem dc_M_agreed_5 : decode cb_M_agreed 5 = .ok (.aload_n 0, 1) := by decide +kernel
theorem dc_M_agreed_6 : decode cb_M_agreed 6 = .ok (.invokevirtual 220, 3) := by decide +kernel
theorem dc_M_agreed_9 : decode cb_M_agreed 9 = .ok (.lstore_n 1, 1) := by decide +kernel
theorem dc_M_agreed_10 : decode cb_M_agreed 10 = .ok (.aload_n 0, 1) := by decide +kernel
theorem dc_M_agreed_11 : decode cb_M_agreed 11 = .ok (.aload_n 0, 1) := by decide +kernel
theorem dc_M_agreed_12 : decode cb_M_agreed 12 = .ok (.getfield 64, 3) := by decide +kernel
theorem dc_M_agreed_15 : decode cb_M_agreed 15 = .ok (.iconst 0, 1) := by decide +kernel
theorem dc_M_agreed_16 : decode cb_M_agreed 16 = .ok (.invokevirtual 102, 3) := by decide +kernel
theorem dc_M_agreed_19 : decode cb_M_agreed 19 = .ok (.ireturn, 1) := by decide +kernel
theorem dc_M_change_0 : decode cb_M_change 0 = .ok (.aload_n 0, 1) := by decide +kernel
theorem dc_M_change_1 : decode cb_M_change 1 = .ok (.iload_n 1, 1) := by decide +kernel
theorem dc_M_change_2 : decode cb_M_change 2 = .ok (.invokestatic 190, 3) := by decide +kernel
theorem dc_M_change_5 : decode cb_M_change 5 = .ok (.ifCond .eq 15, 3) := by decide +kernel
theorem dc_M_change_8 : decode cb_M_change 8 = .ok (.aload_n 0, 1) := by decide +kernel
theorem dc_M_change_9 : decode cb_M_change 9 = .ok (.iload_n 2, 1) := by decide +kernel
theorem dc_M_change_10 : decode cb_M_change 10 = .ok (.invokevirtual 99, 3) := by decide +kernel
theorem dc_M_change_13 : decode cb_M_change 13 = .ok (.ifCond .eq 7, 3) := by decide +kernel
theorem dc_M_change_16 : decode cb_M_change 16 = .ok (.iconst 1, 1) := by decide +kernel
theorem dc_M_change_17 : decode cb_M_change 17 = .ok (.goto 4, 3) := by decide +kernel
theorem dc_M_change_20 : decode cb_M_change 20 = .ok (.iconst 0, 1) := by decide +kernel
theorem dc_M_change_21 : decode cb_M_change 21 = .ok (.aload_n 0, 1) := by decide +kernel
theorem dc_M_change_22 : decode cb_M_change 22 = .ok (.iload_n 2, 1) := by decide +kernel
theorem dc_M_change_23 : decode cb_M_change 23 = .ok (.invokevirtual 99, 3) := by decide +kernel
theorem dc_M_change_26 : decode cb_M_change 26 = .ok (.ifCond .eq 22, 3) := by decide +kernel
theorem dc_M_change_29 : decode cb_M_change 29 = .ok (.iload_n 3, 1) := by decide +kernel
theorem dc_M_change_30 : decode cb_M_change 30 = .ok (.iconst 1, 1) := by decide +kernel
theorem dc_M_change_31 : decode cb_M_change 31 = .ok (.if_icmp .lt 17, 3) := by decide +kernel
theorem dc_M_change_34 : decode cb_M_change 34 = .ok (.iload_n 3, 1) := by decide +kernel
theorem dc_M_change_35 : decode cb_M_change 35 = .ok (.aload_n 0, 1) := by decide +kernel
theorem dc_M_change_36 : decode cb_M_change 36 = .ok (.getfield 17, 3) := by decide +kernel
theorem dc_M_change_39 : decode cb_M_change 39 = .ok (.iload_n 2, 1) := by decide +kernel
theorem dc_M_change_40 : decode cb_M_change 40 = .ok (.iaload, 1) := by decide +kernel
theorem dc_M_change_41 : decode cb_M_change 41 = .ok (.if_icmp .gt 7, 3) := by decide +kernel
theorem dc_M_change_44 : decode cb_M_change 44 = .ok (.iconst 1, 1) := by decide +kernel
theorem dc_M_change_45 : decode cb_M_change 45 = .ok (.goto 4, 3) := by decide +kernel
theorem dc_M_change_48 : decode cb_M_change 48 = .ok (.iconst 0, 1) := by decide +kernel
theorem dc_M_change_49 : decode cb_M_change 49 = .ok (.invokevirtual 86, 3) := by decide +kernel
theorem dc_M_change_52 : decode cb_M_change 52 = .ok (.ifCond .ne 5, 3) := by decide +kernel
theorem dc_M_change_55 : decode cb_M_change 55 = .ok (.iconst 0, 1) := by decide +kernel
theorem dc_M_change_56 : decode cb_M_change 56 = .ok (.ireturn, 1) := by decide +kernel
theorem dc_M_change_57 : decode cb_M_change 57 = .ok (.aload_n 0, 1) := by decide +kernel
theorem dc_M_change_58 : decode cb_M_change 58 = .ok (.invokevirtual 193, 3) := by decide +kernel
theorem dc_M_change_61 : decode cb_M_change 61 = .ok (.aload_n 0, 1) := by decide +kernel
theorem dc_M_change_62 : decode cb_M_change 62 = .ok (.iload_n 2, 1) := by decide +kernel
theorem dc_M_change_63 : decode cb_M_change 63 = .ok (.aload_n 0, 1) := by decide +kernel
theorem dc_M_change_64 : decode cb_M_change 64 = .ok (.aload_n 0, 1) := by decide +kernel
theorem dc_M_change_65 : decode cb_M_change 65 = .ok (.iload_n 1, 1) := by decide +kernel
theorem dc_M_change_66 : decode cb_M_change 66 = .ok (.invokevirtual 196, 3) := by decide +kernel
theorem dc_M_change_69 : decode cb_M_change 69 = .ok (.invokevirtual 199, 3) := by decide +kernel
theorem dc_M_change_72 : decode cb_M_change 72 = .ok (.invokevirtual 123, 3) := by decide +kernel
theorem dc_M_change_75 : decode cb_M_change 75 = .ok (.istore 4, 2) := by decide +kernel
theorem dc_M_change_77 : decode cb_M_change 77 = .ok (.iload 4, 2) := by decide +kernel
theorem dc_M_change_79 : decode cb_M_change 79 = .ok (.istore 5, 2) := by decide +kernel
theorem dc_M_change_81 : decode cb_M_change 81 = .ok (.aload_n 0, 1) := by decide +kernel
theorem dc_M_change_82 : decode cb_M_change 82 = .ok (.iconst (-1), 1) := by decide +kernel
theorem dc_M_change_83 : decode cb_M_change 83 = .ok (.putfield 67, 3) := by decide +kernel
theorem dc_M_change_86 : decode cb_M_change 86 = .ok (.aload_n 0, 1) := by decide +kernel
theorem dc_M_change_87 : decode cb_M_change 87 = .ok (.invokevirtual 205, 3) := by decide +kernel
theorem dc_M_change_90 : decode cb_M_change 90 = .ok (.iconst 1, 1) := by decide +kernel
theorem dc_M_change_91 : decode cb_M_change 91 = .ok (.istore 6, 2) := by decide +kernel
theorem dc_M_change_93 : decode cb_M_change 93 = .ok (.iload 6, 2) := by decide +kernel
theorem dc_M_change_95 : decode cb_M_change 95 = .ok (.ifCond .eq 141, 3) := by decide +kernel
theorem dc_M_change_98 : decode cb_M_change 98 = .ok (.aload_n 0, 1) := by decide +kernel
theorem dc_M_change_99 : decode cb_M_change 99 = .ok (.invokevirtual 193, 3) := by decide +kernel
theorem dc_M_change_102 : decode cb_M_change 102 = .ok (.aload_n 0, 1) := by decide +kernel
theorem dc_M_change_103 : decode cb_M_change 103 = .ok (.getfield 32, 3) := by decide +kernel
theorem dc_M_change_106 : decode cb_M_change 106 = .ok (.iload_n 2, 1) := by decide +kernel
theorem dc_M_change_107 : decode cb_M_change 107 = .ok (.aload_n 0, 1) := by decide +kernel
theorem dc_M_change_108 : decode cb_M_change 108 = .ok (.getfield 32, 3) := by decide +kernel
theorem dc_M_change_111 : decode cb_M_change 111 = .ok (.iload_n 2, 1) := by decide +kernel
theorem dc_M_change_112 : decode cb_M_change 112 = .ok (.iaload, 1) := by decide +kernel
theorem dc_M_change_113 : decode cb_M_change 113 = .ok (.iload_n 3, 1) := by decide +kernel
theorem dc_M_change_114 : decode cb_M_change 114 = .ok (.isub, 1) := by decide +kernel
theorem dc_M_change_115 : decode cb_M_change 115 = .ok (.iastore, 1) := by decide +kernel
theorem dc_M_change_116 : decode cb_M_change 116 = .ok (.aload_n 0, 1) := by decide +kernel
theorem dc_M_change_117 : decode cb_M_change 117 = .ok (.getfield 32, 3) := by decide +kernel
theorem dc_M_change_120 : decode cb_M_change 120 = .ok (.aload_n 0, 1) := by decide +kernel
theorem dc_M_change_121 : decode cb_M_change 121 = .ok (.getfield 109, 3) := by decide +kernel
theorem dc_M_change_124 : decode cb_M_change 124 = .ok (.iload_n 3, 1) := by decide +kernel
theorem dc_M_change_125 : decode cb_M_change 125 = .ok (.iastore, 1) := by decide +kernel
theorem dc_M_change_126 : decode cb_M_change 126 = .ok (.iconst 0, 1) := by decide +kernel
theorem dc_M_change_127 : decode cb_M_change 127 = .ok (.istore 7, 2) := by decide +kernel
theorem dc_M_change_129 : decode cb_M_change 129 = .ok (.iload 7, 2) := by decide +kernel
theorem dc_M_change_131 : decode cb_M_change 131 = .ok (.bipush 7, 2) := by decide +kernel
theorem dc_M_change_133 : decode cb_M_change 133 = .ok (.if_icmp .ge 31, 3) := by decide +kernel
theorem dc_M_change_136 : decode cb_M_change 136 = .ok (.aload_n 0, 1) := by decide +kernel
theorem dc_M_change_137 : decode cb_M_change 137 = .ok (.getfield 29, 3) := by decide +kernel
theorem dc_M_change_140 : decode cb_M_change 140 = .ok (.bipush 7, 2) := by decide +kernel
theorem dc_M_change_142 : decode cb_M_change 142 = .ok (.aload_n 0, 1) := by decide +kernel
theorem dc_M_change_143 : decode cb_M_change 143 = .ok (.getfield 109, 3) := by decide +kernel
theorem dc_M_change_146 : decode cb_M_change 146 = .ok (.imul, 1) := by decide +kernel
theorem dc_M_change_147 : decode cb_M_change 147 = .ok (.iload 7, 2) := by decide +kernel
theorem dc_M_change_149 : decode cb_M_change 149 = .ok (.iadd, 1) := by decide +kernel
theorem dc_M_change_150 : decode cb_M_change 150 = .ok (.aload_n 0, 1) := by decide +kernel
theorem dc_M_change_151 : decode cb_M_change 151 = .ok (.getfield 61, 3) := by decide +kernel
theorem dc_M_change_154 : decode cb_M_change 154 = .ok (.iload 7, 2) := by decide +kernel
theorem dc_M_change_156 : decode cb_M_change 156 = .ok (.iaload, 1) := by decide +kernel
theorem dc_M_change_157 : decode cb_M_change 157 = .ok (.iastore, 1) := by decide +kernel
theorem dc_M_change_158 : decode cb_M_change 158 = .ok (.iinc 7 1, 3) := by decide +kernel
theorem dc_M_change_161 : decode cb_M_change 161 = .ok (.goto (-32), 3) := by decide +kernel
theorem dc_M_change_164 : decode cb_M_change 164 = .ok (.aload_n 0, 1) := by decide +kernel
theorem dc_M_change_165 : decode cb_M_change 165 = .ok (.dup, 1) := by decide +kernel
theorem dc_M_change_166 : decode cb_M_change 166 = .ok (.getfield 109, 3) := by decide +kernel
theorem dc_M_change_169 : decode cb_M_change 169 = .ok (.iconst 1, 1) := by decide +kernel
theorem dc_M_change_170 : decode cb_M_change 170 = .ok (.iadd, 1) := by decide +kernel
theorem dc_M_change_171 : decode cb_M_change 171 = .ok (.putfield 109, 3) := by decide +kernel
theorem dc_M_change_174 : decode cb_M_change 174 = .ok (.aload_n 0, 1) := by decide +kernel
theorem dc_M_change_175 : decode cb_M_change 175 = .ok (.iload_n 2, 1) := by decide +kernel
theorem dc_M_change_176 : decode cb_M_change 176 = .ok (.aload_n 0, 1) := by decide +kernel
theorem dc_M_change_177 : decode cb_M_change 177 = .ok (.aload_n 0, 1) := by decide +kernel
theorem dc_M_change_178 : decode cb_M_change 178 = .ok (.iload_n 1, 1) := by decide +kernel
theorem dc_M_change_179 : decode cb_M_change 179 = .ok (.invokevirtual 196, 3) := by decide +kernel
theorem dc_M_change_182 : decode cb_M_change 182 = .ok (.invokevirtual 199, 3) := by decide +kernel
theorem dc_M_change_185 : decode cb_M_change 185 = .ok (.invokevirtual 123, 3) := by decide +kernel
theorem dc_M_change_188 : decode cb_M_change 188 = .ok (.istore 7, 2) := by decide +kernel
theorem dc_M_change_190 : decode cb_M_change 190 = .ok (.iload 7, 2) := by decide +kernel
theorem dc_M_change_192 : decode cb_M_change 192 = .ok (.iload 5, 2) := by decide +kernel
theorem dc_M_change_194 : decode cb_M_change 194 = .ok (.if_icmp .ge 20, 3) := by decide +kernel
theorem dc_M_change_197 : decode cb_M_change 197 = .ok (.iload 7, 2) := by decide +kernel
theorem dc_M_change_199 : decode cb_M_change 199 = .ok (.istore 5, 2) := by decide +kernel
theorem dc_M_change_201 : decode cb_M_change 201 = .ok (.aload_n 0, 1) := by decide +kernel
theorem dc_M_change_202 : decode cb_M_change 202 = .ok (.aload_n 0, 1) := by decide +kernel
theorem dc_M_change_203 : decode cb_M_change 203 = .ok (.aload_n 0, 1) := by decide +kernel
theorem dc_M_change_204 : decode cb_M_change 204 = .ok (.getfield 61, 3) := by decide +kernel
theorem dc_M_change_207 : decode cb_M_change 207 = .ok (.iconst 0, 1) := by decide +kernel
theorem dc_M_change_208 : decode cb_M_change 208 = .ok (.invokevirtual 102, 3) := by decide +kernel
theorem dc_M_change_211 : decode cb_M_change 211 = .ok (.putfield 67, 3) := by decide +kernel
theorem dc_M_change_214 : decode cb_M_change 214 = .ok (.iload 5, 2) := by decide +kernel
theorem dc_M_change_216 : decode cb_M_change 216 = .ok (.ifCond .le 14, 3) := by decide +kernel
theorem dc_M_change_219 : decode cb_M_change 219 = .ok (.aload_n 0, 1) := by decide +kernel
theorem dc_M_change_220 : decode cb_M_change 220 = .ok (.invokevirtual 217, 3) := by decide +kernel
theorem dc_M_change_223 : decode cb_M_change 223 = .ok (.ifCond .eq 7, 3) := by decide +kernel
theorem dc_M_change_226 : decode cb_M_change 226 = .ok (.iconst 1, 1) := by decide +kernel
theorem dc_M_change_227 : decode cb_M_change 227 = .ok (.goto 4, 3) := by decide +kernel
theorem dc_M_change_230 : decode cb_M_change 230 = .ok (.iconst 0, 1) := by decide +kernel
theorem dc_M_change_231 : decode cb_M_change 231 = .ok (.istore 6, 2) := by decide +kernel
theorem dc_M_change_233 : decode cb_M_change 233 = .ok (.goto (-140), 3) := by decide +kernel
theorem dc_M_change_236 : decode cb_M_change 236 = .ok (.iload 5, 2) := by decide +kernel
theorem dc_M_change_238 : decode cb_M_change 238 = .ok (.iload 4, 2) := by decide +kernel
theorem dc_M_change_240 : decode cb_M_change 240 = .ok (.if_icmp .ge 10, 3) := by decide +kernel
theorem dc_M_change_243 : decode cb_M_change 243 = .ok (.iload 5, 2) := by decide +kernel
theorem dc_M_change_245 : decode cb_M_change 245 = .ok (.iconst 1, 1) := by decide +kernel
theorem dc_M_change_246 : decode cb_M_change 246 = .ok (.iadd, 1) := by decide +kernel
theorem dc_M_change_247 : decode cb_M_change 247 = .ok (.goto 4, 3) := by decide +kernel
theorem dc_M_change_250 : decode cb_M_change 250 = .ok (.iconst 0, 1) := by decide +kernel
theorem dc_M_change_251 : decode cb_M_change 251 = .ok (.ireturn, 1) := by decide +kernel
theorem dc_M_changed_0 : decode cb_M_changed 0 = .ok (.aload_n 0, 1) := by decide +kernel
theorem dc_M_changed_1 : decode cb_M_changed 1 = .ok (.iconst 0, 1) := by decide +kernel
theorem dc_M_changed_2 : decode cb_M_changed 2 = .ok (.putfield 79, 3) := by decide +kernel
theorem dc_M_changed_5 : decode cb_M_changed 5 = .ok (.aload_n 0, 1) := by decide +kernel
theorem dc_M_changed_6 : decode cb_M_changed 6 = .ok (.getfield 67, 3) := by decide +kernel
theorem dc_M_changed_9 : decode cb_M_changed 9 = .ok (.ireturn, 1) := by decide +kernel
theorem dc_M_over2_0 : decode cb_M_over2 0 = .ok (.iconst 1, 1) := by decide +kernel
theorem dc_M_over2_1 : decode cb_M_over2 1 = .ok (.istore_n 3, 1) := by decide +kernel
theorem dc_M_over2_2 : decode cb_M_over2 2 = .ok (.iconst 0, 1) := by decide +kernel
theorem dc_M_over2_3 : decode cb_M_over2 3 = .ok (.istore 4, 2) := by decide +kernel
theorem dc_M_over2_5 : decode cb_M_over2 5 = .ok (.iload 4, 2) := by decide +kernel
theorem dc_M_over2_7 : decode cb_M_over2 7 = .ok (.aload_n 0, 1) := by decide +kernel
theorem dc_M_over2_8 : decode cb_M_over2 8 = .ok (.getfield 106, 3) := by decide +kernel
theorem dc_M_over2_11 : decode cb_M_over2 11 = .ok (.if_icmp .ge 52, 3) := by decide +kernel
theorem dc_M_over2_14 : decode cb_M_over2 14 = .ok (.iload_n 3, 1) := by decide +kernel
theorem dc_M_over2_15 : decode cb_M_over2 15 = .ok (.ifCond .eq 40, 3) := by decide +kernel
theorem dc_M_over2_18 : decode cb_M_over2 18 = .ok (.iload 4, 2) := by decide +kernel
theorem dc_M_over2_20 : decode cb_M_over2 20 = .ok (.iload_n 1, 1) := by decide +kernel
theorem dc_M_over2_21 : decode cb_M_over2 21 = .ok (.if_icmp .eq 30, 3) := by decide +kernel
theorem dc_M_over2_24 : decode cb_M_over2 24 = .ok (.iload_n 2, 1) := by decide +kernel
theorem dc_M_over2_25 : decode cb_M_over2 25 = .ok (.ifCond .eq 16, 3) := by decide +kernel
theorem dc_M_over2_28 : decode cb_M_over2 28 = .ok (.aload_n 0, 1) := by decide +kernel
theorem dc_M_over2_29 : decode cb_M_over2 29 = .ok (.iload_n 1, 1) := by decide +kernel
theorem dc_M_over2_30 : decode cb_M_over2 30 = .ok (.iload 4, 2) := by decide +kernel
theorem dc_M_over2_32 : decode cb_M_over2 32 = .ok (.invokevirtual 126, 3) := by decide +kernel
theorem dc_M_over2_35 : decode cb_M_over2 35 = .ok (.ifCond .eq 20, 3) := by decide +kernel
theorem dc_M_over2_38 : decode cb_M_over2 38 = .ok (.goto 13, 3) := by decide +kernel
theorem dc_M_over2_41 : decode cb_M_over2 41 = .ok (.aload_n 0, 1) := by decide +kernel
theorem dc_M_over2_42 : decode cb_M_over2 42 = .ok (.iload 4, 2) := by decide +kernel
theorem dc_M_over2_44 : decode cb_M_over2 44 = .ok (.iload_n 1, 1) := by decide +kernel
theorem dc_M_over2_45 : decode cb_M_over2 45 = .ok (.invokevirtual 126, 3) := by decide +kernel
theorem dc_M_over2_48 : decode cb_M_over2 48 = .ok (.ifCond .eq 7, 3) := by decide +kernel
theorem dc_M_over2_51 : decode cb_M_over2 51 = .ok (.iconst 1, 1) := by decide +kernel
theorem dc_M_over2_52 : decode cb_M_over2 52 = .ok (.goto 4, 3) := by decide +kernel
theorem dc_M_over2_55 : decode cb_M_over2 55 = .ok (.iconst 0, 1) := by decide +kernel
theorem dc_M_over2_56 : decode cb_M_over2 56 = .ok (.istore_n 3, 1) := by decide +kernel
theorem dc_M_over2_57 : decode cb_M_over2 57 = .ok (.iinc 4 1, 3) := by decide +kernel
theorem dc_M_over2_60 : decode cb_M_over2 60 = .ok (.goto (-55), 3) := by decide +kernel
theorem dc_M_over2_63 : decode cb_M_over2 63 = .ok (.iload_n 3, 1) := by decide +kernel
theorem dc_M_over2_64 : decode cb_M_over2 64 = .ok (.ireturn, 1) := by decide +kernel
theorem dc_M_brokenByPairs_0 : decode cb_M_brokenByPairs 0 = .ok (.aload_n 0, 1) := by decide +kernel
theorem dc_M_brokenByPairs_1 : decode cb_M_brokenByPairs 1 = .ok (.invokevirtual 193, 3) := by decide +kernel
theorem dc_M_brokenByPairs_4 : decode cb_M_brokenByPairs 4 = .ok (.aload_n 0, 1) := by decide +kernel
theorem dc_M_brokenByPairs_5 : decode cb_M_brokenByPairs 5 = .ok (.iload_n 1, 1) := by decide +kernel
theorem dc_M_brokenByPairs_6 : decode cb_M_brokenByPairs 6 = .ok (.invokevirtual 196, 3) := by decide +kernel
theorem dc_M_brokenByPairs_9 : decode cb_M_brokenByPairs 9 = .ok (.istore_n 3, 1) := by decide +kernel
theorem dc_M_brokenByPairs_10 : decode cb_M_brokenByPairs 10 = .ok (.iconst 0, 1) := by decide +kernel
theorem dc_M_brokenByPairs_11 : decode cb_M_brokenByPairs 11 = .ok (.istore 4, 2) := by decide +kernel
theorem dc_M_brokenByPairs_13 : decode cb_M_brokenByPairs 13 = .ok (.iload 4, 2) := by decide +kernel
theorem dc_M_brokenByPairs_15 : decode cb_M_brokenByPairs 15 = .ok (.aload_n 0, 1) := by decide +kernel
theorem dc_M_brokenByPairs_16 : decode cb_M_brokenByPairs 16 = .ok (.getfield 7, 3) := by decide +kernel
theorem dc_M_brokenByPairs_19 : decode cb_M_brokenByPairs 19 = .ok (.if_icmp .ge 74, 3) := by decide +kernel
theorem dc_M_brokenByPairs_22 : decode cb_M_brokenByPairs 22 = .ok (.iload_n 2, 1) := by decide +kernel
theorem dc_M_brokenByPairs_23 : decode cb_M_brokenByPairs 23 = .ok (.ifCond .ne 29, 3) := by decide +kernel
theorem dc_M_brokenByPairs_26 : decode cb_M_brokenByPairs 26 = .ok (.aload_n 0, 1) := by decide +kernel
theorem dc_M_brokenByPairs_27 : decode cb_M_brokenByPairs 27 = .ok (.iload 4, 2) := by decide +kernel
theorem dc_M_brokenByPairs_29 : decode cb_M_brokenByPairs 29 = .ok (.iconst 1, 1) := by decide +kernel
theorem dc_M_brokenByPairs_30 : decode cb_M_brokenByPairs 30 = .ok (.invokevirtual 223, 3) := by decide +kernel
theorem dc_M_brokenByPairs_33 : decode cb_M_brokenByPairs 33 = .ok (.ifCond .eq 15, 3) := by decide +kernel
theorem dc_M_brokenByPairs_36 : decode cb_M_brokenByPairs 36 = .ok (.iload_n 3, 1) := by decide +kernel
theorem dc_M_brokenByPairs_37 : decode cb_M_brokenByPairs 37 = .ok (.iconst 1, 1) := by decide +kernel
theorem dc_M_brokenByPairs_38 : decode cb_M_brokenByPairs 38 = .ok (.iload 4, 2) := by decide +kernel
theorem dc_M_brokenByPairs_40 : decode cb_M_brokenByPairs 40 = .ok (.ishl, 1) := by decide +kernel
theorem dc_M_brokenByPairs_41 : decode cb_M_brokenByPairs 41 = .ok (.if_icmp .eq 7, 3) := by decide +kernel
theorem dc_M_brokenByPairs_44 : decode cb_M_brokenByPairs 44 = .ok (.iconst 1, 1) := by decide +kernel
theorem dc_M_brokenByPairs_45 : decode cb_M_brokenByPairs 45 = .ok (.goto 32, 3) := by decide +kernel
theorem dc_M_brokenByPairs_48 : decode cb_M_brokenByPairs 48 = .ok (.iconst 0, 1) := by decide +kernel
theorem dc_M_brokenByPairs_49 : decode cb_M_brokenByPairs 49 = .ok (.goto 28, 3) := by decide +kernel
theorem dc_M_brokenByPairs_52 : decode cb_M_brokenByPairs 52 = .ok (.aload_n 0, 1) := by decide +kernel
theorem dc_M_brokenByPairs_53 : decode cb_M_brokenByPairs 53 = .ok (.iload 4, 2) := by decide +kernel
theorem dc_M_brokenByPairs_55 : decode cb_M_brokenByPairs 55 = .ok (.iconst 0, 1) := by decide +kernel
theorem dc_M_brokenByPairs_56 : decode cb_M_brokenByPairs 56 = .ok (.invokevirtual 223, 3) := by decide +kernel
theorem dc_M_brokenByPairs_59 : decode cb_M_brokenByPairs 59 = .ok (.ifCond .eq 17, 3) := by decide +kernel
theorem dc_M_brokenByPairs_62 : decode cb_M_brokenByPairs 62 = .ok (.iload_n 3, 1) := by decide +kernel
theorem dc_M_brokenByPairs_63 : decode cb_M_brokenByPairs 63 = .ok (.iload 4, 2) := by decide +kernel
theorem dc_M_brokenByPairs_65 : decode cb_M_brokenByPairs 65 = .ok (.ishr, 1) := by decide +kernel
theorem dc_M_brokenByPairs_66 : decode cb_M_brokenByPairs 66 = .ok (.iconst 1, 1) := by decide +kernel
theorem dc_M_brokenByPairs_67 : decode cb_M_brokenByPairs 67 = .ok (.iand, 1) := by decide +kernel
theorem dc_M_brokenByPairs_68 : decode cb_M_brokenByPairs 68 = .ok (.iconst 1, 1) := by decide +kernel
theorem dc_M_brokenByPairs_69 : decode cb_M_brokenByPairs 69 = .ok (.if_icmp .ne 7, 3) := by decide +kernel
theorem dc_M_brokenByPairs_72 : decode cb_M_brokenByPairs 72 = .ok (.iconst 1, 1) := by decide +kernel
theorem dc_M_brokenByPairs_73 : decode cb_M_brokenByPairs 73 = .ok (.goto 4, 3) := by decide +kernel
theorem dc_M_brokenByPairs_76 : decode cb_M_brokenByPairs 76 = .ok (.iconst 0, 1) := by decide +kernel
theorem dc_M_brokenByPairs_77 : decode cb_M_brokenByPairs 77 = .ok (.istore 5, 2) := by decide +kernel
theorem dc_M_brokenByPairs_79 : decode cb_M_brokenByPairs 79 = .ok (.iload 5, 2) := by decide +kernel
theorem dc_M_brokenByPairs_81 : decode cb_M_brokenByPairs 81 = .ok (.ifCond .eq 6, 3) := by decide +kernel
theorem dc_M_brokenByPairs_84 : decode cb_M_brokenByPairs 84 = .ok (.iload 4, 2) := by decide +kernel
theorem dc_M_brokenByPairs_86 : decode cb_M_brokenByPairs 86 = .ok (.ireturn, 1) := by decide +kernel
theorem dc_M_brokenByPairs_87 : decode cb_M_brokenByPairs 87 = .ok (.iinc 4 1, 3) := by decide +kernel
theorem dc_M_brokenByPairs_90 : decode cb_M_brokenByPairs 90 = .ok (.goto (-77), 3) := by decide +kernel
theorem dc_M_brokenByPairs_93 : decode cb_M_brokenByPairs 93 = .ok (.iconst (-1), 1) := by decide +kernel
theorem dc_M_brokenByPairs_94 : decode cb_M_brokenByPairs 94 = .ok (.ireturn, 1) := by decide +kernel
theorem dc_M_brokenByType_0 : decode cb_M_brokenByType 0 = .ok (.aload_n 0, 1) := by decide +kernel
theorem dc_M_brokenByType_1 : decode cb_M_brokenByType 1 = .ok (.invokevirtual 193, 3) := by decide +kernel
theorem dc_M_brokenByType_4 : decode cb_M_brokenByType 4 = .ok (.aload_n 0, 1) := by decide +kernel
theorem dc_M_brokenByType_5 : decode cb_M_brokenByType 5 = .ok (.aload_n 0, 1) := by decide +kernel
theorem dc_M_brokenByType_6 : decode cb_M_brokenByType 6 = .ok (.iload_n 1, 1) := by decide +kernel
theorem dc_M_brokenByType_7 : decode cb_M_brokenByType 7 = .ok (.invokevirtual 196, 3) := by decide +kernel
theorem dc_M_brokenByType_10 : decode cb_M_brokenByType 10 = .ok (.invokevirtual 199, 3) := by decide +kernel
theorem dc_M_brokenByType_13 : decode cb_M_brokenByType 13 = .ok (.istore_n 3, 1) := by decide +kernel
theorem dc_M_brokenByType_14 : decode cb_M_brokenByType 14 = .ok (.iconst 0, 1) := by decide +kernel
theorem dc_M_brokenByType_15 : decode cb_M_brokenByType 15 = .ok (.istore 4, 2) := by decide +kernel
theorem dc_M_brokenByType_17 : decode cb_M_brokenByType 17 = .ok (.iload 4, 2) := by decide +kernel
theorem dc_M_brokenByType_19 : decode cb_M_brokenByType 19 = .ok (.aload_n 0, 1) := by decide +kernel
theorem dc_M_brokenByType_20 : decode cb_M_brokenByType 20 = .ok (.getfield 76, 3) := by decide +kernel
theorem dc_M_brokenByType_23 : decode cb_M_brokenByType 23 = .ok (.if_icmp .ge 128, 3) := by decide +kernel
theorem dc_M_brokenByType_26 : decode cb_M_brokenByType 26 = .ok (.aload_n 0, 1) := by decide +kernel
theorem dc_M_brokenByType_27 : decode cb_M_brokenByType 27 = .ok (.invokevirtual 193, 3) := by decide +kernel
theorem dc_M_brokenByType_30 : decode cb_M_brokenByType 30 = .ok (.aload_n 0, 1) := by decide +kernel
theorem dc_M_brokenByType_31 : decode cb_M_brokenByType 31 = .ok (.iload 4, 2) := by decide +kernel
theorem dc_M_brokenByType_33 : decode cb_M_brokenByType 33 = .ok (.iload_n 3, 1) := by decide +kernel
theorem dc_M_brokenByType_34 : decode cb_M_brokenByType 34 = .ok (.invokevirtual 123, 3) := by decide +kernel
theorem dc_M_brokenByType_37 : decode cb_M_brokenByType 37 = .ok (.istore 5, 2) := by decide +kernel
theorem dc_M_brokenByType_39 : decode cb_M_brokenByType 39 = .ok (.iload_n 2, 1) := by decide +kernel
theorem dc_M_brokenByType_40 : decode cb_M_brokenByType 40 = .ok (.iconst 2, 1) := by decide +kernel
theorem dc_M_brokenByType_41 : decode cb_M_brokenByType 41 = .ok (.if_icmp .ne 52, 3) := by decide +kernel
theorem dc_M_brokenByType_44 : decode cb_M_brokenByType 44 = .ok (.iload 5, 2) := by decide +kernel
theorem dc_M_brokenByType_46 : decode cb_M_brokenByType 46 = .ok (.ifCond .le 47, 3) := by decide +kernel
theorem dc_M_brokenByType_49 : decode cb_M_brokenByType 49 = .ok (.aload_n 0, 1) := by decide +kernel
theorem dc_M_brokenByType_50 : decode cb_M_brokenByType 50 = .ok (.getfield 29, 3) := by decide +kernel
theorem dc_M_brokenByType_53 : decode cb_M_brokenByType 53 = .ok (.bipush 7, 2) := by decide +kernel
theorem dc_M_brokenByType_55 : decode cb_M_brokenByType 55 = .ok (.iload 4, 2) := by decide +kernel
theorem dc_M_brokenByType_57 : decode cb_M_brokenByType 57 = .ok (.imul, 1) := by decide +kernel
theorem dc_M_brokenByType_58 : decode cb_M_brokenByType 58 = .ok (.iload 5, 2) := by decide +kernel
theorem dc_M_brokenByType_60 : decode cb_M_brokenByType 60 = .ok (.iadd, 1) := by decide +kernel
theorem dc_M_brokenByType_61 : decode cb_M_brokenByType 61 = .ok (.aload_n 0, 1) := by decide +kernel
theorem dc_M_brokenByType_62 : decode cb_M_brokenByType 62 = .ok (.getfield 29, 3) := by decide +kernel
theorem dc_M_brokenByType_65 : decode cb_M_brokenByType 65 = .ok (.bipush 7, 2) := by decide +kernel
theorem dc_M_brokenByType_67 : decode cb_M_brokenByType 67 = .ok (.iload 4, 2) := by decide +kernel
theorem dc_M_brokenByType_69 : decode cb_M_brokenByType 69 = .ok (.imul, 1) := by decide +kernel
theorem dc_M_brokenByType_70 : decode cb_M_brokenByType 70 = .ok (.iload 5, 2) := by decide +kernel
theorem dc_M_brokenByType_72 : decode cb_M_brokenByType 72 = .ok (.iadd, 1) := by decide +kernel
theorem dc_M_brokenByType_73 : decode cb_M_brokenByType 73 = .ok (.iconst 1, 1) := by decide +kernel
theorem dc_M_brokenByType_74 : decode cb_M_brokenByType 74 = .ok (.isub, 1) := by decide +kernel
theorem dc_M_brokenByType_75 : decode cb_M_brokenByType 75 = .ok (.iaload, 1) := by decide +kernel
theorem dc_M_brokenByType_76 : decode cb_M_brokenByType 76 = .ok (.iastore, 1) := by decide +kernel
theorem dc_M_brokenByType_77 : decode cb_M_brokenByType 77 = .ok (.aload_n 0, 1) := by decide +kernel
theorem dc_M_brokenByType_78 : decode cb_M_brokenByType 78 = .ok (.getfield 29, 3) := by decide +kernel
theorem dc_M_brokenByType_81 : decode cb_M_brokenByType 81 = .ok (.bipush 7, 2) := by decide +kernel
theorem dc_M_brokenByType_83 : decode cb_M_brokenByType 83 = .ok (.iload 4, 2) := by decide +kernel
theorem dc_M_brokenByType_85 : decode cb_M_brokenByType 85 = .ok (.imul, 1) := by decide +kernel
theorem dc_M_brokenByType_86 : decode cb_M_brokenByType 86 = .ok (.iload 5, 2) := by decide +kernel
theorem dc_M_brokenByType_88 : decode cb_M_brokenByType 88 = .ok (.iadd, 1) := by decide +kernel
theorem dc_M_brokenByType_89 : decode cb_M_brokenByType 89 = .ok (.iconst 1, 1) := by decide +kernel
theorem dc_M_brokenByType_90 : decode cb_M_brokenByType 90 = .ok (.isub, 1) := by decide +kernel
theorem dc_M_brokenByType_91 : decode cb_M_brokenByType 91 = .ok (.iload_n 3, 1) := by decide +kernel
theorem dc_M_brokenByType_92 : decode cb_M_brokenByType 92 = .ok (.iastore, 1) := by decide +kernel
theorem dc_M_brokenByType_93 : decode cb_M_brokenByType 93 = .ok (.aload_n 0, 1) := by decide +kernel
theorem dc_M_brokenByType_94 : decode cb_M_brokenByType 94 = .ok (.getfield 32, 3) := by decide +kernel
theorem dc_M_brokenByType_97 : decode cb_M_brokenByType 97 = .ok (.iload 4, 2) := by decide +kernel
theorem dc_M_brokenByType_99 : decode cb_M_brokenByType 99 = .ok (.iload_n 2, 1) := by decide +kernel
theorem dc_M_brokenByType_100 : decode cb_M_brokenByType 100 = .ok (.iconst 3, 1) := by decide +kernel
theorem dc_M_brokenByType_101 : decode cb_M_brokenByType 101 = .ok (.if_icmp .ne 20, 3) := by decide +kernel
theorem dc_M_brokenByType_104 : decode cb_M_brokenByType 104 = .ok (.iload 5, 2) := by decide +kernel
theorem dc_M_brokenByType_106 : decode cb_M_brokenByType 106 = .ok (.ifCond .ne 15, 3) := by decide +kernel
theorem dc_M_brokenByType_109 : decode cb_M_brokenByType 109 = .ok (.aload_n 0, 1) := by decide +kernel
theorem dc_M_brokenByType_110 : decode cb_M_brokenByType 110 = .ok (.getfield 32, 3) := by decide +kernel
theorem dc_M_brokenByType_113 : decode cb_M_brokenByType 113 = .ok (.iload 4, 2) := by decide +kernel
theorem dc_M_brokenByType_115 : decode cb_M_brokenByType 115 = .ok (.iaload, 1) := by decide +kernel
theorem dc_M_brokenByType_116 : decode cb_M_brokenByType 116 = .ok (.iconst 1, 1) := by decide +kernel
theorem dc_M_brokenByType_117 : decode cb_M_brokenByType 117 = .ok (.iadd, 1) := by decide +kernel
theorem dc_M_brokenByType_118 : decode cb_M_brokenByType 118 = .ok (.goto 10, 3) := by decide +kernel
theorem dc_M_brokenByType_121 : decode cb_M_brokenByType 121 = .ok (.aload_n 0, 1) := by decide +kernel
theorem dc_M_brokenByType_122 : decode cb_M_brokenByType 122 = .ok (.getfield 32, 3) := by decide +kernel
theorem dc_M_brokenByType_125 : decode cb_M_brokenByType 125 = .ok (.iload 4, 2) := by decide +kernel
theorem dc_M_brokenByType_127 : decode cb_M_brokenByType 127 = .ok (.iaload, 1) := by decide +kernel
theorem dc_M_brokenByType_128 : decode cb_M_brokenByType 128 = .ok (.iastore, 1) := by decide +kernel
theorem dc_M_brokenByType_129 : decode cb_M_brokenByType 129 = .ok (.aload_n 0, 1) := by decide +kernel
theorem dc_M_brokenByType_130 : decode cb_M_brokenByType 130 = .ok (.aload_n 0, 1) := by decide +kernel
theorem dc_M_brokenByType_131 : decode cb_M_brokenByType 131 = .ok (.iload_n 1, 1) := by decide +kernel
theorem dc_M_brokenByType_132 : decode cb_M_brokenByType 132 = .ok (.invokevirtual 196, 3) := by decide +kernel
theorem dc_M_brokenByType_135 : decode cb_M_brokenByType 135 = .ok (.invokevirtual 199, 3) := by decide +kernel
theorem dc_M_brokenByType_138 : decode cb_M_brokenByType 138 = .ok (.iload_n 3, 1) := by decide +kernel
theorem dc_M_brokenByType_139 : decode cb_M_brokenByType 139 = .ok (.if_icmp .eq 6, 3) := by decide +kernel
theorem dc_M_brokenByType_142 : decode cb_M_brokenByType 142 = .ok (.iload 4, 2) := by decide +kernel
theorem dc_M_brokenByType_144 : decode cb_M_brokenByType 144 = .ok (.ireturn, 1) := by decide +kernel
theorem dc_M_brokenByType_145 : decode cb_M_brokenByType 145 = .ok (.iinc 4 1, 3) := by decide +kernel
theorem dc_M_brokenByType_148 : decode cb_M_brokenByType 148 = .ok (.goto (-131), 3) := by decide +kernel
theorem dc_M_brokenByType_151 : decode cb_M_brokenByType 151 = .ok (.iconst (-1), 1) := by decide +kernel
theorem dc_M_brokenByType_152 : decode cb_M_brokenByType 152 = .ok (.ireturn, 1) := by decide +kernel
theorem dc_M_brokenByLeaving_0 : decode cb_M_brokenByLeaving 0 = .ok (.aload_n 0, 1) := by decide +kernel
theorem dc_M_brokenByLeaving_1 : decode cb_M_brokenByLeaving 1 = .ok (.invokevirtual 193, 3) := by decide +kernel
theorem dc_M_brokenByLeaving_4 : decode cb_M_brokenByLeaving 4 = .ok (.aload_n 0, 1) := by decide +kernel
theorem dc_M_brokenByLeaving_5 : decode cb_M_brokenByLeaving 5 = .ok (.iload_n 1, 1) := by decide +kernel
theorem dc_M_brokenByLeaving_6 : decode cb_M_brokenByLeaving 6 = .ok (.invokevirtual 196, 3) := by decide +kernel
theorem dc_M_brokenByLeaving_9 : decode cb_M_brokenByLeaving 9 = .ok (.istore_n 2, 1) := by decide +kernel
theorem dc_M_brokenByLeaving_10 : decode cb_M_brokenByLeaving 10 = .ok (.aload_n 0, 1) := by decide +kernel
theorem dc_M_brokenByLeaving_11 : decode cb_M_brokenByLeaving 11 = .ok (.iload_n 2, 1) := by decide +kernel
theorem dc_M_brokenByLeaving_12 : decode cb_M_brokenByLeaving 12 = .ok (.invokevirtual 199, 3) := by decide +kernel
theorem dc_M_brokenByLeaving_15 : decode cb_M_brokenByLeaving 15 = .ok (.istore_n 3, 1) := by decide +kernel
theorem dc_M_brokenByLeaving_16 : decode cb_M_brokenByLeaving 16 = .ok (.iconst 0, 1) := by decide +kernel
theorem dc_M_brokenByLeaving_17 : decode cb_M_brokenByLeaving 17 = .ok (.istore 4, 2) := by decide +kernel
theorem dc_M_brokenByLeaving_19 : decode cb_M_brokenByLeaving 19 = .ok (.iload 4, 2) := by decide +kernel
theorem dc_M_brokenByLeaving_21 : decode cb_M_brokenByLeaving 21 = .ok (.aload_n 0, 1) := by decide +kernel
theorem dc_M_brokenByLeaving_22 : decode cb_M_brokenByLeaving 22 = .ok (.getfield 7, 3) := by decide +kernel
theorem dc_M_brokenByLeaving_25 : decode cb_M_brokenByLeaving 25 = .ok (.if_icmp .ge 64, 3) := by decide +kernel
theorem dc_M_brokenByLeaving_28 : decode cb_M_brokenByLeaving 28 = .ok (.aload_n 0, 1) := by decide +kernel
theorem dc_M_brokenByLeaving_29 : decode cb_M_brokenByLeaving 29 = .ok (.getfield 7, 3) := by decide +kernel
theorem dc_M_brokenByLeaving_32 : decode cb_M_brokenByLeaving 32 = .ok (.iconst 2, 1) := by decide +kernel
theorem dc_M_brokenByLeaving_33 : decode cb_M_brokenByLeaving 33 = .ok (.if_icmp .le 56, 3) := by decide +kernel
theorem dc_M_brokenByLeaving_36 : decode cb_M_brokenByLeaving 36 = .ok (.iload_n 2, 1) := by decide +kernel
theorem dc_M_brokenByLeaving_37 : decode cb_M_brokenByLeaving 37 = .ok (.iload 4, 2) := by decide +kernel
theorem dc_M_brokenByLeaving_39 : decode cb_M_brokenByLeaving 39 = .ok (.ishr, 1) := by decide +kernel
theorem dc_M_brokenByLeaving_40 : decode cb_M_brokenByLeaving 40 = .ok (.iconst 1, 1) := by decide +kernel
theorem dc_M_brokenByLeaving_41 : decode cb_M_brokenByLeaving 41 = .ok (.iand, 1) := by decide +kernel
theorem dc_M_brokenByLeaving_42 : decode cb_M_brokenByLeaving 42 = .ok (.ifCond .ne 41, 3) := by decide +kernel
theorem dc_M_brokenByLeaving_45 : decode cb_M_brokenByLeaving 45 = .ok (.aload_n 0, 1) := by decide +kernel
theorem dc_M_brokenByLeaving_46 : decode cb_M_brokenByLeaving 46 = .ok (.invokevirtual 193, 3) := by decide +kernel
theorem dc_M_brokenByLeaving_49 : decode cb_M_brokenByLeaving 49 = .ok (.aload_n 0, 1) := by decide +kernel
theorem dc_M_brokenByLeaving_50 : decode cb_M_brokenByLeaving 50 = .ok (.iload 4, 2) := by decide +kernel
theorem dc_M_brokenByLeaving_52 : decode cb_M_brokenByLeaving 52 = .ok (.invokevirtual 226, 3) := by decide +kernel
theorem dc_M_brokenByLeaving_55 : decode cb_M_brokenByLeaving 55 = .ok (.aload_n 0, 1) := by decide +kernel
theorem dc_M_brokenByLeaving_56 : decode cb_M_brokenByLeaving 56 = .ok (.aload_n 0, 1) := by decide +kernel
theorem dc_M_brokenByLeaving_57 : decode cb_M_brokenByLeaving 57 = .ok (.iload_n 1, 1) := by decide +kernel
theorem dc_M_brokenByLeaving_58 : decode cb_M_brokenByLeaving 58 = .ok (.invokevirtual 196, 3) := by decide +kernel
theorem dc_M_brokenByLeaving_61 : decode cb_M_brokenByLeaving 61 = .ok (.invokevirtual 199, 3) := by decide +kernel
theorem dc_M_brokenByLeaving_64 : decode cb_M_brokenByLeaving 64 = .ok (.iload_n 3, 1) := by decide +kernel
theorem dc_M_brokenByLeaving_65 : decode cb_M_brokenByLeaving 65 = .ok (.iload 4, 2) := by decide +kernel
theorem dc_M_brokenByLeaving_67 : decode cb_M_brokenByLeaving 67 = .ok (.if_icmp .le 9, 3) := by decide +kernel
theorem dc_M_brokenByLeaving_70 : decode cb_M_brokenByLeaving 70 = .ok (.iload_n 3, 1) := by decide +kernel
theorem dc_M_brokenByLeaving_71 : decode cb_M_brokenByLeaving 71 = .ok (.iconst 1, 1) := by decide +kernel
theorem dc_M_brokenByLeaving_72 : decode cb_M_brokenByLeaving 72 = .ok (.isub, 1) := by decide +kernel
theorem dc_M_brokenByLeaving_73 : decode cb_M_brokenByLeaving 73 = .ok (.goto 4, 3) := by decide +kernel
theorem dc_M_brokenByLeaving_76 : decode cb_M_brokenByLeaving 76 = .ok (.iload_n 3, 1) := by decide +kernel
theorem dc_M_brokenByLeaving_77 : decode cb_M_brokenByLeaving 77 = .ok (.if_icmp .eq 6, 3) := by decide +kernel
theorem dc_M_brokenByLeaving_80 : decode cb_M_brokenByLeaving 80 = .ok (.iload 4, 2) := by decide +kernel
theorem dc_M_brokenByLeaving_82 : decode cb_M_brokenByLeaving 82 = .ok (.ireturn, 1) := by decide +kernel
theorem dc_M_brokenByLeaving_83 : decode cb_M_brokenByLeaving 83 = .ok (.iinc 4 1, 3) := by decide +kernel
theorem dc_M_brokenByLeaving_86 : decode cb_M_brokenByLeaving 86 = .ok (.goto (-67), 3) := by decide +kernel
theorem dc_M_brokenByLeaving_89 : decode cb_M_brokenByLeaving 89 = .ok (.iconst (-1), 1) := by decide +kernel
theorem dc_M_brokenByLeaving_90 : decode cb_M_brokenByLeaving 90 = .ok (.ireturn, 1) := by decide +kernel
theorem dc_M_property_0 : decode cb_M_property 0 = .ok (.aload_n 0, 1) := by decide +kernel
theorem dc_M_property_1 : decode cb_M_property 1 = .ok (.iload_n 1, 1) := by decide +kernel
theorem dc_M_property_2 : decode cb_M_property 2 = .ok (.invokestatic 190, 3) := by decide +kernel
theorem dc_M_property_5 : decode cb_M_property 5 = .ok (.ifCond .eq 16, 3) := by decide +kernel
theorem dc_M_property_8 : decode cb_M_property 8 = .ok (.iload_n 2, 1) := by decide +kernel
theorem dc_M_property_9 : decode cb_M_property 9 = .ok (.iconst 0, 1) := by decide +kernel
theorem dc_M_property_10 : decode cb_M_property 10 = .ok (.iconst 4, 1) := by decide +kernel
theorem dc_M_property_11 : decode cb_M_property 11 = .ok (.invokestatic 82, 3) := by decide +kernel
theorem dc_M_property_14 : decode cb_M_property 14 = .ok (.ifCond .eq 7, 3) := by decide +kernel
theorem dc_M_property_17 : decode cb_M_property 17 = .ok (.iconst 1, 1) := by decide +kernel
theorem dc_M_property_18 : decode cb_M_property 18 = .ok (.goto 4, 3) := by decide +kernel
theorem dc_M_property_21 : decode cb_M_property 21 = .ok (.iconst 0, 1) := by decide +kernel
theorem dc_M_property_22 : decode cb_M_property 22 = .ok (.iconst 1, 1) := by decide +kernel
theorem dc_M_property_23 : decode cb_M_property 23 = .ok (.invokevirtual 86, 3) := by decide +kernel
theorem dc_M_property_26 : decode cb_M_property 26 = .ok (.ifCond .ne 5, 3) := by decide +kernel
theorem dc_M_property_29 : decode cb_M_property 29 = .ok (.iconst 0, 1) := by decide +kernel
theorem dc_M_property_30 : decode cb_M_property 30 = .ok (.ireturn, 1) := by decide +kernel
theorem dc_M_property_31 : decode cb_M_property 31 = .ok (.aload_n 0, 1) := by decide +kernel
theorem dc_M_property_32 : decode cb_M_property 32 = .ok (.iload_n 2, 1) := by decide +kernel
theorem dc_M_property_33 : decode cb_M_property 33 = .ok (.iconst 2, 1) := by decide +kernel
theorem dc_M_property_34 : decode cb_M_property 34 = .ok (.if_icmp .ge 12, 3) := by decide +kernel
theorem dc_M_property_37 : decode cb_M_property 37 = .ok (.aload_n 0, 1) := by decide +kernel
theorem dc_M_property_38 : decode cb_M_property 38 = .ok (.iload_n 1, 1) := by decide +kernel
theorem dc_M_property_39 : decode cb_M_property 39 = .ok (.iload_n 2, 1) := by decide +kernel
theorem dc_M_property_40 : decode cb_M_property 40 = .ok (.invokevirtual 230, 3) := by decide +kernel
theorem dc_M_property_43 : decode cb_M_property 43 = .ok (.goto 22, 3) := by decide +kernel
theorem dc_M_property_46 : decode cb_M_property 46 = .ok (.iload_n 2, 1) := by decide +kernel
theorem dc_M_property_47 : decode cb_M_property 47 = .ok (.iconst 4, 1) := by decide +kernel
theorem dc_M_property_48 : decode cb_M_property 48 = .ok (.if_icmp .ge 12, 3) := by decide +kernel
theorem dc_M_property_51 : decode cb_M_property 51 = .ok (.aload_n 0, 1) := by decide +kernel
theorem dc_M_property_52 : decode cb_M_property 52 = .ok (.iload_n 1, 1) := by decide +kernel
theorem dc_M_property_53 : decode cb_M_property 53 = .ok (.iload_n 2, 1) := by decide +kernel
theorem dc_M_property_54 : decode cb_M_property 54 = .ok (.invokevirtual 233, 3) := by decide +kernel
theorem dc_M_property_57 : decode cb_M_property 57 = .ok (.goto 8, 3) := by decide +kernel
theorem dc_M_property_60 : decode cb_M_property 60 = .ok (.aload_n 0, 1) := by decide +kernel
theorem dc_M_property_61 : decode cb_M_property 61 = .ok (.iload_n 1, 1) := by decide +kernel
theorem dc_M_property_62 : decode cb_M_property 62 = .ok (.invokevirtual 236, 3) := by decide +kernel
theorem dc_M_property_65 : decode cb_M_property 65 = .ok (.putfield 70, 3) := by decide +kernel
theorem dc_M_property_68 : decode cb_M_property 68 = .ok (.aload_n 0, 1) := by decide +kernel
theorem dc_M_property_69 : decode cb_M_property 69 = .ok (.getfield 70, 3) := by decide +kernel
theorem dc_M_property_72 : decode cb_M_property 72 = .ok (.iconst (-1), 1) := by decide +kernel
theorem dc_M_property_73 : decode cb_M_property 73 = .ok (.if_icmp .ne 7, 3) := by decide +kernel
theorem dc_M_property_76 : decode cb_M_property 76 = .ok (.iconst 1, 1) := by decide +kernel
theorem dc_M_property_77 : decode cb_M_property 77 = .ok (.goto 4, 3) := by decide +kernel
theorem dc_M_property_80 : decode cb_M_property 80 = .ok (.iconst 0, 1) := by decide +kernel
theorem dc_M_property_81 : decode cb_M_property 81 = .ok (.ireturn, 1) := by decide +kernel
theorem dc_M_witness_0 : decode cb_M_witness 0 = .ok (.aload_n 0, 1) := by decide +kernel
theorem dc_M_witness_1 : decode cb_M_witness 1 = .ok (.iconst 0, 1) := by decide +kernel
theorem dc_M_witness_2 : decode cb_M_witness 2 = .ok (.putfield 79, 3) := by decide +kernel
theorem dc_M_witness_5 : decode cb_M_witness 5 = .ok (.aload_n 0, 1) := by decide +kernel
theorem dc_M_witness_6 : decode cb_M_witness 6 = .ok (.getfield 70, 3) := by decide +kernel
theorem dc_M_witness_9 : decode cb_M_witness 9 = .ok (.ireturn, 1) := by decide +kernel
theorem dc_M_circle_0 : decode cb_M_circle 0 = .ok (.aload_n 0, 1) := by decide +kernel
theorem dc_M_circle_1 : decode cb_M_circle 1 = .ok (.iload_n 1, 1) := by decide +kernel
theorem dc_M_circle_2 : decode cb_M_circle 2 = .ok (.iconst 0, 1) := by decide +kernel
theorem dc_M_circle_3 : decode cb_M_circle 3 = .ok (.iconst 2, 1) := by decide +kernel
theorem dc_M_circle_4 : decode cb_M_circle 4 = .ok (.invokestatic 82, 3) := by decide +kernel
theorem dc_M_circle_7 : decode cb_M_circle 7 = .ok (.iconst 1, 1) := by decide +kernel
theorem dc_M_circle_8 : decode cb_M_circle 8 = .ok (.invokevirtual 86, 3) := by decide +kernel
theorem dc_M_circle_11 : decode cb_M_circle 11 = .ok (.ifCond .ne 5, 3) := by decide +kernel
theorem dc_M_circle_14 : decode cb_M_circle 14 = .ok (.iconst 0, 1) := by decide +kernel
theorem dc_M_circle_15 : decode cb_M_circle 15 = .ok (.ireturn, 1) := by decide +kernel
theorem dc_M_circle_16 : decode cb_M_circle 16 = .ok (.aload_n 0, 1) := by decide +kernel
theorem dc_M_circle_17 : decode cb_M_circle 17 = .ok (.invokevirtual 193, 3) := by decide +kernel
theorem dc_M_circle_20 : decode cb_M_circle 20 = .ok (.aload_n 0, 1) := by decide +kernel
theorem dc_M_circle_21 : decode cb_M_circle 21 = .ok (.invokevirtual 162, 3) := by decide +kernel
theorem dc_M_circle_24 : decode cb_M_circle 24 = .ok (.iconst 0, 1) := by decide +kernel
theorem dc_M_circle_25 : decode cb_M_circle 25 = .ok (.istore_n 2, 1) := by decide +kernel
theorem dc_M_circle_26 : decode cb_M_circle 26 = .ok (.iload_n 2, 1) := by decide +kernel
theorem dc_M_circle_27 : decode cb_M_circle 27 = .ok (.sipush 343, 3) := by decide +kernel
theorem dc_M_circle_30 : decode cb_M_circle 30 = .ok (.if_icmp .ge 107, 3) := by decide +kernel
theorem dc_M_circle_33 : decode cb_M_circle 33 = .ok (.iload_n 2, 1) := by decide +kernel
theorem dc_M_circle_34 : decode cb_M_circle 34 = .ok (.bipush 49, 2) := by decide +kernel
theorem dc_M_circle_36 : decode cb_M_circle 36 = .ok (.idiv, 1) := by decide +kernel
theorem dc_M_circle_37 : decode cb_M_circle 37 = .ok (.istore_n 3, 1) := by decide +kernel
theorem dc_M_circle_38 : decode cb_M_circle 38 = .ok (.iload_n 2, 1) := by decide +kernel
theorem dc_M_circle_39 : decode cb_M_circle 39 = .ok (.bipush 7, 2) := by decide +kernel
theorem dc_M_circle_41 : decode cb_M_circle 41 = .ok (.idiv, 1) := by decide +kernel
theorem dc_M_circle_42 : decode cb_M_circle 42 = .ok (.bipush 7, 2) := by decide +kernel
theorem dc_M_circle_44 : decode cb_M_circle 44 = .ok (.irem, 1) := by decide +kernel
theorem dc_M_circle_45 : decode cb_M_circle 45 = .ok (.istore 4, 2) := by decide +kernel
theorem dc_M_circle_47 : decode cb_M_circle 47 = .ok (.iload_n 2, 1) := by decide +kernel
theorem dc_M_circle_48 : decode cb_M_circle 48 = .ok (.bipush 7, 2) := by decide +kernel
theorem dc_M_circle_50 : decode cb_M_circle 50 = .ok (.irem, 1) := by decide +kernel
theorem dc_M_circle_51 : decode cb_M_circle 51 = .ok (.istore 5, 2) := by decide +kernel
theorem dc_M_circle_53 : decode cb_M_circle 53 = .ok (.iload_n 3, 1) := by decide +kernel
theorem dc_M_circle_54 : decode cb_M_circle 54 = .ok (.aload_n 0, 1) := by decide +kernel
theorem dc_M_circle_55 : decode cb_M_circle 55 = .ok (.getfield 7, 3) := by decide +kernel
theorem dc_M_circle_58 : decode cb_M_circle 58 = .ok (.if_icmp .ge 73, 3) := by decide +kernel
theorem dc_M_circle_61 : decode cb_M_circle 61 = .ok (.iload 4, 2) := by decide +kernel
theorem dc_M_circle_63 : decode cb_M_circle 63 = .ok (.aload_n 0, 1) := by decide +kernel
theorem dc_M_circle_64 : decode cb_M_circle 64 = .ok (.getfield 7, 3) := by decide +kernel
theorem dc_M_circle_67 : decode cb_M_circle 67 = .ok (.if_icmp .ge 64, 3) := by decide +kernel
theorem dc_M_circle_70 : decode cb_M_circle 70 = .ok (.iload 5, 2) := by decide +kernel
theorem dc_M_circle_72 : decode cb_M_circle 72 = .ok (.aload_n 0, 1) := by decide +kernel
theorem dc_M_circle_73 : decode cb_M_circle 73 = .ok (.getfield 7, 3) := by decide +kernel
theorem dc_M_circle_76 : decode cb_M_circle 76 = .ok (.if_icmp .ge 55, 3) := by decide +kernel
theorem dc_M_circle_79 : decode cb_M_circle 79 = .ok (.aload_n 0, 1) := by decide +kernel
theorem dc_M_circle_80 : decode cb_M_circle 80 = .ok (.iload_n 3, 1) := by decide +kernel
theorem dc_M_circle_81 : decode cb_M_circle 81 = .ok (.iload 4, 2) := by decide +kernel
theorem dc_M_circle_83 : decode cb_M_circle 83 = .ok (.invokevirtual 126, 3) := by decide +kernel
theorem dc_M_circle_86 : decode cb_M_circle 86 = .ok (.ifCond .eq 45, 3) := by decide +kernel
theorem dc_M_circle_89 : decode cb_M_circle 89 = .ok (.aload_n 0, 1) := by decide +kernel
theorem dc_M_circle_90 : decode cb_M_circle 90 = .ok (.iload 4, 2) := by decide +kernel
theorem dc_M_circle_92 : decode cb_M_circle 92 = .ok (.iload 5, 2) := by decide +kernel
theorem dc_M_circle_94 : decode cb_M_circle 94 = .ok (.invokevirtual 126, 3) := by decide +kernel
theorem dc_M_circle_97 : decode cb_M_circle 97 = .ok (.ifCond .eq 34, 3) := by decide +kernel
theorem dc_M_circle_100 : decode cb_M_circle 100 = .ok (.aload_n 0, 1) := by decide +kernel
theorem dc_M_circle_101 : decode cb_M_circle 101 = .ok (.iload 5, 2) := by decide +kernel
theorem dc_M_circle_103 : decode cb_M_circle 103 = .ok (.iload_n 3, 1) := by decide +kernel
theorem dc_M_circle_104 : decode cb_M_circle 104 = .ok (.invokevirtual 126, 3) := by decide +kernel
theorem dc_M_circle_107 : decode cb_M_circle 107 = .ok (.ifCond .eq 24, 3) := by decide +kernel
theorem dc_M_circle_110 : decode cb_M_circle 110 = .ok (.iload_n 1, 1) := by decide +kernel
theorem dc_M_circle_111 : decode cb_M_circle 111 = .ok (.ifCond .ne 7, 3) := by decide +kernel
theorem dc_M_circle_114 : decode cb_M_circle 114 = .ok (.iload_n 3, 1) := by decide +kernel
theorem dc_M_circle_115 : decode cb_M_circle 115 = .ok (.goto 15, 3) := by decide +kernel
theorem dc_M_circle_118 : decode cb_M_circle 118 = .ok (.iload_n 1, 1) := by decide +kernel
theorem dc_M_circle_119 : decode cb_M_circle 119 = .ok (.iconst 1, 1) := by decide +kernel
theorem dc_M_circle_120 : decode cb_M_circle 120 = .ok (.if_icmp .ne 8, 3) := by decide +kernel
theorem dc_M_circle_123 : decode cb_M_circle 123 = .ok (.iload 4, 2) := by decide +kernel
theorem dc_M_circle_125 : decode cb_M_circle 125 = .ok (.goto 5, 3) := by decide +kernel
theorem dc_M_circle_128 : decode cb_M_circle 128 = .ok (.iload 5, 2) := by decide +kernel
theorem dc_M_circle_130 : decode cb_M_circle 130 = .ok (.ireturn, 1) := by decide +kernel
theorem dc_M_circle_131 : decode cb_M_circle 131 = .ok (.iinc 2 1, 3) := by decide +kernel
theorem dc_M_circle_134 : decode cb_M_circle 134 = .ok (.goto (-108), 3) := by decide +kernel
theorem dc_M_circle_137 : decode cb_M_circle 137 = .ok (.iconst (-1), 1) := by decide +kernel
theorem dc_M_circle_138 : decode cb_M_circle 138 = .ok (.ireturn, 1) := by decide +kernel
theorem dc_M_clones_0 : decode cb_M_clones 0 = .ok (.aload_n 0, 1) := by decide +kernel
theorem dc_M_clones_1 : decode cb_M_clones 1 = .ok (.iload_n 1, 1) := by decide +kernel
theorem dc_M_clones_2 : decode cb_M_clones 2 = .ok (.ifCond .le 24, 3) := by decide +kernel
theorem dc_M_clones_5 : decode cb_M_clones 5 = .ok (.iload_n 1, 1) := by decide +kernel
theorem dc_M_clones_6 : decode cb_M_clones 6 = .ok (.iconst 1, 1) := by decide +kernel
theorem dc_M_clones_7 : decode cb_M_clones 7 = .ok (.aload_n 0, 1) := by decide +kernel
theorem dc_M_clones_8 : decode cb_M_clones 8 = .ok (.getfield 7, 3) := by decide +kernel
theorem dc_M_clones_11 : decode cb_M_clones 11 = .ok (.ishl, 1) := by decide +kernel
theorem dc_M_clones_12 : decode cb_M_clones 12 = .ok (.if_icmp .ge 14, 3) := by decide +kernel
theorem dc_M_clones_15 : decode cb_M_clones 15 = .ok (.iload_n 1, 1) := by decide +kernel
theorem dc_M_clones_16 : decode cb_M_clones 16 = .ok (.invokestatic 136, 3) := by decide +kernel
theorem dc_M_clones_19 : decode cb_M_clones 19 = .ok (.ifCond .ne 7, 3) := by decide +kernel
theorem dc_M_clones_22 : decode cb_M_clones 22 = .ok (.iconst 1, 1) := by decide +kernel
theorem dc_M_clones_23 : decode cb_M_clones 23 = .ok (.goto 4, 3) := by decide +kernel
theorem dc_M_clones_26 : decode cb_M_clones 26 = .ok (.iconst 0, 1) := by decide +kernel
theorem dc_M_clones_27 : decode cb_M_clones 27 = .ok (.iconst 1, 1) := by decide +kernel
theorem dc_M_clones_28 : decode cb_M_clones 28 = .ok (.invokevirtual 86, 3) := by decide +kernel
theorem dc_M_clones_31 : decode cb_M_clones 31 = .ok (.ifCond .ne 5, 3) := by decide +kernel
theorem dc_M_clones_34 : decode cb_M_clones 34 = .ok (.iconst 0, 1) := by decide +kernel
theorem dc_M_clones_35 : decode cb_M_clones 35 = .ok (.ireturn, 1) := by decide +kernel
theorem dc_M_clones_36 : decode cb_M_clones 36 = .ok (.iconst 1, 1) := by decide +kernel
theorem dc_M_clones_37 : decode cb_M_clones 37 = .ok (.istore_n 2, 1) := by decide +kernel
theorem dc_M_clones_38 : decode cb_M_clones 38 = .ok (.iconst 0, 1) := by decide +kernel
theorem dc_M_clones_39 : decode cb_M_clones 39 = .ok (.istore_n 3, 1) := by decide +kernel
theorem dc_M_clones_40 : decode cb_M_clones 40 = .ok (.iload_n 3, 1) := by decide +kernel
theorem dc_M_clones_41 : decode cb_M_clones 41 = .ok (.aload_n 0, 1) := by decide +kernel
