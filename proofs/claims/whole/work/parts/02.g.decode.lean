theorem dc_R_init_19 : decode cb_R_init 19 = .ok (.dup, 1) := by decide +kernel
theorem dc_R_init_20 : decode cb_R_init 20 = .ok (.invokespecial 20, 3) := by decide +kernel
theorem dc_R_init_23 : decode cb_R_init 23 = .ok (.putfield 21, 3) := by decide +kernel
theorem dc_R_init_26 : decode cb_R_init 26 = .ok (.aload_n 0, 1) := by decide +kernel
theorem dc_R_init_27 : decode cb_R_init 27 = .ok (.new 25, 3) := by decide +kernel
theorem dc_R_init_30 : decode cb_R_init 30 = .ok (.dup, 1) := by decide +kernel
theorem dc_R_init_31 : decode cb_R_init 31 = .ok (.invokespecial 27, 3) := by decide +kernel
theorem dc_R_init_34 : decode cb_R_init 34 = .ok (.putfield 28, 3) := by decide +kernel
theorem dc_R_init_37 : decode cb_R_init 37 = .ok (.aload_n 0, 1) := by decide +kernel
theorem dc_R_init_38 : decode cb_R_init 38 = .ok (.new 32, 3) := by decide +kernel
theorem dc_R_init_41 : decode cb_R_init 41 = .ok (.dup, 1) := by decide +kernel
theorem dc_R_init_42 : decode cb_R_init 42 = .ok (.invokespecial 34, 3) := by decide +kernel
theorem dc_R_init_45 : decode cb_R_init 45 = .ok (.putfield 35, 3) := by decide +kernel
theorem dc_R_init_48 : decode cb_R_init 48 = .ok (.aload_n 0, 1) := by decide +kernel
theorem dc_R_init_49 : decode cb_R_init 49 = .ok (.bipush 7, 2) := by decide +kernel
theorem dc_R_init_51 : decode cb_R_init 51 = .ok (.newarray .int, 2) := by decide +kernel
theorem dc_R_init_53 : decode cb_R_init 53 = .ok (.putfield 39, 3) := by decide +kernel
theorem dc_R_init_56 : decode cb_R_init 56 = .ok (.return_, 1) := by decide +kernel
theorem dc_R_theWinner_0 : decode cb_R_theWinner 0 = .ok (.aload_n 1, 1) := by decide +kernel
theorem dc_R_theWinner_1 : decode cb_R_theWinner 1 = .ok (.aload_n 0, 1) := by decide +kernel
theorem dc_R_theWinner_2 : decode cb_R_theWinner 2 = .ok (.aload_n 1, 1) := by decide +kernel
theorem dc_R_theWinner_3 : decode cb_R_theWinner 3 = .ok (.iload_n 2, 1) := by decide +kernel
theorem dc_R_theWinner_4 : decode cb_R_theWinner 4 = .ok (.invokevirtual 43, 3) := by decide +kernel
theorem dc_R_theWinner_7 : decode cb_R_theWinner 7 = .ok (.invokevirtual 47, 3) := by decide +kernel
theorem dc_R_theWinner_10 : decode cb_R_theWinner 10 = .ok (.ireturn, 1) := by decide +kernel
theorem dc_R_winnerSet_0 : decode cb_R_winnerSet 0 = .ok (.iload_n 2, 1) := by decide +kernel
theorem dc_R_winnerSet_1 : decode cb_R_winnerSet 1 = .ok (.tableswitch 105 3 11 #[51, 56, 105, 105, 65, 74, 83, 92, 98], 51) := by decide +kernel
theorem dc_R_winnerSet_52 : decode cb_R_winnerSet 52 = .ok (.aload_n 1, 1) := by decide +kernel
theorem dc_R_winnerSet_53 : decode cb_R_winnerSet 53 = .ok (.invokestatic 53, 3) := by decide +kernel
theorem dc_R_winnerSet_56 : decode cb_R_winnerSet 56 = .ok (.ireturn, 1) := by decide +kernel
theorem dc_R_winnerSet_57 : decode cb_R_winnerSet 57 = .ok (.aload_n 0, 1) := by decide +kernel
theorem dc_R_winnerSet_58 : decode cb_R_winnerSet 58 = .ok (.getfield 12, 3) := by decide +kernel
theorem dc_R_winnerSet_61 : decode cb_R_winnerSet 61 = .ok (.aload_n 1, 1) := by decide +kernel
theorem dc_R_winnerSet_62 : decode cb_R_winnerSet 62 = .ok (.invokevirtual 57, 3) := by decide +kernel
theorem dc_R_winnerSet_65 : decode cb_R_winnerSet 65 = .ok (.ireturn, 1) := by decide +kernel
theorem dc_R_winnerSet_66 : decode cb_R_winnerSet 66 = .ok (.aload_n 0, 1) := by decide +kernel
theorem dc_R_winnerSet_67 : decode cb_R_winnerSet 67 = .ok (.getfield 21, 3) := by decide +kernel
theorem dc_R_winnerSet_70 : decode cb_R_winnerSet 70 = .ok (.aload_n 1, 1) := by decide +kernel
theorem dc_R_winnerSet_71 : decode cb_R_winnerSet 71 = .ok (.invokevirtual 59, 3) := by decide +kernel
theorem dc_R_winnerSet_74 : decode cb_R_winnerSet 74 = .ok (.ireturn, 1) := by decide +kernel
theorem dc_R_winnerSet_75 : decode cb_R_winnerSet 75 = .ok (.aload_n 0, 1) := by decide +kernel
theorem dc_R_winnerSet_76 : decode cb_R_winnerSet 76 = .ok (.getfield 28, 3) := by decide +kernel
theorem dc_R_winnerSet_79 : decode cb_R_winnerSet 79 = .ok (.aload_n 1, 1) := by decide +kernel
theorem dc_R_winnerSet_80 : decode cb_R_winnerSet 80 = .ok (.invokevirtual 60, 3) := by decide +kernel
theorem dc_R_winnerSet_83 : decode cb_R_winnerSet 83 = .ok (.ireturn, 1) := by decide +kernel
theorem dc_R_winnerSet_84 : decode cb_R_winnerSet 84 = .ok (.aload_n 0, 1) := by decide +kernel
theorem dc_R_winnerSet_85 : decode cb_R_winnerSet 85 = .ok (.getfield 35, 3) := by decide +kernel
theorem dc_R_winnerSet_88 : decode cb_R_winnerSet 88 = .ok (.aload_n 1, 1) := by decide +kernel
theorem dc_R_winnerSet_89 : decode cb_R_winnerSet 89 = .ok (.invokevirtual 61, 3) := by decide +kernel
theorem dc_R_winnerSet_92 : decode cb_R_winnerSet 92 = .ok (.ireturn, 1) := by decide +kernel
theorem dc_R_winnerSet_93 : decode cb_R_winnerSet 93 = .ok (.aload_n 0, 1) := by decide +kernel
theorem dc_R_winnerSet_94 : decode cb_R_winnerSet 94 = .ok (.aload_n 1, 1) := by decide +kernel
theorem dc_R_winnerSet_95 : decode cb_R_winnerSet 95 = .ok (.invokevirtual 62, 3) := by decide +kernel
theorem dc_R_winnerSet_98 : decode cb_R_winnerSet 98 = .ok (.ireturn, 1) := by decide +kernel
theorem dc_R_winnerSet_99 : decode cb_R_winnerSet 99 = .ok (.iconst 1, 1) := by decide +kernel
theorem dc_R_winnerSet_100 : decode cb_R_winnerSet 100 = .ok (.aload_n 1, 1) := by decide +kernel
theorem dc_R_winnerSet_101 : decode cb_R_winnerSet 101 = .ok (.invokestatic 65, 3) := by decide +kernel
theorem dc_R_winnerSet_104 : decode cb_R_winnerSet 104 = .ok (.ishl, 1) := by decide +kernel
theorem dc_R_winnerSet_105 : decode cb_R_winnerSet 105 = .ok (.ireturn, 1) := by decide +kernel
theorem dc_R_winnerSet_106 : decode cb_R_winnerSet 106 = .ok (.aload_n 1, 1) := by decide +kernel
theorem dc_R_winnerSet_107 : decode cb_R_winnerSet 107 = .ok (.iload_n 2, 1) := by decide +kernel
theorem dc_R_winnerSet_108 : decode cb_R_winnerSet 108 = .ok (.invokestatic 68, 3) := by decide +kernel
theorem dc_R_winnerSet_111 : decode cb_R_winnerSet 111 = .ok (.ireturn, 1) := by decide +kernel
theorem dc_R_runoff_0 : decode cb_R_runoff 0 = .ok (.iconst 0, 1) := by decide +kernel
theorem dc_R_runoff_1 : decode cb_R_runoff 1 = .ok (.istore_n 1, 1) := by decide +kernel
theorem dc_R_runoff_2 : decode cb_R_runoff 2 = .ok (.iconst 0, 1) := by decide +kernel
theorem dc_R_runoff_3 : decode cb_R_runoff 3 = .ok (.istore_n 2, 1) := by decide +kernel
theorem dc_R_runoff_4 : decode cb_R_runoff 4 = .ok (.iload_n 2, 1) := by decide +kernel
theorem dc_R_runoff_5 : decode cb_R_runoff 5 = .ok (.aload_n 0, 1) := by decide +kernel
theorem dc_R_runoff_6 : decode cb_R_runoff 6 = .ok (.getfield 71, 3) := by decide +kernel
theorem dc_R_runoff_9 : decode cb_R_runoff 9 = .ok (.if_icmp .ge 74, 3) := by decide +kernel
theorem dc_R_runoff_12 : decode cb_R_runoff 12 = .ok (.iload_n 2, 1) := by decide +kernel
theorem dc_R_runoff_13 : decode cb_R_runoff 13 = .ok (.iconst 1, 1) := by decide +kernel
theorem dc_R_runoff_14 : decode cb_R_runoff 14 = .ok (.iadd, 1) := by decide +kernel
theorem dc_R_runoff_15 : decode cb_R_runoff 15 = .ok (.istore_n 3, 1) := by decide +kernel
theorem dc_R_runoff_16 : decode cb_R_runoff 16 = .ok (.iload_n 3, 1) := by decide +kernel
theorem dc_R_runoff_17 : decode cb_R_runoff 17 = .ok (.aload_n 0, 1) := by decide +kernel
theorem dc_R_runoff_18 : decode cb_R_runoff 18 = .ok (.getfield 71, 3) := by decide +kernel
theorem dc_R_runoff_21 : decode cb_R_runoff 21 = .ok (.if_icmp .ge 56, 3) := by decide +kernel
theorem dc_R_runoff_24 : decode cb_R_runoff 24 = .ok (.aload_n 0, 1) := by decide +kernel
theorem dc_R_runoff_25 : decode cb_R_runoff 25 = .ok (.iload_n 2, 1) := by decide +kernel
theorem dc_R_runoff_26 : decode cb_R_runoff 26 = .ok (.iload_n 3, 1) := by decide +kernel
theorem dc_R_runoff_27 : decode cb_R_runoff 27 = .ok (.invokestatic 75, 3) := by decide +kernel
theorem dc_R_runoff_30 : decode cb_R_runoff 30 = .ok (.ifCond .eq 41, 3) := by decide +kernel
theorem dc_R_runoff_33 : decode cb_R_runoff 33 = .ok (.iload_n 1, 1) := by decide +kernel
theorem dc_R_runoff_34 : decode cb_R_runoff 34 = .ok (.aload_n 0, 1) := by decide +kernel
theorem dc_R_runoff_35 : decode cb_R_runoff 35 = .ok (.iload_n 3, 1) := by decide +kernel
theorem dc_R_runoff_36 : decode cb_R_runoff 36 = .ok (.iload_n 2, 1) := by decide +kernel
theorem dc_R_runoff_37 : decode cb_R_runoff 37 = .ok (.invokevirtual 79, 3) := by decide +kernel
theorem dc_R_runoff_40 : decode cb_R_runoff 40 = .ok (.ifCond .eq 7, 3) := by decide +kernel
theorem dc_R_runoff_43 : decode cb_R_runoff 43 = .ok (.iconst 0, 1) := by decide +kernel
theorem dc_R_runoff_44 : decode cb_R_runoff 44 = .ok (.goto 6, 3) := by decide +kernel
theorem dc_R_runoff_47 : decode cb_R_runoff 47 = .ok (.iconst 1, 1) := by decide +kernel
theorem dc_R_runoff_48 : decode cb_R_runoff 48 = .ok (.iload_n 2, 1) := by decide +kernel
theorem dc_R_runoff_49 : decode cb_R_runoff 49 = .ok (.ishl, 1) := by decide +kernel
theorem dc_R_runoff_50 : decode cb_R_runoff 50 = .ok (.ior, 1) := by decide +kernel
theorem dc_R_runoff_51 : decode cb_R_runoff 51 = .ok (.istore_n 1, 1) := by decide +kernel
theorem dc_R_runoff_52 : decode cb_R_runoff 52 = .ok (.iload_n 1, 1) := by decide +kernel
theorem dc_R_runoff_53 : decode cb_R_runoff 53 = .ok (.aload_n 0, 1) := by decide +kernel
theorem dc_R_runoff_54 : decode cb_R_runoff 54 = .ok (.iload_n 2, 1) := by decide +kernel
theorem dc_R_runoff_55 : decode cb_R_runoff 55 = .ok (.iload_n 3, 1) := by decide +kernel
theorem dc_R_runoff_56 : decode cb_R_runoff 56 = .ok (.invokevirtual 79, 3) := by decide +kernel
theorem dc_R_runoff_59 : decode cb_R_runoff 59 = .ok (.ifCond .eq 7, 3) := by decide +kernel
theorem dc_R_runoff_62 : decode cb_R_runoff 62 = .ok (.iconst 0, 1) := by decide +kernel
theorem dc_R_runoff_63 : decode cb_R_runoff 63 = .ok (.goto 6, 3) := by decide +kernel
theorem dc_R_runoff_66 : decode cb_R_runoff 66 = .ok (.iconst 1, 1) := by decide +kernel
theorem dc_R_runoff_67 : decode cb_R_runoff 67 = .ok (.iload_n 3, 1) := by decide +kernel
theorem dc_R_runoff_68 : decode cb_R_runoff 68 = .ok (.ishl, 1) := by decide +kernel
theorem dc_R_runoff_69 : decode cb_R_runoff 69 = .ok (.ior, 1) := by decide +kernel
theorem dc_R_runoff_70 : decode cb_R_runoff 70 = .ok (.istore_n 1, 1) := by decide +kernel
theorem dc_R_runoff_71 : decode cb_R_runoff 71 = .ok (.iinc 3 1, 3) := by decide +kernel
theorem dc_R_runoff_74 : decode cb_R_runoff 74 = .ok (.goto (-58), 3) := by decide +kernel
theorem dc_R_runoff_77 : decode cb_R_runoff 77 = .ok (.iinc 2 1, 3) := by decide +kernel
theorem dc_R_runoff_80 : decode cb_R_runoff 80 = .ok (.goto (-76), 3) := by decide +kernel
theorem dc_R_runoff_83 : decode cb_R_runoff 83 = .ok (.iload_n 1, 1) := by decide +kernel
theorem dc_R_runoff_84 : decode cb_R_runoff 84 = .ok (.ireturn, 1) := by decide +kernel
theorem dc_R_mayMeet_0 : decode cb_R_mayMeet 0 = .ok (.aload_n 0, 1) := by decide +kernel
theorem dc_R_mayMeet_1 : decode cb_R_mayMeet 1 = .ok (.getfield 83, 3) := by decide +kernel
theorem dc_R_mayMeet_4 : decode cb_R_mayMeet 4 = .ok (.iload_n 1, 1) := by decide +kernel
theorem dc_R_mayMeet_5 : decode cb_R_mayMeet 5 = .ok (.aaload, 1) := by decide +kernel
theorem dc_R_mayMeet_6 : decode cb_R_mayMeet 6 = .ok (.iconst 0, 1) := by decide +kernel
theorem dc_R_mayMeet_7 : decode cb_R_mayMeet 7 = .ok (.iaload, 1) := by decide +kernel
theorem dc_R_mayMeet_8 : decode cb_R_mayMeet 8 = .ok (.aload_n 0, 1) := by decide +kernel
theorem dc_R_mayMeet_9 : decode cb_R_mayMeet 9 = .ok (.getfield 83, 3) := by decide +kernel
theorem dc_R_mayMeet_12 : decode cb_R_mayMeet 12 = .ok (.iload_n 2, 1) := by decide +kernel
theorem dc_R_mayMeet_13 : decode cb_R_mayMeet 13 = .ok (.aaload, 1) := by decide +kernel
theorem dc_R_mayMeet_14 : decode cb_R_mayMeet 14 = .ok (.iconst 0, 1) := by decide +kernel
theorem dc_R_mayMeet_15 : decode cb_R_mayMeet 15 = .ok (.iaload, 1) := by decide +kernel
theorem dc_R_mayMeet_16 : decode cb_R_mayMeet 16 = .ok (.invokestatic 87, 3) := by decide +kernel
theorem dc_R_mayMeet_19 : decode cb_R_mayMeet 19 = .ok (.istore_n 3, 1) := by decide +kernel
theorem dc_R_mayMeet_20 : decode cb_R_mayMeet 20 = .ok (.iconst 0, 1) := by decide +kernel
theorem dc_R_mayMeet_21 : decode cb_R_mayMeet 21 = .ok (.istore 4, 2) := by decide +kernel
theorem dc_R_mayMeet_23 : decode cb_R_mayMeet 23 = .ok (.iload 4, 2) := by decide +kernel
theorem dc_R_mayMeet_25 : decode cb_R_mayMeet 25 = .ok (.aload_n 0, 1) := by decide +kernel
theorem dc_R_mayMeet_26 : decode cb_R_mayMeet 26 = .ok (.getfield 71, 3) := by decide +kernel
theorem dc_R_mayMeet_29 : decode cb_R_mayMeet 29 = .ok (.if_icmp .ge 36, 3) := by decide +kernel
theorem dc_R_mayMeet_32 : decode cb_R_mayMeet 32 = .ok (.iload 4, 2) := by decide +kernel
theorem dc_R_mayMeet_34 : decode cb_R_mayMeet 34 = .ok (.iload_n 1, 1) := by decide +kernel
theorem dc_R_mayMeet_35 : decode cb_R_mayMeet 35 = .ok (.if_icmp .eq 24, 3) := by decide +kernel
theorem dc_R_mayMeet_38 : decode cb_R_mayMeet 38 = .ok (.iload 4, 2) := by decide +kernel
theorem dc_R_mayMeet_40 : decode cb_R_mayMeet 40 = .ok (.iload_n 2, 1) := by decide +kernel
theorem dc_R_mayMeet_41 : decode cb_R_mayMeet 41 = .ok (.if_icmp .eq 18, 3) := by decide +kernel
theorem dc_R_mayMeet_44 : decode cb_R_mayMeet 44 = .ok (.aload_n 0, 1) := by decide +kernel
theorem dc_R_mayMeet_45 : decode cb_R_mayMeet 45 = .ok (.getfield 83, 3) := by decide +kernel
theorem dc_R_mayMeet_48 : decode cb_R_mayMeet 48 = .ok (.iload 4, 2) := by decide +kernel
theorem dc_R_mayMeet_50 : decode cb_R_mayMeet 50 = .ok (.aaload, 1) := by decide +kernel
theorem dc_R_mayMeet_51 : decode cb_R_mayMeet 51 = .ok (.iconst 0, 1) := by decide +kernel
theorem dc_R_mayMeet_52 : decode cb_R_mayMeet 52 = .ok (.iaload, 1) := by decide +kernel
theorem dc_R_mayMeet_53 : decode cb_R_mayMeet 53 = .ok (.iload_n 3, 1) := by decide +kernel
theorem dc_R_mayMeet_54 : decode cb_R_mayMeet 54 = .ok (.if_icmp .le 5, 3) := by decide +kernel
theorem dc_R_mayMeet_57 : decode cb_R_mayMeet 57 = .ok (.iconst 0, 1) := by decide +kernel
theorem dc_R_mayMeet_58 : decode cb_R_mayMeet 58 = .ok (.ireturn, 1) := by decide +kernel
theorem dc_R_mayMeet_59 : decode cb_R_mayMeet 59 = .ok (.iinc 4 1, 3) := by decide +kernel
theorem dc_R_mayMeet_62 : decode cb_R_mayMeet 62 = .ok (.goto (-39), 3) := by decide +kernel
theorem dc_R_mayMeet_65 : decode cb_R_mayMeet 65 = .ok (.iconst 1, 1) := by decide +kernel
theorem dc_R_mayMeet_66 : decode cb_R_mayMeet 66 = .ok (.ireturn, 1) := by decide +kernel
theorem dc_R_uncovered_0 : decode cb_R_uncovered 0 = .ok (.iconst 0, 1) := by decide +kernel
theorem dc_R_uncovered_1 : decode cb_R_uncovered 1 = .ok (.istore_n 2, 1) := by decide +kernel
theorem dc_R_uncovered_2 : decode cb_R_uncovered 2 = .ok (.iload_n 2, 1) := by decide +kernel
theorem dc_R_uncovered_3 : decode cb_R_uncovered 3 = .ok (.aload_n 1, 1) := by decide +kernel
theorem dc_R_uncovered_4 : decode cb_R_uncovered 4 = .ok (.getfield 71, 3) := by decide +kernel
theorem dc_R_uncovered_7 : decode cb_R_uncovered 7 = .ok (.if_icmp .ge 20, 3) := by decide +kernel
theorem dc_R_uncovered_10 : decode cb_R_uncovered 10 = .ok (.aload_n 0, 1) := by decide +kernel
theorem dc_R_uncovered_11 : decode cb_R_uncovered 11 = .ok (.getfield 39, 3) := by decide +kernel
theorem dc_R_uncovered_14 : decode cb_R_uncovered 14 = .ok (.iload_n 2, 1) := by decide +kernel
theorem dc_R_uncovered_15 : decode cb_R_uncovered 15 = .ok (.aload_n 1, 1) := by decide +kernel
theorem dc_R_uncovered_16 : decode cb_R_uncovered 16 = .ok (.iload_n 2, 1) := by decide +kernel
theorem dc_R_uncovered_17 : decode cb_R_uncovered 17 = .ok (.invokevirtual 93, 3) := by decide +kernel
theorem dc_R_uncovered_20 : decode cb_R_uncovered 20 = .ok (.iastore, 1) := by decide +kernel
theorem dc_R_uncovered_21 : decode cb_R_uncovered 21 = .ok (.iinc 2 1, 3) := by decide +kernel
theorem dc_R_uncovered_24 : decode cb_R_uncovered 24 = .ok (.goto (-22), 3) := by decide +kernel
theorem dc_R_uncovered_27 : decode cb_R_uncovered 27 = .ok (.aload_n 1, 1) := by decide +kernel
theorem dc_R_uncovered_28 : decode cb_R_uncovered 28 = .ok (.invokevirtual 96, 3) := by decide +kernel
theorem dc_R_uncovered_31 : decode cb_R_uncovered 31 = .ok (.istore_n 2, 1) := by decide +kernel
theorem dc_R_uncovered_32 : decode cb_R_uncovered 32 = .ok (.iconst 0, 1) := by decide +kernel
theorem dc_R_uncovered_33 : decode cb_R_uncovered 33 = .ok (.istore_n 3, 1) := by decide +kernel
theorem dc_R_uncovered_34 : decode cb_R_uncovered 34 = .ok (.iload_n 3, 1) := by decide +kernel
theorem dc_R_uncovered_35 : decode cb_R_uncovered 35 = .ok (.aload_n 1, 1) := by decide +kernel
theorem dc_R_uncovered_36 : decode cb_R_uncovered 36 = .ok (.getfield 71, 3) := by decide +kernel
theorem dc_R_uncovered_39 : decode cb_R_uncovered 39 = .ok (.if_icmp .ge 64, 3) := by decide +kernel
theorem dc_R_uncovered_42 : decode cb_R_uncovered 42 = .ok (.iconst 0, 1) := by decide +kernel
theorem dc_R_uncovered_43 : decode cb_R_uncovered 43 = .ok (.istore 4, 2) := by decide +kernel
theorem dc_R_uncovered_45 : decode cb_R_uncovered 45 = .ok (.iload 4, 2) := by decide +kernel
theorem dc_R_uncovered_47 : decode cb_R_uncovered 47 = .ok (.aload_n 1, 1) := by decide +kernel
theorem dc_R_uncovered_48 : decode cb_R_uncovered 48 = .ok (.getfield 71, 3) := by decide +kernel
theorem dc_R_uncovered_51 : decode cb_R_uncovered 51 = .ok (.if_icmp .ge 46, 3) := by decide +kernel
theorem dc_R_uncovered_54 : decode cb_R_uncovered 54 = .ok (.aload_n 0, 1) := by decide +kernel
theorem dc_R_uncovered_55 : decode cb_R_uncovered 55 = .ok (.getfield 39, 3) := by decide +kernel
theorem dc_R_uncovered_58 : decode cb_R_uncovered 58 = .ok (.iload 4, 2) := by decide +kernel
theorem dc_R_uncovered_60 : decode cb_R_uncovered 60 = .ok (.iaload, 1) := by decide +kernel
theorem dc_R_uncovered_61 : decode cb_R_uncovered 61 = .ok (.iconst 1, 1) := by decide +kernel
theorem dc_R_uncovered_62 : decode cb_R_uncovered 62 = .ok (.iload 4, 2) := by decide +kernel
theorem dc_R_uncovered_64 : decode cb_R_uncovered 64 = .ok (.ishl, 1) := by decide +kernel
theorem dc_R_uncovered_65 : decode cb_R_uncovered 65 = .ok (.ior, 1) := by decide +kernel
theorem dc_R_uncovered_66 : decode cb_R_uncovered 66 = .ok (.istore 5, 2) := by decide +kernel
theorem dc_R_uncovered_68 : decode cb_R_uncovered 68 = .ok (.aload_n 0, 1) := by decide +kernel
theorem dc_R_uncovered_69 : decode cb_R_uncovered 69 = .ok (.getfield 39, 3) := by decide +kernel
theorem dc_R_uncovered_72 : decode cb_R_uncovered 72 = .ok (.iload_n 3, 1) := by decide +kernel
theorem dc_R_uncovered_73 : decode cb_R_uncovered 73 = .ok (.iaload, 1) := by decide +kernel
theorem dc_R_uncovered_74 : decode cb_R_uncovered 74 = .ok (.iload 5, 2) := by decide +kernel
theorem dc_R_uncovered_76 : decode cb_R_uncovered 76 = .ok (.iand, 1) := by decide +kernel
theorem dc_R_uncovered_77 : decode cb_R_uncovered 77 = .ok (.iload 5, 2) := by decide +kernel
theorem dc_R_uncovered_79 : decode cb_R_uncovered 79 = .ok (.if_icmp .ne 12, 3) := by decide +kernel
theorem dc_R_uncovered_82 : decode cb_R_uncovered 82 = .ok (.iload_n 2, 1) := by decide +kernel
theorem dc_R_uncovered_83 : decode cb_R_uncovered 83 = .ok (.iconst 1, 1) := by decide +kernel
theorem dc_R_uncovered_84 : decode cb_R_uncovered 84 = .ok (.iload 4, 2) := by decide +kernel
theorem dc_R_uncovered_86 : decode cb_R_uncovered 86 = .ok (.ishl, 1) := by decide +kernel
theorem dc_R_uncovered_87 : decode cb_R_uncovered 87 = .ok (.iconst (-1), 1) := by decide +kernel
theorem dc_R_uncovered_88 : decode cb_R_uncovered 88 = .ok (.ixor, 1) := by decide +kernel
theorem dc_R_uncovered_89 : decode cb_R_uncovered 89 = .ok (.iand, 1) := by decide +kernel
theorem dc_R_uncovered_90 : decode cb_R_uncovered 90 = .ok (.istore_n 2, 1) := by decide +kernel
theorem dc_R_uncovered_91 : decode cb_R_uncovered 91 = .ok (.iinc 4 1, 3) := by decide +kernel
theorem dc_R_uncovered_94 : decode cb_R_uncovered 94 = .ok (.goto (-49), 3) := by decide +kernel
theorem dc_R_uncovered_97 : decode cb_R_uncovered 97 = .ok (.iinc 3 1, 3) := by decide +kernel
theorem dc_R_uncovered_100 : decode cb_R_uncovered 100 = .ok (.goto (-66), 3) := by decide +kernel
theorem dc_R_uncovered_103 : decode cb_R_uncovered 103 = .ok (.iload_n 2, 1) := by decide +kernel
theorem dc_R_uncovered_104 : decode cb_R_uncovered 104 = .ok (.ireturn, 1) := by decide +kernel
theorem dc_R_lastToStay_0 : decode cb_R_lastToStay 0 = .ok (.aload_n 0, 1) := by decide +kernel
theorem dc_R_lastToStay_1 : decode cb_R_lastToStay 1 = .ok (.getfield 100, 3) := by decide +kernel
theorem dc_R_lastToStay_4 : decode cb_R_lastToStay 4 = .ok (.iconst 0, 1) := by decide +kernel
theorem dc_R_lastToStay_5 : decode cb_R_lastToStay 5 = .ok (.invokestatic 103, 3) := by decide +kernel
theorem dc_R_lastToStay_8 : decode cb_R_lastToStay 8 = .ok (.istore_n 1, 1) := by decide +kernel
theorem dc_R_lastToStay_9 : decode cb_R_lastToStay 9 = .ok (.iconst 1, 1) := by decide +kernel
theorem dc_R_lastToStay_10 : decode cb_R_lastToStay 10 = .ok (.istore_n 2, 1) := by decide +kernel
theorem dc_R_lastToStay_11 : decode cb_R_lastToStay 11 = .ok (.iload_n 2, 1) := by decide +kernel
theorem dc_R_lastToStay_12 : decode cb_R_lastToStay 12 = .ok (.aload_n 0, 1) := by decide +kernel
theorem dc_R_lastToStay_13 : decode cb_R_lastToStay 13 = .ok (.getfield 71, 3) := by decide +kernel
theorem dc_R_lastToStay_16 : decode cb_R_lastToStay 16 = .ok (.if_icmp .ge 53, 3) := by decide +kernel
theorem dc_R_lastToStay_19 : decode cb_R_lastToStay 19 = .ok (.aload_n 0, 1) := by decide +kernel
theorem dc_R_lastToStay_20 : decode cb_R_lastToStay 20 = .ok (.getfield 100, 3) := by decide +kernel
theorem dc_R_lastToStay_23 : decode cb_R_lastToStay 23 = .ok (.iload_n 2, 1) := by decide +kernel
theorem dc_R_lastToStay_24 : decode cb_R_lastToStay 24 = .ok (.invokestatic 103, 3) := by decide +kernel
theorem dc_R_lastToStay_27 : decode cb_R_lastToStay 27 = .ok (.istore_n 3, 1) := by decide +kernel
theorem dc_R_lastToStay_28 : decode cb_R_lastToStay 28 = .ok (.aload_n 0, 1) := by decide +kernel
theorem dc_R_lastToStay_29 : decode cb_R_lastToStay 29 = .ok (.iload_n 3, 1) := by decide +kernel
theorem dc_R_lastToStay_30 : decode cb_R_lastToStay 30 = .ok (.iload_n 1, 1) := by decide +kernel
theorem dc_R_lastToStay_31 : decode cb_R_lastToStay 31 = .ok (.invokevirtual 79, 3) := by decide +kernel
theorem dc_R_lastToStay_34 : decode cb_R_lastToStay 34 = .ok (.ifCond .eq 8, 3) := by decide +kernel
theorem dc_R_lastToStay_37 : decode cb_R_lastToStay 37 = .ok (.iload_n 3, 1) := by decide +kernel
theorem dc_R_lastToStay_38 : decode cb_R_lastToStay 38 = .ok (.istore_n 1, 1) := by decide +kernel
theorem dc_R_lastToStay_39 : decode cb_R_lastToStay 39 = .ok (.goto 24, 3) := by decide +kernel
theorem dc_R_lastToStay_42 : decode cb_R_lastToStay 42 = .ok (.aload_n 0, 1) := by decide +kernel
theorem dc_R_lastToStay_43 : decode cb_R_lastToStay 43 = .ok (.iload_n 1, 1) := by decide +kernel
theorem dc_R_lastToStay_44 : decode cb_R_lastToStay 44 = .ok (.iload_n 3, 1) := by decide +kernel
theorem dc_R_lastToStay_45 : decode cb_R_lastToStay 45 = .ok (.invokevirtual 79, 3) := by decide +kernel
theorem dc_R_lastToStay_48 : decode cb_R_lastToStay 48 = .ok (.ifCond .ne 15, 3) := by decide +kernel
theorem dc_R_lastToStay_51 : decode cb_R_lastToStay 51 = .ok (.aload_n 0, 1) := by decide +kernel
theorem dc_R_lastToStay_52 : decode cb_R_lastToStay 52 = .ok (.iconst 1, 1) := by decide +kernel
theorem dc_R_lastToStay_53 : decode cb_R_lastToStay 53 = .ok (.iload_n 1, 1) := by decide +kernel
theorem dc_R_lastToStay_54 : decode cb_R_lastToStay 54 = .ok (.ishl, 1) := by decide +kernel
theorem dc_R_lastToStay_55 : decode cb_R_lastToStay 55 = .ok (.iconst 1, 1) := by decide +kernel
theorem dc_R_lastToStay_56 : decode cb_R_lastToStay 56 = .ok (.iload_n 3, 1) := by decide +kernel
theorem dc_R_lastToStay_57 : decode cb_R_lastToStay 57 = .ok (.ishl, 1) := by decide +kernel
theorem dc_R_lastToStay_58 : decode cb_R_lastToStay 58 = .ok (.ior, 1) := by decide +kernel
theorem dc_R_lastToStay_59 : decode cb_R_lastToStay 59 = .ok (.invokevirtual 47, 3) := by decide +kernel
theorem dc_R_lastToStay_62 : decode cb_R_lastToStay 62 = .ok (.istore_n 1, 1) := by decide +kernel
theorem dc_R_lastToStay_63 : decode cb_R_lastToStay 63 = .ok (.iinc 2 1, 3) := by decide +kernel
theorem dc_R_lastToStay_66 : decode cb_R_lastToStay 66 = .ok (.goto (-55), 3) := by decide +kernel
theorem dc_R_lastToStay_69 : decode cb_R_lastToStay 69 = .ok (.iload_n 1, 1) := by decide +kernel
theorem dc_R_lastToStay_70 : decode cb_R_lastToStay 70 = .ok (.ireturn, 1) := by decide +kernel
theorem dc_C_areKeptBy_0 : decode cb_C_areKeptBy 0 = .ok (.iload_n 0, 1) := by decide +kernel
theorem dc_C_areKeptBy_1 : decode cb_C_areKeptBy 1 = .ok (.ifCond .eq 24, 3) := by decide +kernel
theorem dc_C_areKeptBy_4 : decode cb_C_areKeptBy 4 = .ok (.iload_n 0, 1) := by decide +kernel
theorem dc_C_areKeptBy_5 : decode cb_C_areKeptBy 5 = .ok (.iconst 1, 1) := by decide +kernel
theorem dc_C_areKeptBy_6 : decode cb_C_areKeptBy 6 = .ok (.if_icmp .eq 19, 3) := by decide +kernel
theorem dc_C_areKeptBy_9 : decode cb_C_areKeptBy 9 = .ok (.iload_n 0, 1) := by decide +kernel
theorem dc_C_areKeptBy_10 : decode cb_C_areKeptBy 10 = .ok (.iconst 2, 1) := by decide +kernel
theorem dc_C_areKeptBy_11 : decode cb_C_areKeptBy 11 = .ok (.if_icmp .eq 14, 3) := by decide +kernel
theorem dc_C_areKeptBy_14 : decode cb_C_areKeptBy 14 = .ok (.iload_n 0, 1) := by decide +kernel
theorem dc_C_areKeptBy_15 : decode cb_C_areKeptBy 15 = .ok (.iconst 5, 1) := by decide +kernel
theorem dc_C_areKeptBy_16 : decode cb_C_areKeptBy 16 = .ok (.if_icmp .eq 9, 3) := by decide +kernel
theorem dc_C_areKeptBy_19 : decode cb_C_areKeptBy 19 = .ok (.iload_n 0, 1) := by decide +kernel
theorem dc_C_areKeptBy_20 : decode cb_C_areKeptBy 20 = .ok (.bipush 6, 2) := by decide +kernel
theorem dc_C_areKeptBy_22 : decode cb_C_areKeptBy 22 = .ok (.if_icmp .ne 7, 3) := by decide +kernel
theorem dc_C_areKeptBy_25 : decode cb_C_areKeptBy 25 = .ok (.iconst 1, 1) := by decide +kernel
theorem dc_C_areKeptBy_26 : decode cb_C_areKeptBy 26 = .ok (.goto 4, 3) := by decide +kernel
theorem dc_C_areKeptBy_29 : decode cb_C_areKeptBy 29 = .ok (.iconst 0, 1) := by decide +kernel
theorem dc_C_areKeptBy_30 : decode cb_C_areKeptBy 30 = .ok (.ireturn, 1) := by decide +kernel
theorem dc_C_of_0 : decode cb_C_of 0 = .ok (.iload_n 1, 1) := by decide +kernel
theorem dc_C_of_1 : decode cb_C_of 1 = .ok (.tableswitch 76 0 5 #[39, 49, 64, 76, 76, 70], 39) := by decide +kernel
theorem dc_C_of_40 : decode cb_C_of 40 = .ok (.aload_n 0, 1) := by decide +kernel
theorem dc_C_of_41 : decode cb_C_of 41 = .ok (.getfield 9, 3) := by decide +kernel
theorem dc_C_of_44 : decode cb_C_of 44 = .ok (.iload_n 2, 1) := by decide +kernel
theorem dc_C_of_45 : decode cb_C_of 45 = .ok (.aaload, 1) := by decide +kernel
theorem dc_C_of_46 : decode cb_C_of 46 = .ok (.iconst 0, 1) := by decide +kernel
theorem dc_C_of_47 : decode cb_C_of 47 = .ok (.iaload, 1) := by decide +kernel
theorem dc_C_of_48 : decode cb_C_of 48 = .ok (.i2l, 1) := by decide +kernel
theorem dc_C_of_49 : decode cb_C_of 49 = .ok (.lreturn, 1) := by decide +kernel
theorem dc_C_of_50 : decode cb_C_of 50 = .ok (.aload_n 0, 1) := by decide +kernel
theorem dc_C_of_51 : decode cb_C_of 51 = .ok (.getfield 9, 3) := by decide +kernel
theorem dc_C_of_54 : decode cb_C_of 54 = .ok (.iload_n 2, 1) := by decide +kernel
theorem dc_C_of_55 : decode cb_C_of 55 = .ok (.aaload, 1) := by decide +kernel
theorem dc_C_of_56 : decode cb_C_of 56 = .ok (.aload_n 0, 1) := by decide +kernel
theorem dc_C_of_57 : decode cb_C_of 57 = .ok (.getfield 15, 3) := by decide +kernel
theorem dc_C_of_60 : decode cb_C_of 60 = .ok (.iconst 1, 1) := by decide +kernel
theorem dc_C_of_61 : decode cb_C_of 61 = .ok (.isub, 1) := by decide +kernel
theorem dc_C_of_62 : decode cb_C_of 62 = .ok (.iaload, 1) := by decide +kernel
theorem dc_C_of_63 : decode cb_C_of 63 = .ok (.i2l, 1) := by decide +kernel
theorem dc_C_of_64 : decode cb_C_of 64 = .ok (.lreturn, 1) := by decide +kernel
theorem dc_C_of_65 : decode cb_C_of 65 = .ok (.aload_n 0, 1) := by decide +kernel
theorem dc_C_of_66 : decode cb_C_of 66 = .ok (.iload_n 2, 1) := by decide +kernel
theorem dc_C_of_67 : decode cb_C_of 67 = .ok (.invokestatic 19, 3) := by decide +kernel
theorem dc_C_of_70 : decode cb_C_of 70 = .ok (.lreturn, 1) := by decide +kernel
theorem dc_C_of_71 : decode cb_C_of 71 = .ok (.aload_n 0, 1) := by decide +kernel
theorem dc_C_of_72 : decode cb_C_of 72 = .ok (.iload_n 2, 1) := by decide +kernel
theorem dc_C_of_73 : decode cb_C_of 73 = .ok (.invokestatic 25, 3) := by decide +kernel
theorem dc_C_of_76 : decode cb_C_of 76 = .ok (.lreturn, 1) := by decide +kernel
theorem dc_C_of_77 : decode cb_C_of 77 = .ok (.aload_n 0, 1) := by decide +kernel
theorem dc_C_of_78 : decode cb_C_of 78 = .ok (.iload_n 2, 1) := by decide +kernel
theorem dc_C_of_79 : decode cb_C_of 79 = .ok (.invokestatic 28, 3) := by decide +kernel
theorem dc_C_of_82 : decode cb_C_of 82 = .ok (.lreturn, 1) := by decide +kernel
theorem dc_C_winnerSet_0 : decode cb_C_winnerSet 0 = .ok (.iload_n 1, 1) := by decide +kernel
theorem dc_C_winnerSet_1 : decode cb_C_winnerSet 1 = .ok (.iconst 1, 1) := by decide +kernel
theorem dc_C_winnerSet_2 : decode cb_C_winnerSet 2 = .ok (.if_icmp .eq 8, 3) := by decide +kernel
theorem dc_C_winnerSet_5 : decode cb_C_winnerSet 5 = .ok (.iload_n 1, 1) := by decide +kernel
theorem dc_C_winnerSet_6 : decode cb_C_winnerSet 6 = .ok (.iconst 5, 1) := by decide +kernel
theorem dc_C_winnerSet_7 : decode cb_C_winnerSet 7 = .ok (.if_icmp .ne 7, 3) := by decide +kernel
theorem dc_C_winnerSet_10 : decode cb_C_winnerSet 10 = .ok (.iconst 1, 1) := by decide +kernel
theorem dc_C_winnerSet_11 : decode cb_C_winnerSet 11 = .ok (.goto 4, 3) := by decide +kernel
theorem dc_C_winnerSet_14 : decode cb_C_winnerSet 14 = .ok (.iconst 0, 1) := by decide +kernel
theorem dc_C_winnerSet_15 : decode cb_C_winnerSet 15 = .ok (.istore_n 2, 1) := by decide +kernel
theorem dc_C_winnerSet_16 : decode cb_C_winnerSet 16 = .ok (.iconst 0, 1) := by decide +kernel
theorem dc_C_winnerSet_17 : decode cb_C_winnerSet 17 = .ok (.istore_n 3, 1) := by decide +kernel
theorem dc_C_winnerSet_18 : decode cb_C_winnerSet 18 = .ok (.lconst 0, 1) := by decide +kernel
theorem dc_C_winnerSet_19 : decode cb_C_winnerSet 19 = .ok (.lstore 4, 2) := by decide +kernel
theorem dc_C_winnerSet_21 : decode cb_C_winnerSet 21 = .ok (.iconst 0, 1) := by decide +kernel
theorem dc_C_winnerSet_22 : decode cb_C_winnerSet 22 = .ok (.istore 6, 2) := by decide +kernel
theorem dc_C_winnerSet_24 : decode cb_C_winnerSet 24 = .ok (.iload 6, 2) := by decide +kernel
theorem dc_C_winnerSet_26 : decode cb_C_winnerSet 26 = .ok (.aload_n 0, 1) := by decide +kernel
theorem dc_C_winnerSet_27 : decode cb_C_winnerSet 27 = .ok (.getfield 15, 3) := by decide +kernel
theorem dc_C_winnerSet_30 : decode cb_C_winnerSet 30 = .ok (.if_icmp .ge 72, 3) := by decide +kernel
theorem dc_C_winnerSet_33 : decode cb_C_winnerSet 33 = .ok (.aload_n 0, 1) := by decide +kernel
theorem dc_C_winnerSet_34 : decode cb_C_winnerSet 34 = .ok (.iload_n 1, 1) := by decide +kernel
theorem dc_C_winnerSet_35 : decode cb_C_winnerSet 35 = .ok (.iload 6, 2) := by decide +kernel
theorem dc_C_winnerSet_37 : decode cb_C_winnerSet 37 = .ok (.invokestatic 31, 3) := by decide +kernel
theorem dc_C_winnerSet_40 : decode cb_C_winnerSet 40 = .ok (.lstore 7, 2) := by decide +kernel
theorem dc_C_winnerSet_42 : decode cb_C_winnerSet 42 = .ok (.iload_n 3, 1) := by decide +kernel
theorem dc_C_winnerSet_43 : decode cb_C_winnerSet 43 = .ok (.ifCond .eq 26, 3) := by decide +kernel
theorem dc_C_winnerSet_46 : decode cb_C_winnerSet 46 = .ok (.iload_n 2, 1) := by decide +kernel
theorem dc_C_winnerSet_47 : decode cb_C_winnerSet 47 = .ok (.ifCond .eq 14, 3) := by decide +kernel
theorem dc_C_winnerSet_50 : decode cb_C_winnerSet 50 = .ok (.lload 7, 2) := by decide +kernel
theorem dc_C_winnerSet_52 : decode cb_C_winnerSet 52 = .ok (.lload 4, 2) := by decide +kernel
theorem dc_C_winnerSet_54 : decode cb_C_winnerSet 54 = .ok (.lcmp, 1) := by decide +kernel
theorem dc_C_winnerSet_55 : decode cb_C_winnerSet 55 = .ok (.ifCond .ge 26, 3) := by decide +kernel
theorem dc_C_winnerSet_58 : decode cb_C_winnerSet 58 = .ok (.goto 11, 3) := by decide +kernel
theorem dc_C_winnerSet_61 : decode cb_C_winnerSet 61 = .ok (.lload 7, 2) := by decide +kernel
theorem dc_C_winnerSet_63 : decode cb_C_winnerSet 63 = .ok (.lload 4, 2) := by decide +kernel
theorem dc_C_winnerSet_65 : decode cb_C_winnerSet 65 = .ok (.lcmp, 1) := by decide +kernel
theorem dc_C_winnerSet_66 : decode cb_C_winnerSet 66 = .ok (.ifCond .le 15, 3) := by decide +kernel
theorem dc_C_winnerSet_69 : decode cb_C_winnerSet 69 = .ok (.lload 7, 2) := by decide +kernel
theorem dc_C_winnerSet_71 : decode cb_C_winnerSet 71 = .ok (.lstore 4, 2) := by decide +kernel
theorem dc_C_winnerSet_73 : decode cb_C_winnerSet 73 = .ok (.iconst 1, 1) := by decide +kernel
theorem dc_C_winnerSet_74 : decode cb_C_winnerSet 74 = .ok (.iload 6, 2) := by decide +kernel
theorem dc_C_winnerSet_76 : decode cb_C_winnerSet 76 = .ok (.ishl, 1) := by decide +kernel
theorem dc_C_winnerSet_77 : decode cb_C_winnerSet 77 = .ok (.istore_n 3, 1) := by decide +kernel
theorem dc_C_winnerSet_78 : decode cb_C_winnerSet 78 = .ok (.goto 18, 3) := by decide +kernel
theorem dc_C_winnerSet_81 : decode cb_C_winnerSet 81 = .ok (.lload 7, 2) := by decide +kernel
theorem dc_C_winnerSet_83 : decode cb_C_winnerSet 83 = .ok (.lload 4, 2) := by decide +kernel
theorem dc_C_winnerSet_85 : decode cb_C_winnerSet 85 = .ok (.lcmp, 1) := by decide +kernel
theorem dc_C_winnerSet_86 : decode cb_C_winnerSet 86 = .ok (.ifCond .ne 10, 3) := by decide +kernel
theorem dc_C_winnerSet_89 : decode cb_C_winnerSet 89 = .ok (.iload_n 3, 1) := by decide +kernel
theorem dc_C_winnerSet_90 : decode cb_C_winnerSet 90 = .ok (.iconst 1, 1) := by decide +kernel
theorem dc_C_winnerSet_91 : decode cb_C_winnerSet 91 = .ok (.iload 6, 2) := by decide +kernel
theorem dc_C_winnerSet_93 : decode cb_C_winnerSet 93 = .ok (.ishl, 1) := by decide +kernel
theorem dc_C_winnerSet_94 : decode cb_C_winnerSet 94 = .ok (.ior, 1) := by decide +kernel
theorem dc_C_winnerSet_95 : decode cb_C_winnerSet 95 = .ok (.istore_n 3, 1) := by decide +kernel
theorem dc_C_winnerSet_96 : decode cb_C_winnerSet 96 = .ok (.iinc 6 1, 3) := by decide +kernel
theorem dc_C_winnerSet_99 : decode cb_C_winnerSet 99 = .ok (.goto (-75), 3) := by decide +kernel
theorem dc_C_winnerSet_102 : decode cb_C_winnerSet 102 = .ok (.iload_n 3, 1) := by decide +kernel
theorem dc_C_winnerSet_103 : decode cb_C_winnerSet 103 = .ok (.ireturn, 1) := by decide +kernel
theorem dc_C_points_0 : decode cb_C_points 0 = .ok (.lconst 0, 1) := by decide +kernel
theorem dc_C_points_1 : decode cb_C_points 1 = .ok (.lstore_n 2, 1) := by decide +kernel
theorem dc_C_points_2 : decode cb_C_points 2 = .ok (.iconst 0, 1) := by decide +kernel
theorem dc_C_points_3 : decode cb_C_points 3 = .ok (.istore 4, 2) := by decide +kernel
theorem dc_C_points_5 : decode cb_C_points 5 = .ok (.iload 4, 2) := by decide +kernel
theorem dc_C_points_7 : decode cb_C_points 7 = .ok (.aload_n 0, 1) := by decide +kernel
theorem dc_C_points_8 : decode cb_C_points 8 = .ok (.getfield 15, 3) := by decide +kernel
theorem dc_C_points_11 : decode cb_C_points 11 = .ok (.if_icmp .ge 31, 3) := by decide +kernel
theorem dc_C_points_14 : decode cb_C_points 14 = .ok (.lload_n 2, 1) := by decide +kernel
theorem dc_C_points_15 : decode cb_C_points 15 = .ok (.aload_n 0, 1) := by decide +kernel
theorem dc_C_points_16 : decode cb_C_points 16 = .ok (.getfield 35, 3) := by decide +kernel
theorem dc_C_points_19 : decode cb_C_points 19 = .ok (.iload 4, 2) := by decide +kernel
theorem dc_C_points_21 : decode cb_C_points 21 = .ok (.iaload, 1) := by decide +kernel
theorem dc_C_points_22 : decode cb_C_points 22 = .ok (.i2l, 1) := by decide +kernel
theorem dc_C_points_23 : decode cb_C_points 23 = .ok (.aload_n 0, 1) := by decide +kernel
theorem dc_C_points_24 : decode cb_C_points 24 = .ok (.getfield 9, 3) := by decide +kernel
theorem dc_C_points_27 : decode cb_C_points 27 = .ok (.iload_n 1, 1) := by decide +kernel
theorem dc_C_points_28 : decode cb_C_points 28 = .ok (.aaload, 1) := by decide +kernel
theorem dc_C_points_29 : decode cb_C_points 29 = .ok (.iload 4, 2) := by decide +kernel
theorem dc_C_points_31 : decode cb_C_points 31 = .ok (.iaload, 1) := by decide +kernel
theorem dc_C_points_32 : decode cb_C_points 32 = .ok (.i2l, 1) := by decide +kernel
theorem dc_C_points_33 : decode cb_C_points 33 = .ok (.lmul, 1) := by decide +kernel
theorem dc_C_points_34 : decode cb_C_points 34 = .ok (.ladd, 1) := by decide +kernel
theorem dc_C_points_35 : decode cb_C_points 35 = .ok (.lstore_n 2, 1) := by decide +kernel
theorem dc_C_points_36 : decode cb_C_points 36 = .ok (.iinc 4 1, 3) := by decide +kernel
theorem dc_C_points_39 : decode cb_C_points 39 = .ok (.goto (-34), 3) := by decide +kernel
theorem dc_C_points_42 : decode cb_C_points 42 = .ok (.lload_n 2, 1) := by decide +kernel
theorem dc_C_points_43 : decode cb_C_points 43 = .ok (.lreturn, 1) := by decide +kernel
theorem dc_C_greatestDefeat_0 : decode cb_C_greatestDefeat 0 = .ok (.iconst 0, 1) := by decide +kernel
theorem dc_C_greatestDefeat_1 : decode cb_C_greatestDefeat 1 = .ok (.istore_n 2, 1) := by decide +kernel
theorem dc_C_greatestDefeat_2 : decode cb_C_greatestDefeat 2 = .ok (.iconst 0, 1) := by decide +kernel
theorem dc_C_greatestDefeat_3 : decode cb_C_greatestDefeat 3 = .ok (.istore_n 3, 1) := by decide +kernel
theorem dc_C_greatestDefeat_4 : decode cb_C_greatestDefeat 4 = .ok (.iload_n 3, 1) := by decide +kernel
theorem dc_C_greatestDefeat_5 : decode cb_C_greatestDefeat 5 = .ok (.aload_n 0, 1) := by decide +kernel
theorem dc_C_greatestDefeat_6 : decode cb_C_greatestDefeat 6 = .ok (.getfield 15, 3) := by decide +kernel
theorem dc_C_greatestDefeat_9 : decode cb_C_greatestDefeat 9 = .ok (.if_icmp .ge 31, 3) := by decide +kernel
theorem dc_C_greatestDefeat_12 : decode cb_C_greatestDefeat 12 = .ok (.aload_n 0, 1) := by decide +kernel
theorem dc_C_greatestDefeat_13 : decode cb_C_greatestDefeat 13 = .ok (.iload_n 3, 1) := by decide +kernel
theorem dc_C_greatestDefeat_14 : decode cb_C_greatestDefeat 14 = .ok (.iload_n 1, 1) := by decide +kernel
theorem dc_C_greatestDefeat_15 : decode cb_C_greatestDefeat 15 = .ok (.invokevirtual 39, 3) := by decide +kernel
theorem dc_C_greatestDefeat_18 : decode cb_C_greatestDefeat 18 = .ok (.ifCond .eq 16, 3) := by decide +kernel
theorem dc_C_greatestDefeat_21 : decode cb_C_greatestDefeat 21 = .ok (.iload_n 2, 1) := by decide +kernel
theorem dc_C_greatestDefeat_22 : decode cb_C_greatestDefeat 22 = .ok (.aload_n 0, 1) := by decide +kernel
theorem dc_C_greatestDefeat_23 : decode cb_C_greatestDefeat 23 = .ok (.getfield 43, 3) := by decide +kernel
theorem dc_C_greatestDefeat_26 : decode cb_C_greatestDefeat 26 = .ok (.iload_n 3, 1) := by decide +kernel
theorem dc_C_greatestDefeat_27 : decode cb_C_greatestDefeat 27 = .ok (.aaload, 1) := by decide +kernel
theorem dc_C_greatestDefeat_28 : decode cb_C_greatestDefeat 28 = .ok (.iload_n 1, 1) := by decide +kernel
theorem dc_C_greatestDefeat_29 : decode cb_C_greatestDefeat 29 = .ok (.iaload, 1) := by decide +kernel
theorem dc_C_greatestDefeat_30 : decode cb_C_greatestDefeat 30 = .ok (.invokestatic 46, 3) := by decide +kernel
theorem dc_C_greatestDefeat_33 : decode cb_C_greatestDefeat 33 = .ok (.istore_n 2, 1) := by decide +kernel
theorem dc_C_greatestDefeat_34 : decode cb_C_greatestDefeat 34 = .ok (.iinc 3 1, 3) := by decide +kernel
theorem dc_C_greatestDefeat_37 : decode cb_C_greatestDefeat 37 = .ok (.goto (-33), 3) := by decide +kernel
theorem dc_C_greatestDefeat_40 : decode cb_C_greatestDefeat 40 = .ok (.iload_n 2, 1) := by decide +kernel
theorem dc_C_greatestDefeat_41 : decode cb_C_greatestDefeat 41 = .ok (.i2l, 1) := by decide +kernel
theorem dc_C_greatestDefeat_42 : decode cb_C_greatestDefeat 42 = .ok (.lreturn, 1) := by decide +kernel
theorem dc_C_wins_0 : decode cb_C_wins 0 = .ok (.iconst 0, 1) := by decide +kernel
theorem dc_C_wins_1 : decode cb_C_wins 1 = .ok (.istore_n 2, 1) := by decide +kernel
theorem dc_C_wins_2 : decode cb_C_wins 2 = .ok (.iconst 0, 1) := by decide +kernel
theorem dc_C_wins_3 : decode cb_C_wins 3 = .ok (.istore_n 3, 1) := by decide +kernel
theorem dc_C_wins_4 : decode cb_C_wins 4 = .ok (.iload_n 3, 1) := by decide +kernel
theorem dc_C_wins_5 : decode cb_C_wins 5 = .ok (.aload_n 0, 1) := by decide +kernel
theorem dc_C_wins_6 : decode cb_C_wins 6 = .ok (.getfield 15, 3) := by decide +kernel
theorem dc_C_wins_9 : decode cb_C_wins 9 = .ok (.if_icmp .ge 40, 3) := by decide +kernel
theorem dc_C_wins_12 : decode cb_C_wins 12 = .ok (.iload_n 3, 1) := by decide +kernel
theorem dc_C_wins_13 : decode cb_C_wins 13 = .ok (.iload_n 1, 1) := by decide +kernel
theorem dc_C_wins_14 : decode cb_C_wins 14 = .ok (.if_icmp .eq 29, 3) := by decide +kernel
theorem dc_C_wins_17 : decode cb_C_wins 17 = .ok (.aload_n 0, 1) := by decide +kernel
theorem dc_C_wins_18 : decode cb_C_wins 18 = .ok (.iload_n 3, 1) := by decide +kernel
theorem dc_C_wins_19 : decode cb_C_wins 19 = .ok (.iload_n 1, 1) := by decide +kernel
theorem dc_C_wins_20 : decode cb_C_wins 20 = .ok (.invokevirtual 39, 3) := by decide +kernel
theorem dc_C_wins_23 : decode cb_C_wins 23 = .ok (.ifCond .ne 20, 3) := by decide +kernel
theorem dc_C_wins_26 : decode cb_C_wins 26 = .ok (.iload_n 2, 1) := by decide +kernel
theorem dc_C_wins_27 : decode cb_C_wins 27 = .ok (.aload_n 0, 1) := by decide +kernel
theorem dc_C_wins_28 : decode cb_C_wins 28 = .ok (.iload_n 1, 1) := by decide +kernel
theorem dc_C_wins_29 : decode cb_C_wins 29 = .ok (.iload_n 3, 1) := by decide +kernel
theorem dc_C_wins_30 : decode cb_C_wins 30 = .ok (.invokevirtual 39, 3) := by decide +kernel
theorem dc_C_wins_33 : decode cb_C_wins 33 = .ok (.ifCond .eq 7, 3) := by decide +kernel
theorem dc_C_wins_36 : decode cb_C_wins 36 = .ok (.iconst 2, 1) := by decide +kernel
theorem dc_C_wins_37 : decode cb_C_wins 37 = .ok (.goto 4, 3) := by decide +kernel
theorem dc_C_wins_40 : decode cb_C_wins 40 = .ok (.iconst 1, 1) := by decide +kernel
theorem dc_C_wins_41 : decode cb_C_wins 41 = .ok (.iadd, 1) := by decide +kernel
theorem dc_C_wins_42 : decode cb_C_wins 42 = .ok (.istore_n 2, 1) := by decide +kernel
theorem dc_C_wins_43 : decode cb_C_wins 43 = .ok (.iinc 3 1, 3) := by decide +kernel
theorem dc_C_wins_46 : decode cb_C_wins 46 = .ok (.goto (-42), 3) := by decide +kernel
theorem dc_C_wins_49 : decode cb_C_wins 49 = .ok (.iload_n 2, 1) := by decide +kernel
theorem dc_C_wins_50 : decode cb_C_wins 50 = .ok (.i2l, 1) := by decide +kernel
theorem dc_C_wins_51 : decode cb_C_wins 51 = .ok (.lreturn, 1) := by decide +kernel
theorem dc_W_init_0 : decode cb_W_init 0 = .ok (.aload_n 0, 1) := by decide +kernel
theorem dc_W_init_1 : decode cb_W_init 1 = .ok (.invokespecial 3, 3) := by decide +kernel
theorem dc_W_init_4 : decode cb_W_init 4 = .ok (.aload_n 0, 1) := by decide +kernel
theorem dc_W_init_5 : decode cb_W_init 5 = .ok (.new 9, 3) := by decide +kernel
theorem dc_W_init_8 : decode cb_W_init 8 = .ok (.dup, 1) := by decide +kernel
theorem dc_W_init_9 : decode cb_W_init 9 = .ok (.invokespecial 11, 3) := by decide +kernel
theorem dc_W_init_12 : decode cb_W_init 12 = .ok (.putfield 12, 3) := by decide +kernel
theorem dc_W_init_15 : decode cb_W_init 15 = .ok (.aload_n 0, 1) := by decide +kernel
theorem dc_W_init_16 : decode cb_W_init 16 = .ok (.new 18, 3) := by decide +kernel
theorem dc_W_init_19 : decode cb_W_init 19 = .ok (.dup, 1) := by decide +kernel
theorem dc_W_init_20 : decode cb_W_init 20 = .ok (.invokespecial 20, 3) := by decide +kernel
theorem dc_W_init_23 : decode cb_W_init 23 = .ok (.putfield 21, 3) := by decide +kernel
theorem dc_W_init_26 : decode cb_W_init 26 = .ok (.aload_n 0, 1) := by decide +kernel
theorem dc_W_init_27 : decode cb_W_init 27 = .ok (.new 25, 3) := by decide +kernel
theorem dc_W_init_30 : decode cb_W_init 30 = .ok (.dup, 1) := by decide +kernel
theorem dc_W_init_31 : decode cb_W_init 31 = .ok (.invokespecial 27, 3) := by decide +kernel
theorem dc_W_init_34 : decode cb_W_init 34 = .ok (.putfield 28, 3) := by decide +kernel
theorem dc_W_init_37 : decode cb_W_init 37 = .ok (.return_, 1) := by decide +kernel
theorem dc_W_betterOrder_0 : decode cb_W_betterOrder 0 = .ok (.aload_n 1, 1) := by decide +kernel
theorem dc_W_betterOrder_1 : decode cb_W_betterOrder 1 = .ok (.getfield 32, 3) := by decide +kernel
theorem dc_W_betterOrder_4 : decode cb_W_betterOrder 4 = .ok (.iload_n 3, 1) := by decide +kernel
theorem dc_W_betterOrder_5 : decode cb_W_betterOrder 5 = .ok (.iaload, 1) := by decide +kernel
theorem dc_W_betterOrder_6 : decode cb_W_betterOrder 6 = .ok (.istore 5, 2) := by decide +kernel
theorem dc_W_betterOrder_8 : decode cb_W_betterOrder 8 = .ok (.aload_n 0, 1) := by decide +kernel
theorem dc_W_betterOrder_9 : decode cb_W_betterOrder 9 = .ok (.iload 5, 2) := by decide +kernel
theorem dc_W_betterOrder_11 : decode cb_W_betterOrder 11 = .ok (.aload_n 0, 1) := by decide +kernel
theorem dc_W_betterOrder_12 : decode cb_W_betterOrder 12 = .ok (.getfield 12, 3) := by decide +kernel
theorem dc_W_betterOrder_15 : decode cb_W_betterOrder 15 = .ok (.aload_n 1, 1) := by decide +kernel
theorem dc_W_betterOrder_16 : decode cb_W_betterOrder 16 = .ok (.iload_n 2, 1) := by decide +kernel
theorem dc_W_betterOrder_17 : decode cb_W_betterOrder 17 = .ok (.invokevirtual 35, 3) := by decide +kernel
theorem dc_W_betterOrder_20 : decode cb_W_betterOrder 20 = .ok (.aload_n 1, 1) := by decide +kernel
theorem dc_W_betterOrder_21 : decode cb_W_betterOrder 21 = .ok (.getfield 39, 3) := by decide +kernel
theorem dc_W_betterOrder_24 : decode cb_W_betterOrder 24 = .ok (.invokestatic 43, 3) := by decide +kernel
theorem dc_W_betterOrder_27 : decode cb_W_betterOrder 27 = .ok (.putfield 49, 3) := by decide +kernel
theorem dc_W_betterOrder_30 : decode cb_W_betterOrder 30 = .ok (.aload_n 0, 1) := by decide +kernel
theorem dc_W_betterOrder_31 : decode cb_W_betterOrder 31 = .ok (.getfield 21, 3) := by decide +kernel
theorem dc_W_betterOrder_34 : decode cb_W_betterOrder 34 = .ok (.aload_n 1, 1) := by decide +kernel
theorem dc_W_betterOrder_35 : decode cb_W_betterOrder 35 = .ok (.invokevirtual 52, 3) := by decide +kernel
theorem dc_W_betterOrder_38 : decode cb_W_betterOrder 38 = .ok (.aload_n 0, 1) := by decide +kernel
theorem dc_W_betterOrder_39 : decode cb_W_betterOrder 39 = .ok (.getfield 21, 3) := by decide +kernel
theorem dc_W_betterOrder_42 : decode cb_W_betterOrder 42 = .ok (.iload_n 3, 1) := by decide +kernel
theorem dc_W_betterOrder_43 : decode cb_W_betterOrder 43 = .ok (.iload 5, 2) := by decide +kernel
theorem dc_W_betterOrder_45 : decode cb_W_betterOrder 45 = .ok (.aload_n 1, 1) := by decide +kernel
theorem dc_W_betterOrder_46 : decode cb_W_betterOrder 46 = .ok (.getfield 56, 3) := by decide +kernel
theorem dc_W_betterOrder_49 : decode cb_W_betterOrder 49 = .ok (.iload_n 3, 1) := by decide +kernel
theorem dc_W_betterOrder_50 : decode cb_W_betterOrder 50 = .ok (.iaload, 1) := by decide +kernel
theorem dc_W_betterOrder_51 : decode cb_W_betterOrder 51 = .ok (.iload 4, 2) := by decide +kernel
theorem dc_W_betterOrder_53 : decode cb_W_betterOrder 53 = .ok (.isub, 1) := by decide +kernel
theorem dc_W_betterOrder_54 : decode cb_W_betterOrder 54 = .ok (.invokevirtual 59, 3) := by decide +kernel
theorem dc_W_betterOrder_57 : decode cb_W_betterOrder 57 = .ok (.aload_n 0, 1) := by decide +kernel
theorem dc_W_betterOrder_58 : decode cb_W_betterOrder 58 = .ok (.getfield 21, 3) := by decide +kernel
theorem dc_W_betterOrder_61 : decode cb_W_betterOrder 61 = .ok (.iload 5, 2) := by decide +kernel
theorem dc_W_betterOrder_63 : decode cb_W_betterOrder 63 = .ok (.iload 4, 2) := by decide +kernel
theorem dc_W_betterOrder_65 : decode cb_W_betterOrder 65 = .ok (.invokevirtual 63, 3) := by decide +kernel
theorem dc_W_betterOrder_68 : decode cb_W_betterOrder 68 = .ok (.istore 6, 2) := by decide +kernel
theorem dc_W_betterOrder_70 : decode cb_W_betterOrder 70 = .ok (.iconst (-1), 1) := by decide +kernel
theorem dc_W_betterOrder_71 : decode cb_W_betterOrder 71 = .ok (.istore 7, 2) := by decide +kernel
theorem dc_W_betterOrder_73 : decode cb_W_betterOrder 73 = .ok (.aload_n 0, 1) := by decide +kernel
theorem dc_W_betterOrder_74 : decode cb_W_betterOrder 74 = .ok (.getfield 28, 3) := by decide +kernel
theorem dc_W_betterOrder_77 : decode cb_W_betterOrder 77 = .ok (.aload_n 1, 1) := by decide +kernel
theorem dc_W_betterOrder_78 : decode cb_W_betterOrder 78 = .ok (.getfield 39, 3) := by decide +kernel
theorem dc_W_betterOrder_81 : decode cb_W_betterOrder 81 = .ok (.invokevirtual 67, 3) := by decide +kernel
theorem dc_W_betterOrder_84 : decode cb_W_betterOrder 84 = .ok (.iconst 1, 1) := by decide +kernel
theorem dc_W_betterOrder_85 : decode cb_W_betterOrder 85 = .ok (.istore 8, 2) := by decide +kernel
theorem dc_W_betterOrder_87 : decode cb_W_betterOrder 87 = .ok (.iconst 0, 1) := by decide +kernel
theorem dc_W_betterOrder_88 : decode cb_W_betterOrder 88 = .ok (.istore 9, 2) := by decide +kernel
theorem dc_W_betterOrder_90 : decode cb_W_betterOrder 90 = .ok (.iload 9, 2) := by decide +kernel
theorem dc_W_betterOrder_92 : decode cb_W_betterOrder 92 = .ok (.sipush 5040, 3) := by decide +kernel
theorem dc_W_betterOrder_95 : decode cb_W_betterOrder 95 = .ok (.if_icmp .ge 94, 3) := by decide +kernel
theorem dc_W_betterOrder_98 : decode cb_W_betterOrder 98 = .ok (.iload 8, 2) := by decide +kernel
theorem dc_W_betterOrder_100 : decode cb_W_betterOrder 100 = .ok (.ifCond .eq 89, 3) := by decide +kernel
theorem dc_W_betterOrder_103 : decode cb_W_betterOrder 103 = .ok (.aload_n 0, 1) := by decide +kernel
theorem dc_W_betterOrder_104 : decode cb_W_betterOrder 104 = .ok (.getfield 49, 3) := by decide +kernel
theorem dc_W_betterOrder_107 : decode cb_W_betterOrder 107 = .ok (.ifCond .le 82, 3) := by decide +kernel
theorem dc_W_betterOrder_110 : decode cb_W_betterOrder 110 = .ok (.aload_n 0, 1) := by decide +kernel
theorem dc_W_betterOrder_111 : decode cb_W_betterOrder 111 = .ok (.getfield 28, 3) := by decide +kernel
theorem dc_W_betterOrder_114 : decode cb_W_betterOrder 114 = .ok (.invokevirtual 71, 3) := by decide +kernel
theorem dc_W_betterOrder_117 : decode cb_W_betterOrder 117 = .ok (.istore 10, 2) := by decide +kernel
theorem dc_W_betterOrder_119 : decode cb_W_betterOrder 119 = .ok (.aload_n 0, 1) := by decide +kernel
theorem dc_W_betterOrder_120 : decode cb_W_betterOrder 120 = .ok (.getfield 21, 3) := by decide +kernel
theorem dc_W_betterOrder_123 : decode cb_W_betterOrder 123 = .ok (.iload 6, 2) := by decide +kernel
theorem dc_W_betterOrder_125 : decode cb_W_betterOrder 125 = .ok (.iload 10, 2) := by decide +kernel
theorem dc_W_betterOrder_127 : decode cb_W_betterOrder 127 = .ok (.iload 4, 2) := by decide +kernel
theorem dc_W_betterOrder_129 : decode cb_W_betterOrder 129 = .ok (.invokevirtual 59, 3) := by decide +kernel
theorem dc_W_betterOrder_132 : decode cb_W_betterOrder 132 = .ok (.iload 5, 2) := by decide +kernel
theorem dc_W_betterOrder_134 : decode cb_W_betterOrder 134 = .ok (.aload_n 0, 1) := by decide +kernel
theorem dc_W_betterOrder_135 : decode cb_W_betterOrder 135 = .ok (.getfield 12, 3) := by decide +kernel
theorem dc_W_betterOrder_138 : decode cb_W_betterOrder 138 = .ok (.aload_n 0, 1) := by decide +kernel
theorem dc_W_betterOrder_139 : decode cb_W_betterOrder 139 = .ok (.getfield 21, 3) := by decide +kernel
theorem dc_W_betterOrder_142 : decode cb_W_betterOrder 142 = .ok (.iload_n 2, 1) := by decide +kernel
theorem dc_W_betterOrder_143 : decode cb_W_betterOrder 143 = .ok (.invokevirtual 35, 3) := by decide +kernel
theorem dc_W_betterOrder_146 : decode cb_W_betterOrder 146 = .ok (.aload_n 1, 1) := by decide +kernel
theorem dc_W_betterOrder_147 : decode cb_W_betterOrder 147 = .ok (.getfield 39, 3) := by decide +kernel
theorem dc_W_betterOrder_150 : decode cb_W_betterOrder 150 = .ok (.invokestatic 43, 3) := by decide +kernel
theorem dc_W_betterOrder_153 : decode cb_W_betterOrder 153 = .ok (.istore 11, 2) := by decide +kernel
theorem dc_W_betterOrder_155 : decode cb_W_betterOrder 155 = .ok (.iload 11, 2) := by decide +kernel
theorem dc_W_betterOrder_157 : decode cb_W_betterOrder 157 = .ok (.aload_n 0, 1) := by decide +kernel
theorem dc_W_betterOrder_158 : decode cb_W_betterOrder 158 = .ok (.getfield 49, 3) := by decide +kernel
theorem dc_W_betterOrder_161 : decode cb_W_betterOrder 161 = .ok (.if_icmp .ge 13, 3) := by decide +kernel
theorem dc_W_betterOrder_164 : decode cb_W_betterOrder 164 = .ok (.aload_n 0, 1) := by decide +kernel
theorem dc_W_betterOrder_165 : decode cb_W_betterOrder 165 = .ok (.iload 11, 2) := by decide +kernel
theorem dc_W_betterOrder_167 : decode cb_W_betterOrder 167 = .ok (.putfield 49, 3) := by decide +kernel
theorem dc_W_betterOrder_170 : decode cb_W_betterOrder 170 = .ok (.iload 10, 2) := by decide +kernel
theorem dc_W_betterOrder_172 : decode cb_W_betterOrder 172 = .ok (.istore 7, 2) := by decide +kernel
theorem dc_W_betterOrder_174 : decode cb_W_betterOrder 174 = .ok (.aload_n 0, 1) := by decide +kernel
theorem dc_W_betterOrder_175 : decode cb_W_betterOrder 175 = .ok (.getfield 28, 3) := by decide +kernel
theorem dc_W_betterOrder_178 : decode cb_W_betterOrder 178 = .ok (.invokevirtual 75, 3) := by decide +kernel
theorem dc_W_betterOrder_181 : decode cb_W_betterOrder 181 = .ok (.istore 8, 2) := by decide +kernel
theorem dc_W_betterOrder_183 : decode cb_W_betterOrder 183 = .ok (.iinc 9 1, 3) := by decide +kernel
theorem dc_W_betterOrder_186 : decode cb_W_betterOrder 186 = .ok (.goto (-96), 3) := by decide +kernel
theorem dc_W_betterOrder_189 : decode cb_W_betterOrder 189 = .ok (.iload 7, 2) := by decide +kernel
theorem dc_W_betterOrder_191 : decode cb_W_betterOrder 191 = .ok (.ireturn, 1) := by decide +kernel
theorem dc_W_bestNotAlone_0 : decode cb_W_bestNotAlone 0 = .ok (.iconst 0, 1) := by decide +kernel
theorem dc_W_bestNotAlone_1 : decode cb_W_bestNotAlone 1 = .ok (.istore_n 3, 1) := by decide +kernel
theorem dc_W_bestNotAlone_2 : decode cb_W_bestNotAlone 2 = .ok (.iload_n 3, 1) := by decide +kernel
theorem dc_W_bestNotAlone_3 : decode cb_W_bestNotAlone 3 = .ok (.aload_n 1, 1) := by decide +kernel
theorem dc_W_bestNotAlone_4 : decode cb_W_bestNotAlone 4 = .ok (.getfield 39, 3) := by decide +kernel
theorem dc_W_bestNotAlone_7 : decode cb_W_bestNotAlone 7 = .ok (.if_icmp .ge 49, 3) := by decide +kernel
theorem dc_W_bestNotAlone_10 : decode cb_W_bestNotAlone 10 = .ok (.iconst 1, 1) := by decide +kernel
theorem dc_W_bestNotAlone_11 : decode cb_W_bestNotAlone 11 = .ok (.iload_n 3, 1) := by decide +kernel
theorem dc_W_bestNotAlone_12 : decode cb_W_bestNotAlone 12 = .ok (.ishl, 1) := by decide +kernel
theorem dc_W_bestNotAlone_13 : decode cb_W_bestNotAlone 13 = .ok (.istore 4, 2) := by decide +kernel
theorem dc_W_bestNotAlone_15 : decode cb_W_bestNotAlone 15 = .ok (.aload_n 1, 1) := by decide +kernel
theorem dc_W_bestNotAlone_16 : decode cb_W_bestNotAlone 16 = .ok (.iload_n 3, 1) := by decide +kernel
theorem dc_W_bestNotAlone_17 : decode cb_W_bestNotAlone 17 = .ok (.invokevirtual 79, 3) := by decide +kernel
theorem dc_W_bestNotAlone_20 : decode cb_W_bestNotAlone 20 = .ok (.aload_n 1, 1) := by decide +kernel
theorem dc_W_bestNotAlone_21 : decode cb_W_bestNotAlone 21 = .ok (.invokevirtual 83, 3) := by decide +kernel
theorem dc_W_bestNotAlone_24 : decode cb_W_bestNotAlone 24 = .ok (.iload 4, 2) := by decide +kernel
theorem dc_W_bestNotAlone_26 : decode cb_W_bestNotAlone 26 = .ok (.isub, 1) := by decide +kernel
theorem dc_W_bestNotAlone_27 : decode cb_W_bestNotAlone 27 = .ok (.if_icmp .ne 23, 3) := by decide +kernel
theorem dc_W_bestNotAlone_30 : decode cb_W_bestNotAlone 30 = .ok (.aload_n 0, 1) := by decide +kernel
theorem dc_W_bestNotAlone_31 : decode cb_W_bestNotAlone 31 = .ok (.getfield 12, 3) := by decide +kernel
theorem dc_W_bestNotAlone_34 : decode cb_W_bestNotAlone 34 = .ok (.aload_n 1, 1) := by decide +kernel
theorem dc_W_bestNotAlone_35 : decode cb_W_bestNotAlone 35 = .ok (.iload_n 2, 1) := by decide +kernel
theorem dc_W_bestNotAlone_36 : decode cb_W_bestNotAlone 36 = .ok (.invokevirtual 86, 3) := by decide +kernel
theorem dc_W_bestNotAlone_39 : decode cb_W_bestNotAlone 39 = .ok (.iload 4, 2) := by decide +kernel
theorem dc_W_bestNotAlone_41 : decode cb_W_bestNotAlone 41 = .ok (.if_icmp .ne 7, 3) := by decide +kernel
theorem dc_W_bestNotAlone_44 : decode cb_W_bestNotAlone 44 = .ok (.iconst (-1), 1) := by decide +kernel
theorem dc_W_bestNotAlone_45 : decode cb_W_bestNotAlone 45 = .ok (.goto 4, 3) := by decide +kernel
theorem dc_W_bestNotAlone_48 : decode cb_W_bestNotAlone 48 = .ok (.iload_n 3, 1) := by decide +kernel
theorem dc_W_bestNotAlone_49 : decode cb_W_bestNotAlone 49 = .ok (.ireturn, 1) := by decide +kernel
theorem dc_W_bestNotAlone_50 : decode cb_W_bestNotAlone 50 = .ok (.iinc 3 1, 3) := by decide +kernel
theorem dc_W_bestNotAlone_53 : decode cb_W_bestNotAlone 53 = .ok (.goto (-51), 3) := by decide +kernel
theorem dc_W_bestNotAlone_56 : decode cb_W_bestNotAlone 56 = .ok (.iconst (-1), 1) := by decide +kernel
theorem dc_W_bestNotAlone_57 : decode cb_W_bestNotAlone 57 = .ok (.ireturn, 1) := by decide +kernel
theorem dc_W_worstAmongWinners_0 : decode cb_W_worstAmongWinners 0 = .ok (.aload_n 1, 1) := by decide +kernel
theorem dc_W_worstAmongWinners_1 : decode cb_W_worstAmongWinners 1 = .ok (.invokevirtual 83, 3) := by decide +kernel
theorem dc_W_worstAmongWinners_4 : decode cb_W_worstAmongWinners 4 = .ok (.istore_n 3, 1) := by decide +kernel
theorem dc_W_worstAmongWinners_5 : decode cb_W_worstAmongWinners 5 = .ok (.iconst 0, 1) := by decide +kernel
theorem dc_W_worstAmongWinners_6 : decode cb_W_worstAmongWinners 6 = .ok (.istore 4, 2) := by decide +kernel
theorem dc_W_worstAmongWinners_8 : decode cb_W_worstAmongWinners 8 = .ok (.iload 4, 2) := by decide +kernel
theorem dc_W_worstAmongWinners_10 : decode cb_W_worstAmongWinners 10 = .ok (.aload_n 1, 1) := by decide +kernel
theorem dc_W_worstAmongWinners_11 : decode cb_W_worstAmongWinners 11 = .ok (.getfield 39, 3) := by decide +kernel
theorem dc_W_worstAmongWinners_14 : decode cb_W_worstAmongWinners 14 = .ok (.if_icmp .ge 23, 3) := by decide +kernel
theorem dc_W_worstAmongWinners_17 : decode cb_W_worstAmongWinners 17 = .ok (.iload_n 3, 1) := by decide +kernel
theorem dc_W_worstAmongWinners_18 : decode cb_W_worstAmongWinners 18 = .ok (.aload_n 1, 1) := by decide +kernel
theorem dc_W_worstAmongWinners_19 : decode cb_W_worstAmongWinners 19 = .ok (.iload 4, 2) := by decide +kernel
theorem dc_W_worstAmongWinners_21 : decode cb_W_worstAmongWinners 21 = .ok (.invokevirtual 79, 3) := by decide +kernel
theorem dc_W_worstAmongWinners_24 : decode cb_W_worstAmongWinners 24 = .ok (.iconst 1, 1) := by decide +kernel
theorem dc_W_worstAmongWinners_25 : decode cb_W_worstAmongWinners 25 = .ok (.iload 4, 2) := by decide +kernel
theorem dc_W_worstAmongWinners_27 : decode cb_W_worstAmongWinners 27 = .ok (.ishl, 1) := by decide +kernel
theorem dc_W_worstAmongWinners_28 : decode cb_W_worstAmongWinners 28 = .ok (.ior, 1) := by decide +kernel
theorem dc_W_worstAmongWinners_29 : decode cb_W_worstAmongWinners 29 = .ok (.iand, 1) := by decide +kernel
theorem dc_W_worstAmongWinners_30 : decode cb_W_worstAmongWinners 30 = .ok (.istore_n 3, 1) := by decide +kernel
theorem dc_W_worstAmongWinners_31 : decode cb_W_worstAmongWinners 31 = .ok (.iinc 4 1, 3) := by decide +kernel
theorem dc_W_worstAmongWinners_34 : decode cb_W_worstAmongWinners 34 = .ok (.goto (-26), 3) := by decide +kernel
theorem dc_W_worstAmongWinners_37 : decode cb_W_worstAmongWinners 37 = .ok (.aload_n 1, 1) := by decide +kernel
theorem dc_W_worstAmongWinners_38 : decode cb_W_worstAmongWinners 38 = .ok (.iload_n 3, 1) := by decide +kernel
theorem dc_W_worstAmongWinners_39 : decode cb_W_worstAmongWinners 39 = .ok (.aload_n 0, 1) := by decide +kernel
theorem dc_W_worstAmongWinners_40 : decode cb_W_worstAmongWinners 40 = .ok (.getfield 12, 3) := by decide +kernel
theorem dc_W_worstAmongWinners_43 : decode cb_W_worstAmongWinners 43 = .ok (.aload_n 1, 1) := by decide +kernel
theorem dc_W_worstAmongWinners_44 : decode cb_W_worstAmongWinners 44 = .ok (.iload_n 2, 1) := by decide +kernel
theorem dc_W_worstAmongWinners_45 : decode cb_W_worstAmongWinners 45 = .ok (.invokevirtual 86, 3) := by decide +kernel
theorem dc_W_worstAmongWinners_48 : decode cb_W_worstAmongWinners 48 = .ok (.iand, 1) := by decide +kernel
theorem dc_W_worstAmongWinners_49 : decode cb_W_worstAmongWinners 49 = .ok (.invokevirtual 89, 3) := by decide +kernel
theorem dc_W_worstAmongWinners_52 : decode cb_W_worstAmongWinners 52 = .ok (.ireturn, 1) := by decide +kernel
theorem dc_W_typeThatHarmsByRaising_0 : decode cb_W_typeThatHarmsByRaising 0 = .ok (.aload_n 0, 1) := by decide +kernel
theorem dc_W_typeThatHarmsByRaising_1 : decode cb_W_typeThatHarmsByRaising 1 = .ok (.getfield 12, 3) := by decide +kernel
theorem dc_W_typeThatHarmsByRaising_4 : decode cb_W_typeThatHarmsByRaising 4 = .ok (.aload_n 1, 1) := by decide +kernel
theorem dc_W_typeThatHarmsByRaising_5 : decode cb_W_typeThatHarmsByRaising 5 = .ok (.iload_n 2, 1) := by decide +kernel
theorem dc_W_typeThatHarmsByRaising_6 : decode cb_W_typeThatHarmsByRaising 6 = .ok (.invokevirtual 35, 3) := by decide +kernel
theorem dc_W_typeThatHarmsByRaising_9 : decode cb_W_typeThatHarmsByRaising 9 = .ok (.istore_n 3, 1) := by decide +kernel
theorem dc_W_typeThatHarmsByRaising_10 : decode cb_W_typeThatHarmsByRaising 10 = .ok (.aload_n 0, 1) := by decide +kernel
theorem dc_W_typeThatHarmsByRaising_11 : decode cb_W_typeThatHarmsByRaising 11 = .ok (.getfield 21, 3) := by decide +kernel
theorem dc_W_typeThatHarmsByRaising_14 : decode cb_W_typeThatHarmsByRaising 14 = .ok (.aload_n 1, 1) := by decide +kernel
theorem dc_W_typeThatHarmsByRaising_15 : decode cb_W_typeThatHarmsByRaising 15 = .ok (.invokevirtual 52, 3) := by decide +kernel
theorem dc_W_typeThatHarmsByRaising_18 : decode cb_W_typeThatHarmsByRaising 18 = .ok (.iconst 0, 1) := by decide +kernel
theorem dc_W_typeThatHarmsByRaising_19 : decode cb_W_typeThatHarmsByRaising 19 = .ok (.istore 4, 2) := by decide +kernel
theorem dc_W_typeThatHarmsByRaising_21 : decode cb_W_typeThatHarmsByRaising 21 = .ok (.iload 4, 2) := by decide +kernel
theorem dc_W_typeThatHarmsByRaising_23 : decode cb_W_typeThatHarmsByRaising 23 = .ok (.aload_n 1, 1) := by decide +kernel
theorem dc_W_typeThatHarmsByRaising_24 : decode cb_W_typeThatHarmsByRaising 24 = .ok (.getfield 92, 3) := by decide +kernel
theorem dc_W_typeThatHarmsByRaising_27 : decode cb_W_typeThatHarmsByRaising 27 = .ok (.if_icmp .ge 81, 3) := by decide +kernel
theorem dc_W_typeThatHarmsByRaising_30 : decode cb_W_typeThatHarmsByRaising 30 = .ok (.aload_n 1, 1) := by decide +kernel
theorem dc_W_typeThatHarmsByRaising_31 : decode cb_W_typeThatHarmsByRaising 31 = .ok (.getfield 32, 3) := by decide +kernel
theorem dc_W_typeThatHarmsByRaising_34 : decode cb_W_typeThatHarmsByRaising 34 = .ok (.iload 4, 2) := by decide +kernel
theorem dc_W_typeThatHarmsByRaising_36 : decode cb_W_typeThatHarmsByRaising 36 = .ok (.iaload, 1) := by decide +kernel
theorem dc_W_typeThatHarmsByRaising_37 : decode cb_W_typeThatHarmsByRaising 37 = .ok (.istore 5, 2) := by decide +kernel
theorem dc_W_typeThatHarmsByRaising_39 : decode cb_W_typeThatHarmsByRaising 39 = .ok (.aload_n 0, 1) := by decide +kernel
theorem dc_W_typeThatHarmsByRaising_40 : decode cb_W_typeThatHarmsByRaising 40 = .ok (.getfield 21, 3) := by decide +kernel
theorem dc_W_typeThatHarmsByRaising_43 : decode cb_W_typeThatHarmsByRaising 43 = .ok (.iload 4, 2) := by decide +kernel
theorem dc_W_typeThatHarmsByRaising_45 : decode cb_W_typeThatHarmsByRaising 45 = .ok (.iload 5, 2) := by decide +kernel
theorem dc_W_typeThatHarmsByRaising_47 : decode cb_W_typeThatHarmsByRaising 47 = .ok (.iload_n 3, 1) := by decide +kernel
theorem dc_W_typeThatHarmsByRaising_48 : decode cb_W_typeThatHarmsByRaising 48 = .ok (.aload_n 1, 1) := by decide +kernel
theorem dc_W_typeThatHarmsByRaising_49 : decode cb_W_typeThatHarmsByRaising 49 = .ok (.getfield 39, 3) := by decide +kernel
theorem dc_W_typeThatHarmsByRaising_52 : decode cb_W_typeThatHarmsByRaising 52 = .ok (.invokestatic 95, 3) := by decide +kernel
theorem dc_W_typeThatHarmsByRaising_55 : decode cb_W_typeThatHarmsByRaising 55 = .ok (.aload_n 1, 1) := by decide +kernel
theorem dc_W_typeThatHarmsByRaising_56 : decode cb_W_typeThatHarmsByRaising 56 = .ok (.getfield 56, 3) := by decide +kernel
theorem dc_W_typeThatHarmsByRaising_59 : decode cb_W_typeThatHarmsByRaising 59 = .ok (.iload 4, 2) := by decide +kernel
theorem dc_W_typeThatHarmsByRaising_61 : decode cb_W_typeThatHarmsByRaising 61 = .ok (.iaload, 1) := by decide +kernel
theorem dc_W_typeThatHarmsByRaising_62 : decode cb_W_typeThatHarmsByRaising 62 = .ok (.invokevirtual 59, 3) := by decide +kernel
theorem dc_W_typeThatHarmsByRaising_65 : decode cb_W_typeThatHarmsByRaising 65 = .ok (.aload_n 0, 1) := by decide +kernel
theorem dc_W_typeThatHarmsByRaising_66 : decode cb_W_typeThatHarmsByRaising 66 = .ok (.getfield 12, 3) := by decide +kernel
theorem dc_W_typeThatHarmsByRaising_69 : decode cb_W_typeThatHarmsByRaising 69 = .ok (.aload_n 0, 1) := by decide +kernel
theorem dc_W_typeThatHarmsByRaising_70 : decode cb_W_typeThatHarmsByRaising 70 = .ok (.getfield 21, 3) := by decide +kernel
theorem dc_W_typeThatHarmsByRaising_73 : decode cb_W_typeThatHarmsByRaising 73 = .ok (.iload_n 2, 1) := by decide +kernel
theorem dc_W_typeThatHarmsByRaising_74 : decode cb_W_typeThatHarmsByRaising 74 = .ok (.invokevirtual 35, 3) := by decide +kernel
theorem dc_W_typeThatHarmsByRaising_77 : decode cb_W_typeThatHarmsByRaising 77 = .ok (.iload_n 3, 1) := by decide +kernel
theorem dc_W_typeThatHarmsByRaising_78 : decode cb_W_typeThatHarmsByRaising 78 = .ok (.if_icmp .eq 6, 3) := by decide +kernel
theorem dc_W_typeThatHarmsByRaising_81 : decode cb_W_typeThatHarmsByRaising 81 = .ok (.iload 4, 2) := by decide +kernel
theorem dc_W_typeThatHarmsByRaising_83 : decode cb_W_typeThatHarmsByRaising 83 = .ok (.ireturn, 1) := by decide +kernel
theorem dc_W_typeThatHarmsByRaising_84 : decode cb_W_typeThatHarmsByRaising 84 = .ok (.aload_n 0, 1) := by decide +kernel
theorem dc_W_typeThatHarmsByRaising_85 : decode cb_W_typeThatHarmsByRaising 85 = .ok (.getfield 21, 3) := by decide +kernel
theorem dc_W_typeThatHarmsByRaising_88 : decode cb_W_typeThatHarmsByRaising 88 = .ok (.iload 4, 2) := by decide +kernel
theorem dc_W_typeThatHarmsByRaising_90 : decode cb_W_typeThatHarmsByRaising 90 = .ok (.iload 5, 2) := by decide +kernel
theorem dc_W_typeThatHarmsByRaising_92 : decode cb_W_typeThatHarmsByRaising 92 = .ok (.aload_n 1, 1) := by decide +kernel
theorem dc_W_typeThatHarmsByRaising_93 : decode cb_W_typeThatHarmsByRaising 93 = .ok (.getfield 56, 3) := by decide +kernel
theorem dc_W_typeThatHarmsByRaising_96 : decode cb_W_typeThatHarmsByRaising 96 = .ok (.iload 4, 2) := by decide +kernel
theorem dc_W_typeThatHarmsByRaising_98 : decode cb_W_typeThatHarmsByRaising 98 = .ok (.iaload, 1) := by decide +kernel
theorem dc_W_typeThatHarmsByRaising_99 : decode cb_W_typeThatHarmsByRaising 99 = .ok (.invokevirtual 59, 3) := by decide +kernel
theorem dc_W_typeThatHarmsByRaising_102 : decode cb_W_typeThatHarmsByRaising 102 = .ok (.iinc 4 1, 3) := by decide +kernel
theorem dc_W_typeThatHarmsByRaising_105 : decode cb_W_typeThatHarmsByRaising 105 = .ok (.goto (-84), 3) := by decide +kernel
theorem dc_W_typeThatHarmsByRaising_108 : decode cb_W_typeThatHarmsByRaising 108 = .ok (.iconst (-1), 1) := by decide +kernel
theorem dc_W_typeThatHarmsByRaising_109 : decode cb_W_typeThatHarmsByRaising 109 = .ok (.ireturn, 1) := by decide +kernel
theorem dc_W_typeThatHarmsByJoining_0 : decode cb_W_typeThatHarmsByJoining 0 = .ok (.aload_n 0, 1) := by decide +kernel
theorem dc_W_typeThatHarmsByJoining_1 : decode cb_W_typeThatHarmsByJoining 1 = .ok (.getfield 12, 3) := by decide +kernel
theorem dc_W_typeThatHarmsByJoining_4 : decode cb_W_typeThatHarmsByJoining 4 = .ok (.aload_n 1, 1) := by decide +kernel
theorem dc_W_typeThatHarmsByJoining_5 : decode cb_W_typeThatHarmsByJoining 5 = .ok (.iload_n 2, 1) := by decide +kernel
theorem dc_W_typeThatHarmsByJoining_6 : decode cb_W_typeThatHarmsByJoining 6 = .ok (.invokevirtual 35, 3) := by decide +kernel
theorem dc_W_typeThatHarmsByJoining_9 : decode cb_W_typeThatHarmsByJoining 9 = .ok (.istore_n 3, 1) := by decide +kernel
theorem dc_W_typeThatHarmsByJoining_10 : decode cb_W_typeThatHarmsByJoining 10 = .ok (.aload_n 0, 1) := by decide +kernel
theorem dc_W_typeThatHarmsByJoining_11 : decode cb_W_typeThatHarmsByJoining 11 = .ok (.getfield 21, 3) := by decide +kernel
theorem dc_W_typeThatHarmsByJoining_14 : decode cb_W_typeThatHarmsByJoining 14 = .ok (.aload_n 1, 1) := by decide +kernel
theorem dc_W_typeThatHarmsByJoining_15 : decode cb_W_typeThatHarmsByJoining 15 = .ok (.invokevirtual 52, 3) := by decide +kernel
theorem dc_W_typeThatHarmsByJoining_18 : decode cb_W_typeThatHarmsByJoining 18 = .ok (.iconst 0, 1) := by decide +kernel
theorem dc_W_typeThatHarmsByJoining_19 : decode cb_W_typeThatHarmsByJoining 19 = .ok (.istore 4, 2) := by decide +kernel
theorem dc_W_typeThatHarmsByJoining_21 : decode cb_W_typeThatHarmsByJoining 21 = .ok (.iload 4, 2) := by decide +kernel
theorem dc_W_typeThatHarmsByJoining_23 : decode cb_W_typeThatHarmsByJoining 23 = .ok (.aload_n 1, 1) := by decide +kernel
theorem dc_W_typeThatHarmsByJoining_24 : decode cb_W_typeThatHarmsByJoining 24 = .ok (.getfield 92, 3) := by decide +kernel
theorem dc_W_typeThatHarmsByJoining_27 : decode cb_W_typeThatHarmsByJoining 27 = .ok (.if_icmp .ge 85, 3) := by decide +kernel
theorem dc_W_typeThatHarmsByJoining_30 : decode cb_W_typeThatHarmsByJoining 30 = .ok (.aload_n 1, 1) := by decide +kernel
theorem dc_W_typeThatHarmsByJoining_31 : decode cb_W_typeThatHarmsByJoining 31 = .ok (.getfield 32, 3) := by decide +kernel
theorem dc_W_typeThatHarmsByJoining_34 : decode cb_W_typeThatHarmsByJoining 34 = .ok (.iload 4, 2) := by decide +kernel
theorem dc_W_typeThatHarmsByJoining_36 : decode cb_W_typeThatHarmsByJoining 36 = .ok (.iaload, 1) := by decide +kernel
theorem dc_W_typeThatHarmsByJoining_37 : decode cb_W_typeThatHarmsByJoining 37 = .ok (.istore 5, 2) := by decide +kernel
theorem dc_W_typeThatHarmsByJoining_39 : decode cb_W_typeThatHarmsByJoining 39 = .ok (.iload 5, 2) := by decide +kernel
theorem dc_W_typeThatHarmsByJoining_41 : decode cb_W_typeThatHarmsByJoining 41 = .ok (.iconst 0, 1) := by decide +kernel
theorem dc_W_typeThatHarmsByJoining_42 : decode cb_W_typeThatHarmsByJoining 42 = .ok (.invokestatic 98, 3) := by decide +kernel
theorem dc_W_typeThatHarmsByJoining_45 : decode cb_W_typeThatHarmsByJoining 45 = .ok (.iload_n 3, 1) := by decide +kernel
theorem dc_W_typeThatHarmsByJoining_46 : decode cb_W_typeThatHarmsByJoining 46 = .ok (.if_icmp .ne 60, 3) := by decide +kernel
theorem dc_W_typeThatHarmsByJoining_49 : decode cb_W_typeThatHarmsByJoining 49 = .ok (.aload_n 0, 1) := by decide +kernel
theorem dc_W_typeThatHarmsByJoining_50 : decode cb_W_typeThatHarmsByJoining 50 = .ok (.getfield 21, 3) := by decide +kernel
theorem dc_W_typeThatHarmsByJoining_53 : decode cb_W_typeThatHarmsByJoining 53 = .ok (.iload 4, 2) := by decide +kernel
theorem dc_W_typeThatHarmsByJoining_55 : decode cb_W_typeThatHarmsByJoining 55 = .ok (.iload 5, 2) := by decide +kernel
theorem dc_W_typeThatHarmsByJoining_57 : decode cb_W_typeThatHarmsByJoining 57 = .ok (.aload_n 1, 1) := by decide +kernel
theorem dc_W_typeThatHarmsByJoining_58 : decode cb_W_typeThatHarmsByJoining 58 = .ok (.getfield 56, 3) := by decide +kernel
theorem dc_W_typeThatHarmsByJoining_61 : decode cb_W_typeThatHarmsByJoining 61 = .ok (.iload 4, 2) := by decide +kernel
theorem dc_W_typeThatHarmsByJoining_63 : decode cb_W_typeThatHarmsByJoining 63 = .ok (.iaload, 1) := by decide +kernel
theorem dc_W_typeThatHarmsByJoining_64 : decode cb_W_typeThatHarmsByJoining 64 = .ok (.iconst 1, 1) := by decide +kernel
theorem dc_W_typeThatHarmsByJoining_65 : decode cb_W_typeThatHarmsByJoining 65 = .ok (.iadd, 1) := by decide +kernel
theorem dc_W_typeThatHarmsByJoining_66 : decode cb_W_typeThatHarmsByJoining 66 = .ok (.invokevirtual 59, 3) := by decide +kernel
theorem dc_W_typeThatHarmsByJoining_69 : decode cb_W_typeThatHarmsByJoining 69 = .ok (.aload_n 0, 1) := by decide +kernel
theorem dc_W_typeThatHarmsByJoining_70 : decode cb_W_typeThatHarmsByJoining 70 = .ok (.getfield 12, 3) := by decide +kernel
theorem dc_W_typeThatHarmsByJoining_73 : decode cb_W_typeThatHarmsByJoining 73 = .ok (.aload_n 0, 1) := by decide +kernel
theorem dc_W_typeThatHarmsByJoining_74 : decode cb_W_typeThatHarmsByJoining 74 = .ok (.getfield 21, 3) := by decide +kernel
theorem dc_W_typeThatHarmsByJoining_77 : decode cb_W_typeThatHarmsByJoining 77 = .ok (.iload_n 2, 1) := by decide +kernel
theorem dc_W_typeThatHarmsByJoining_78 : decode cb_W_typeThatHarmsByJoining 78 = .ok (.invokevirtual 35, 3) := by decide +kernel
theorem dc_W_typeThatHarmsByJoining_81 : decode cb_W_typeThatHarmsByJoining 81 = .ok (.iload_n 3, 1) := by decide +kernel
theorem dc_W_typeThatHarmsByJoining_82 : decode cb_W_typeThatHarmsByJoining 82 = .ok (.if_icmp .eq 6, 3) := by decide +kernel
theorem dc_W_typeThatHarmsByJoining_85 : decode cb_W_typeThatHarmsByJoining 85 = .ok (.iload 4, 2) := by decide +kernel
theorem dc_W_typeThatHarmsByJoining_87 : decode cb_W_typeThatHarmsByJoining 87 = .ok (.ireturn, 1) := by decide +kernel
theorem dc_W_typeThatHarmsByJoining_88 : decode cb_W_typeThatHarmsByJoining 88 = .ok (.aload_n 0, 1) := by decide +kernel
theorem dc_W_typeThatHarmsByJoining_89 : decode cb_W_typeThatHarmsByJoining 89 = .ok (.getfield 21, 3) := by decide +kernel
theorem dc_W_typeThatHarmsByJoining_92 : decode cb_W_typeThatHarmsByJoining 92 = .ok (.iload 4, 2) := by decide +kernel
theorem dc_W_typeThatHarmsByJoining_94 : decode cb_W_typeThatHarmsByJoining 94 = .ok (.iload 5, 2) := by decide +kernel
theorem dc_W_typeThatHarmsByJoining_96 : decode cb_W_typeThatHarmsByJoining 96 = .ok (.aload_n 1, 1) := by decide +kernel
theorem dc_W_typeThatHarmsByJoining_97 : decode cb_W_typeThatHarmsByJoining 97 = .ok (.getfield 56, 3) := by decide +kernel
theorem dc_W_typeThatHarmsByJoining_100 : decode cb_W_typeThatHarmsByJoining 100 = .ok (.iload 4, 2) := by decide +kernel
theorem dc_W_typeThatHarmsByJoining_102 : decode cb_W_typeThatHarmsByJoining 102 = .ok (.iaload, 1) := by decide +kernel
theorem dc_W_typeThatHarmsByJoining_103 : decode cb_W_typeThatHarmsByJoining 103 = .ok (.invokevirtual 59, 3) := by decide +kernel
theorem dc_W_typeThatHarmsByJoining_106 : decode cb_W_typeThatHarmsByJoining 106 = .ok (.iinc 4 1, 3) := by decide +kernel
theorem dc_W_typeThatHarmsByJoining_109 : decode cb_W_typeThatHarmsByJoining 109 = .ok (.goto (-88), 3) := by decide +kernel
theorem dc_W_typeThatHarmsByJoining_112 : decode cb_W_typeThatHarmsByJoining 112 = .ok (.iconst (-1), 1) := by decide +kernel
theorem dc_W_typeThatHarmsByJoining_113 : decode cb_W_typeThatHarmsByJoining 113 = .ok (.ireturn, 1) := by decide +kernel
theorem dc_W_loserThatHarmsByLeaving_0 : decode cb_W_loserThatHarmsByLeaving 0 = .ok (.aload_n 1, 1) := by decide +kernel
theorem dc_W_loserThatHarmsByLeaving_1 : decode cb_W_loserThatHarmsByLeaving 1 = .ok (.getfield 39, 3) := by decide +kernel
theorem dc_W_loserThatHarmsByLeaving_4 : decode cb_W_loserThatHarmsByLeaving 4 = .ok (.iconst 2, 1) := by decide +kernel
theorem dc_W_loserThatHarmsByLeaving_5 : decode cb_W_loserThatHarmsByLeaving 5 = .ok (.if_icmp .gt 5, 3) := by decide +kernel
theorem dc_W_loserThatHarmsByLeaving_8 : decode cb_W_loserThatHarmsByLeaving 8 = .ok (.iconst (-1), 1) := by decide +kernel
theorem dc_W_loserThatHarmsByLeaving_9 : decode cb_W_loserThatHarmsByLeaving 9 = .ok (.ireturn, 1) := by decide +kernel
theorem dc_W_loserThatHarmsByLeaving_10 : decode cb_W_loserThatHarmsByLeaving 10 = .ok (.aload_n 0, 1) := by decide +kernel
theorem dc_W_loserThatHarmsByLeaving_11 : decode cb_W_loserThatHarmsByLeaving 11 = .ok (.getfield 12, 3) := by decide +kernel
theorem dc_W_loserThatHarmsByLeaving_14 : decode cb_W_loserThatHarmsByLeaving 14 = .ok (.aload_n 1, 1) := by decide +kernel
theorem dc_W_loserThatHarmsByLeaving_15 : decode cb_W_loserThatHarmsByLeaving 15 = .ok (.iload_n 2, 1) := by decide +kernel
theorem dc_W_loserThatHarmsByLeaving_16 : decode cb_W_loserThatHarmsByLeaving 16 = .ok (.invokevirtual 86, 3) := by decide +kernel
theorem dc_W_loserThatHarmsByLeaving_19 : decode cb_W_loserThatHarmsByLeaving 19 = .ok (.istore_n 3, 1) := by decide +kernel
theorem dc_W_loserThatHarmsByLeaving_20 : decode cb_W_loserThatHarmsByLeaving 20 = .ok (.aload_n 1, 1) := by decide +kernel
theorem dc_W_loserThatHarmsByLeaving_21 : decode cb_W_loserThatHarmsByLeaving 21 = .ok (.iload_n 3, 1) := by decide +kernel
theorem dc_W_loserThatHarmsByLeaving_22 : decode cb_W_loserThatHarmsByLeaving 22 = .ok (.invokevirtual 89, 3) := by decide +kernel
theorem dc_W_loserThatHarmsByLeaving_25 : decode cb_W_loserThatHarmsByLeaving 25 = .ok (.istore 4, 2) := by decide +kernel
theorem dc_W_loserThatHarmsByLeaving_27 : decode cb_W_loserThatHarmsByLeaving 27 = .ok (.iconst 0, 1) := by decide +kernel
theorem dc_W_loserThatHarmsByLeaving_28 : decode cb_W_loserThatHarmsByLeaving 28 = .ok (.istore 5, 2) := by decide +kernel
theorem dc_W_loserThatHarmsByLeaving_30 : decode cb_W_loserThatHarmsByLeaving 30 = .ok (.iload 5, 2) := by decide +kernel
theorem dc_W_loserThatHarmsByLeaving_32 : decode cb_W_loserThatHarmsByLeaving 32 = .ok (.aload_n 1, 1) := by decide +kernel
theorem dc_W_loserThatHarmsByLeaving_33 : decode cb_W_loserThatHarmsByLeaving 33 = .ok (.getfield 39, 3) := by decide +kernel
theorem dc_W_loserThatHarmsByLeaving_36 : decode cb_W_loserThatHarmsByLeaving 36 = .ok (.if_icmp .ge 53, 3) := by decide +kernel
theorem dc_W_loserThatHarmsByLeaving_39 : decode cb_W_loserThatHarmsByLeaving 39 = .ok (.iload_n 3, 1) := by decide +kernel
theorem dc_W_loserThatHarmsByLeaving_40 : decode cb_W_loserThatHarmsByLeaving 40 = .ok (.iload 5, 2) := by decide +kernel
theorem dc_W_loserThatHarmsByLeaving_42 : decode cb_W_loserThatHarmsByLeaving 42 = .ok (.ishr, 1) := by decide +kernel
theorem dc_W_loserThatHarmsByLeaving_43 : decode cb_W_loserThatHarmsByLeaving 43 = .ok (.iconst 1, 1) := by decide +kernel
theorem dc_W_loserThatHarmsByLeaving_44 : decode cb_W_loserThatHarmsByLeaving 44 = .ok (.iand, 1) := by decide +kernel
theorem dc_W_loserThatHarmsByLeaving_45 : decode cb_W_loserThatHarmsByLeaving 45 = .ok (.ifCond .ne 38, 3) := by decide +kernel
theorem dc_W_loserThatHarmsByLeaving_48 : decode cb_W_loserThatHarmsByLeaving 48 = .ok (.aload_n 0, 1) := by decide +kernel
theorem dc_W_loserThatHarmsByLeaving_49 : decode cb_W_loserThatHarmsByLeaving 49 = .ok (.getfield 21, 3) := by decide +kernel
theorem dc_W_loserThatHarmsByLeaving_52 : decode cb_W_loserThatHarmsByLeaving 52 = .ok (.aload_n 1, 1) := by decide +kernel
theorem dc_W_loserThatHarmsByLeaving_53 : decode cb_W_loserThatHarmsByLeaving 53 = .ok (.iload 5, 2) := by decide +kernel
theorem dc_W_loserThatHarmsByLeaving_55 : decode cb_W_loserThatHarmsByLeaving 55 = .ok (.invokevirtual 101, 3) := by decide +kernel
theorem dc_W_loserThatHarmsByLeaving_58 : decode cb_W_loserThatHarmsByLeaving 58 = .ok (.aload_n 0, 1) := by decide +kernel
theorem dc_W_loserThatHarmsByLeaving_59 : decode cb_W_loserThatHarmsByLeaving 59 = .ok (.getfield 12, 3) := by decide +kernel
theorem dc_W_loserThatHarmsByLeaving_62 : decode cb_W_loserThatHarmsByLeaving 62 = .ok (.aload_n 0, 1) := by decide +kernel
theorem dc_W_loserThatHarmsByLeaving_63 : decode cb_W_loserThatHarmsByLeaving 63 = .ok (.getfield 21, 3) := by decide +kernel
theorem dc_W_loserThatHarmsByLeaving_66 : decode cb_W_loserThatHarmsByLeaving 66 = .ok (.iload_n 2, 1) := by decide +kernel
theorem dc_W_loserThatHarmsByLeaving_67 : decode cb_W_loserThatHarmsByLeaving 67 = .ok (.invokevirtual 35, 3) := by decide +kernel
theorem dc_W_loserThatHarmsByLeaving_70 : decode cb_W_loserThatHarmsByLeaving 70 = .ok (.iload 4, 2) := by decide +kernel
theorem dc_W_loserThatHarmsByLeaving_72 : decode cb_W_loserThatHarmsByLeaving 72 = .ok (.iload 5, 2) := by decide +kernel
theorem dc_W_loserThatHarmsByLeaving_74 : decode cb_W_loserThatHarmsByLeaving 74 = .ok (.invokestatic 105, 3) := by decide +kernel
theorem dc_W_loserThatHarmsByLeaving_77 : decode cb_W_loserThatHarmsByLeaving 77 = .ok (.if_icmp .eq 6, 3) := by decide +kernel
theorem dc_W_loserThatHarmsByLeaving_80 : decode cb_W_loserThatHarmsByLeaving 80 = .ok (.iload 5, 2) := by decide +kernel
theorem dc_W_loserThatHarmsByLeaving_82 : decode cb_W_loserThatHarmsByLeaving 82 = .ok (.ireturn, 1) := by decide +kernel
theorem dc_W_loserThatHarmsByLeaving_83 : decode cb_W_loserThatHarmsByLeaving 83 = .ok (.iinc 5 1, 3) := by decide +kernel
theorem dc_W_loserThatHarmsByLeaving_86 : decode cb_W_loserThatHarmsByLeaving 86 = .ok (.goto (-56), 3) := by decide +kernel
theorem dc_W_loserThatHarmsByLeaving_89 : decode cb_W_loserThatHarmsByLeaving 89 = .ok (.iconst (-1), 1) := by decide +kernel
theorem dc_W_loserThatHarmsByLeaving_90 : decode cb_W_loserThatHarmsByLeaving 90 = .ok (.ireturn, 1) := by decide +kernel
theorem dc_L_candidates_0 : decode cb_L_candidates 0 = .ok (.aload_n 2, 1) := by decide +kernel
theorem dc_L_candidates_1 : decode cb_L_candidates 1 = .ok (.iconst 0, 1) := by decide +kernel
theorem dc_L_candidates_2 : decode cb_L_candidates 2 = .ok (.aload_n 0, 1) := by decide +kernel
theorem dc_L_candidates_3 : decode cb_L_candidates 3 = .ok (.iload_n 1, 1) := by decide +kernel
theorem dc_L_candidates_4 : decode cb_L_candidates 4 = .ok (.invokevirtual 7, 3) := by decide +kernel
theorem dc_L_candidates_7 : decode cb_L_candidates 7 = .ok (.i2l, 1) := by decide +kernel
theorem dc_L_candidates_8 : decode cb_L_candidates 8 = .ok (.lastore, 1) := by decide +kernel
theorem dc_L_candidates_9 : decode cb_L_candidates 9 = .ok (.goto 6, 3) := by decide +kernel
theorem dc_L_candidates_12 : decode cb_L_candidates 12 = .ok (.astore_n 3, 1) := by decide +kernel
theorem dc_L_candidates_13 : decode cb_L_candidates 13 = .ok (.iconst 1, 1) := by decide +kernel
theorem dc_L_candidates_14 : decode cb_L_candidates 14 = .ok (.ireturn, 1) := by decide +kernel
theorem dc_L_candidates_15 : decode cb_L_candidates 15 = .ok (.iconst 0, 1) := by decide +kernel
theorem dc_L_candidates_16 : decode cb_L_candidates 16 = .ok (.ireturn, 1) := by decide +kernel
theorem dc_L_ballot_0 : decode cb_L_ballot 0 = .ok (.aload_n 3, 1) := by decide +kernel
theorem dc_L_ballot_1 : decode cb_L_ballot 1 = .ok (.iconst 0, 1) := by decide +kernel
theorem dc_L_ballot_2 : decode cb_L_ballot 2 = .ok (.aload_n 0, 1) := by decide +kernel
theorem dc_L_ballot_3 : decode cb_L_ballot 3 = .ok (.iload_n 1, 1) := by decide +kernel
theorem dc_L_ballot_4 : decode cb_L_ballot 4 = .ok (.iload_n 2, 1) := by decide +kernel
theorem dc_L_ballot_5 : decode cb_L_ballot 5 = .ok (.invokevirtual 15, 3) := by decide +kernel
theorem dc_L_ballot_8 : decode cb_L_ballot 8 = .ok (.i2l, 1) := by decide +kernel
theorem dc_L_ballot_9 : decode cb_L_ballot 9 = .ok (.lastore, 1) := by decide +kernel
theorem dc_L_ballot_10 : decode cb_L_ballot 10 = .ok (.goto 11, 3) := by decide +kernel
theorem dc_L_ballot_13 : decode cb_L_ballot 13 = .ok (.astore 4, 2) := by decide +kernel
theorem dc_L_ballot_15 : decode cb_L_ballot 15 = .ok (.iconst 1, 1) := by decide +kernel
theorem dc_L_ballot_16 : decode cb_L_ballot 16 = .ok (.ireturn, 1) := by decide +kernel
theorem dc_L_ballot_17 : decode cb_L_ballot 17 = .ok (.astore 4, 2) := by decide +kernel
theorem dc_L_ballot_19 : decode cb_L_ballot 19 = .ok (.iconst 2, 1) := by decide +kernel
theorem dc_L_ballot_20 : decode cb_L_ballot 20 = .ok (.ireturn, 1) := by decide +kernel
theorem dc_L_ballot_21 : decode cb_L_ballot 21 = .ok (.iconst 0, 1) := by decide +kernel
theorem dc_L_ballot_22 : decode cb_L_ballot 22 = .ok (.ireturn, 1) := by decide +kernel
theorem dc_L_amount_0 : decode cb_L_amount 0 = .ok (.aload_n 3, 1) := by decide +kernel
theorem dc_L_amount_1 : decode cb_L_amount 1 = .ok (.iconst 0, 1) := by decide +kernel
theorem dc_L_amount_2 : decode cb_L_amount 2 = .ok (.aload_n 0, 1) := by decide +kernel
theorem dc_L_amount_3 : decode cb_L_amount 3 = .ok (.iload_n 1, 1) := by decide +kernel
theorem dc_L_amount_4 : decode cb_L_amount 4 = .ok (.iload_n 2, 1) := by decide +kernel
theorem dc_L_amount_5 : decode cb_L_amount 5 = .ok (.invokevirtual 21, 3) := by decide +kernel
theorem dc_L_amount_8 : decode cb_L_amount 8 = .ok (.i2l, 1) := by decide +kernel
theorem dc_L_amount_9 : decode cb_L_amount 9 = .ok (.lastore, 1) := by decide +kernel
theorem dc_L_amount_10 : decode cb_L_amount 10 = .ok (.goto 11, 3) := by decide +kernel
theorem dc_L_amount_13 : decode cb_L_amount 13 = .ok (.astore 4, 2) := by decide +kernel
theorem dc_L_amount_15 : decode cb_L_amount 15 = .ok (.iconst 1, 1) := by decide +kernel
theorem dc_L_amount_16 : decode cb_L_amount 16 = .ok (.ireturn, 1) := by decide +kernel
theorem dc_L_amount_17 : decode cb_L_amount 17 = .ok (.astore 4, 2) := by decide +kernel
theorem dc_L_amount_19 : decode cb_L_amount 19 = .ok (.iconst 2, 1) := by decide +kernel
theorem dc_L_amount_20 : decode cb_L_amount 20 = .ok (.ireturn, 1) := by decide +kernel
theorem dc_L_amount_21 : decode cb_L_amount 21 = .ok (.iconst 0, 1) := by decide +kernel
theorem dc_L_amount_22 : decode cb_L_amount 22 = .ok (.ireturn, 1) := by decide +kernel
theorem dc_L_drop_0 : decode cb_L_drop 0 = .ok (.aload_n 2, 1) := by decide +kernel
theorem dc_L_drop_1 : decode cb_L_drop 1 = .ok (.iconst 0, 1) := by decide +kernel
theorem dc_L_drop_2 : decode cb_L_drop 2 = .ok (.aload_n 0, 1) := by decide +kernel
theorem dc_L_drop_3 : decode cb_L_drop 3 = .ok (.iload_n 1, 1) := by decide +kernel
theorem dc_L_drop_4 : decode cb_L_drop 4 = .ok (.invokevirtual 26, 3) := by decide +kernel
theorem dc_L_drop_7 : decode cb_L_drop 7 = .ok (.i2l, 1) := by decide +kernel
theorem dc_L_drop_8 : decode cb_L_drop 8 = .ok (.lastore, 1) := by decide +kernel
theorem dc_L_drop_9 : decode cb_L_drop 9 = .ok (.goto 6, 3) := by decide +kernel
theorem dc_L_drop_12 : decode cb_L_drop 12 = .ok (.astore_n 3, 1) := by decide +kernel
theorem dc_L_drop_13 : decode cb_L_drop 13 = .ok (.iconst 1, 1) := by decide +kernel
theorem dc_L_drop_14 : decode cb_L_drop 14 = .ok (.ireturn, 1) := by decide +kernel
theorem dc_L_drop_15 : decode cb_L_drop 15 = .ok (.iconst 0, 1) := by decide +kernel
theorem dc_L_drop_16 : decode cb_L_drop 16 = .ok (.ireturn, 1) := by decide +kernel
theorem dc_L_tieOrder_0 : decode cb_L_tieOrder 0 = .ok (.aload_n 2, 1) := by decide +kernel
theorem dc_L_tieOrder_1 : decode cb_L_tieOrder 1 = .ok (.iconst 0, 1) := by decide +kernel
theorem dc_L_tieOrder_2 : decode cb_L_tieOrder 2 = .ok (.aload_n 0, 1) := by decide +kernel
theorem dc_L_tieOrder_3 : decode cb_L_tieOrder 3 = .ok (.iload_n 1, 1) := by decide +kernel
theorem dc_L_tieOrder_4 : decode cb_L_tieOrder 4 = .ok (.invokevirtual 29, 3) := by decide +kernel
theorem dc_L_tieOrder_7 : decode cb_L_tieOrder 7 = .ok (.i2l, 1) := by decide +kernel
theorem dc_L_tieOrder_8 : decode cb_L_tieOrder 8 = .ok (.lastore, 1) := by decide +kernel
theorem dc_L_tieOrder_9 : decode cb_L_tieOrder 9 = .ok (.goto 6, 3) := by decide +kernel
theorem dc_L_tieOrder_12 : decode cb_L_tieOrder 12 = .ok (.astore_n 3, 1) := by decide +kernel
theorem dc_L_tieOrder_13 : decode cb_L_tieOrder 13 = .ok (.iconst 1, 1) := by decide +kernel
theorem dc_L_tieOrder_14 : decode cb_L_tieOrder 14 = .ok (.ireturn, 1) := by decide +kernel
theorem dc_L_tieOrder_15 : decode cb_L_tieOrder 15 = .ok (.iconst 0, 1) := by decide +kernel
theorem dc_L_tieOrder_16 : decode cb_L_tieOrder 16 = .ok (.ireturn, 1) := by decide +kernel
theorem dc_L_agenda_0 : decode cb_L_agenda 0 = .ok (.aload_n 2, 1) := by decide +kernel
theorem dc_L_agenda_1 : decode cb_L_agenda 1 = .ok (.iconst 0, 1) := by decide +kernel
theorem dc_L_agenda_2 : decode cb_L_agenda 2 = .ok (.aload_n 0, 1) := by decide +kernel
theorem dc_L_agenda_3 : decode cb_L_agenda 3 = .ok (.iload_n 1, 1) := by decide +kernel
theorem dc_L_agenda_4 : decode cb_L_agenda 4 = .ok (.invokevirtual 32, 3) := by decide +kernel
theorem dc_L_agenda_7 : decode cb_L_agenda 7 = .ok (.i2l, 1) := by decide +kernel
theorem dc_L_agenda_8 : decode cb_L_agenda 8 = .ok (.lastore, 1) := by decide +kernel
theorem dc_L_agenda_9 : decode cb_L_agenda 9 = .ok (.goto 6, 3) := by decide +kernel
theorem dc_L_agenda_12 : decode cb_L_agenda 12 = .ok (.astore_n 3, 1) := by decide +kernel
theorem dc_L_agenda_13 : decode cb_L_agenda 13 = .ok (.iconst 1, 1) := by decide +kernel
theorem dc_L_agenda_14 : decode cb_L_agenda 14 = .ok (.ireturn, 1) := by decide +kernel
theorem dc_L_agenda_15 : decode cb_L_agenda 15 = .ok (.iconst 0, 1) := by decide +kernel
theorem dc_L_agenda_16 : decode cb_L_agenda 16 = .ok (.ireturn, 1) := by decide +kernel
theorem dc_L_weight_0 : decode cb_L_weight 0 = .ok (.aload_n 3, 1) := by decide +kernel
theorem dc_L_weight_1 : decode cb_L_weight 1 = .ok (.iconst 0, 1) := by decide +kernel
theorem dc_L_weight_2 : decode cb_L_weight 2 = .ok (.aload_n 0, 1) := by decide +kernel
theorem dc_L_weight_3 : decode cb_L_weight 3 = .ok (.iload_n 1, 1) := by decide +kernel
theorem dc_L_weight_4 : decode cb_L_weight 4 = .ok (.iload_n 2, 1) := by decide +kernel
theorem dc_L_weight_5 : decode cb_L_weight 5 = .ok (.invokevirtual 35, 3) := by decide +kernel
theorem dc_L_weight_8 : decode cb_L_weight 8 = .ok (.i2l, 1) := by decide +kernel
theorem dc_L_weight_9 : decode cb_L_weight 9 = .ok (.lastore, 1) := by decide +kernel
theorem dc_L_weight_10 : decode cb_L_weight 10 = .ok (.goto 11, 3) := by decide +kernel
theorem dc_L_weight_13 : decode cb_L_weight 13 = .ok (.astore 4, 2) := by decide +kernel
theorem dc_L_weight_15 : decode cb_L_weight 15 = .ok (.iconst 1, 1) := by decide +kernel
theorem dc_L_weight_16 : decode cb_L_weight 16 = .ok (.ireturn, 1) := by decide +kernel
theorem dc_L_weight_17 : decode cb_L_weight 17 = .ok (.astore 4, 2) := by decide +kernel
theorem dc_L_weight_19 : decode cb_L_weight 19 = .ok (.iconst 2, 1) := by decide +kernel
theorem dc_L_weight_20 : decode cb_L_weight 20 = .ok (.ireturn, 1) := by decide +kernel
