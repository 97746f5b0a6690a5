theorem dc_M_amount_19 : decode cb_M_amount 19 = .ok (.iconst 0, 1) := by decide +kernel
theorem dc_M_amount_20 : decode cb_M_amount 20 = .ok (.ireturn, 1) := by decide +kernel
theorem dc_M_amount_21 : decode cb_M_amount 21 = .ok (.aload_n 0, 1) := by decide +kernel
theorem dc_M_amount_22 : decode cb_M_amount 22 = .ok (.getfield 17, 3) := by decide +kernel
theorem dc_M_amount_25 : decode cb_M_amount 25 = .ok (.iload_n 1, 1) := by decide +kernel
theorem dc_M_amount_26 : decode cb_M_amount 26 = .ok (.iaload, 1) := by decide +kernel
theorem dc_M_amount_27 : decode cb_M_amount 27 = .ok (.istore_n 3, 1) := by decide +kernel
theorem dc_M_amount_28 : decode cb_M_amount 28 = .ok (.aload_n 0, 1) := by decide +kernel
theorem dc_M_amount_29 : decode cb_M_amount 29 = .ok (.getfield 17, 3) := by decide +kernel
theorem dc_M_amount_32 : decode cb_M_amount 32 = .ok (.iload_n 1, 1) := by decide +kernel
theorem dc_M_amount_33 : decode cb_M_amount 33 = .ok (.iload_n 2, 1) := by decide +kernel
theorem dc_M_amount_34 : decode cb_M_amount 34 = .ok (.iastore, 1) := by decide +kernel
theorem dc_M_amount_35 : decode cb_M_amount 35 = .ok (.iload_n 3, 1) := by decide +kernel
theorem dc_M_amount_36 : decode cb_M_amount 36 = .ok (.ireturn, 1) := by decide +kernel
theorem dc_M_drop_0 : decode cb_M_drop 0 = .ok (.aload_n 0, 1) := by decide +kernel
theorem dc_M_drop_1 : decode cb_M_drop 1 = .ok (.aload_n 0, 1) := by decide +kernel
theorem dc_M_drop_2 : decode cb_M_drop 2 = .ok (.iload_n 1, 1) := by decide +kernel
theorem dc_M_drop_3 : decode cb_M_drop 3 = .ok (.invokevirtual 99, 3) := by decide +kernel
theorem dc_M_drop_6 : decode cb_M_drop 6 = .ok (.iconst 1, 1) := by decide +kernel
theorem dc_M_drop_7 : decode cb_M_drop 7 = .ok (.invokevirtual 86, 3) := by decide +kernel
theorem dc_M_drop_10 : decode cb_M_drop 10 = .ok (.ifCond .ne 5, 3) := by decide +kernel
theorem dc_M_drop_13 : decode cb_M_drop 13 = .ok (.iconst 0, 1) := by decide +kernel
theorem dc_M_drop_14 : decode cb_M_drop 14 = .ok (.ireturn, 1) := by decide +kernel
theorem dc_M_drop_15 : decode cb_M_drop 15 = .ok (.iload_n 1, 1) := by decide +kernel
theorem dc_M_drop_16 : decode cb_M_drop 16 = .ok (.istore_n 2, 1) := by decide +kernel
theorem dc_M_drop_17 : decode cb_M_drop 17 = .ok (.iload_n 2, 1) := by decide +kernel
theorem dc_M_drop_18 : decode cb_M_drop 18 = .ok (.iconst 1, 1) := by decide +kernel
theorem dc_M_drop_19 : decode cb_M_drop 19 = .ok (.iadd, 1) := by decide +kernel
theorem dc_M_drop_20 : decode cb_M_drop 20 = .ok (.aload_n 0, 1) := by decide +kernel
theorem dc_M_drop_21 : decode cb_M_drop 21 = .ok (.getfield 76, 3) := by decide +kernel
theorem dc_M_drop_24 : decode cb_M_drop 24 = .ok (.if_icmp .ge 62, 3) := by decide +kernel
theorem dc_M_drop_27 : decode cb_M_drop 27 = .ok (.aload_n 0, 1) := by decide +kernel
theorem dc_M_drop_28 : decode cb_M_drop 28 = .ok (.getfield 17, 3) := by decide +kernel
theorem dc_M_drop_31 : decode cb_M_drop 31 = .ok (.iload_n 2, 1) := by decide +kernel
theorem dc_M_drop_32 : decode cb_M_drop 32 = .ok (.aload_n 0, 1) := by decide +kernel
theorem dc_M_drop_33 : decode cb_M_drop 33 = .ok (.getfield 17, 3) := by decide +kernel
theorem dc_M_drop_36 : decode cb_M_drop 36 = .ok (.iload_n 2, 1) := by decide +kernel
theorem dc_M_drop_37 : decode cb_M_drop 37 = .ok (.iconst 1, 1) := by decide +kernel
theorem dc_M_drop_38 : decode cb_M_drop 38 = .ok (.iadd, 1) := by decide +kernel
theorem dc_M_drop_39 : decode cb_M_drop 39 = .ok (.iaload, 1) := by decide +kernel
theorem dc_M_drop_40 : decode cb_M_drop 40 = .ok (.iastore, 1) := by decide +kernel
theorem dc_M_drop_41 : decode cb_M_drop 41 = .ok (.iconst 0, 1) := by decide +kernel
theorem dc_M_drop_42 : decode cb_M_drop 42 = .ok (.istore_n 3, 1) := by decide +kernel
theorem dc_M_drop_43 : decode cb_M_drop 43 = .ok (.iload_n 3, 1) := by decide +kernel
theorem dc_M_drop_44 : decode cb_M_drop 44 = .ok (.bipush 7, 2) := by decide +kernel
theorem dc_M_drop_46 : decode cb_M_drop 46 = .ok (.if_icmp .ge 34, 3) := by decide +kernel
theorem dc_M_drop_49 : decode cb_M_drop 49 = .ok (.aload_n 0, 1) := by decide +kernel
theorem dc_M_drop_50 : decode cb_M_drop 50 = .ok (.getfield 13, 3) := by decide +kernel
theorem dc_M_drop_53 : decode cb_M_drop 53 = .ok (.bipush 7, 2) := by decide +kernel
theorem dc_M_drop_55 : decode cb_M_drop 55 = .ok (.iload_n 2, 1) := by decide +kernel
theorem dc_M_drop_56 : decode cb_M_drop 56 = .ok (.imul, 1) := by decide +kernel
theorem dc_M_drop_57 : decode cb_M_drop 57 = .ok (.iload_n 3, 1) := by decide +kernel
theorem dc_M_drop_58 : decode cb_M_drop 58 = .ok (.iadd, 1) := by decide +kernel
theorem dc_M_drop_59 : decode cb_M_drop 59 = .ok (.aload_n 0, 1) := by decide +kernel
theorem dc_M_drop_60 : decode cb_M_drop 60 = .ok (.getfield 13, 3) := by decide +kernel
theorem dc_M_drop_63 : decode cb_M_drop 63 = .ok (.bipush 7, 2) := by decide +kernel
theorem dc_M_drop_65 : decode cb_M_drop 65 = .ok (.iload_n 2, 1) := by decide +kernel
theorem dc_M_drop_66 : decode cb_M_drop 66 = .ok (.imul, 1) := by decide +kernel
theorem dc_M_drop_67 : decode cb_M_drop 67 = .ok (.bipush 7, 2) := by decide +kernel
theorem dc_M_drop_69 : decode cb_M_drop 69 = .ok (.iadd, 1) := by decide +kernel
theorem dc_M_drop_70 : decode cb_M_drop 70 = .ok (.iload_n 3, 1) := by decide +kernel
theorem dc_M_drop_71 : decode cb_M_drop 71 = .ok (.iadd, 1) := by decide +kernel
theorem dc_M_drop_72 : decode cb_M_drop 72 = .ok (.iaload, 1) := by decide +kernel
theorem dc_M_drop_73 : decode cb_M_drop 73 = .ok (.iastore, 1) := by decide +kernel
theorem dc_M_drop_74 : decode cb_M_drop 74 = .ok (.iinc 3 1, 3) := by decide +kernel
theorem dc_M_drop_77 : decode cb_M_drop 77 = .ok (.goto (-34), 3) := by decide +kernel
theorem dc_M_drop_80 : decode cb_M_drop 80 = .ok (.iinc 2 1, 3) := by decide +kernel
theorem dc_M_drop_83 : decode cb_M_drop 83 = .ok (.goto (-66), 3) := by decide +kernel
theorem dc_M_drop_86 : decode cb_M_drop 86 = .ok (.aload_n 0, 1) := by decide +kernel
theorem dc_M_drop_87 : decode cb_M_drop 87 = .ok (.dup, 1) := by decide +kernel
theorem dc_M_drop_88 : decode cb_M_drop 88 = .ok (.getfield 76, 3) := by decide +kernel
theorem dc_M_drop_91 : decode cb_M_drop 91 = .ok (.iconst 1, 1) := by decide +kernel
theorem dc_M_drop_92 : decode cb_M_drop 92 = .ok (.isub, 1) := by decide +kernel
theorem dc_M_drop_93 : decode cb_M_drop 93 = .ok (.putfield 76, 3) := by decide +kernel
theorem dc_M_drop_96 : decode cb_M_drop 96 = .ok (.aload_n 0, 1) := by decide +kernel
theorem dc_M_drop_97 : decode cb_M_drop 97 = .ok (.getfield 76, 3) := by decide +kernel
theorem dc_M_drop_100 : decode cb_M_drop 100 = .ok (.ireturn, 1) := by decide +kernel
theorem dc_M_tieOrder_0 : decode cb_M_tieOrder 0 = .ok (.aload_n 0, 1) := by decide +kernel
theorem dc_M_tieOrder_1 : decode cb_M_tieOrder 1 = .ok (.aload_n 0, 1) := by decide +kernel
theorem dc_M_tieOrder_2 : decode cb_M_tieOrder 2 = .ok (.iload_n 1, 1) := by decide +kernel
theorem dc_M_tieOrder_3 : decode cb_M_tieOrder 3 = .ok (.invokevirtual 90, 3) := by decide +kernel
theorem dc_M_tieOrder_6 : decode cb_M_tieOrder 6 = .ok (.iconst 1, 1) := by decide +kernel
theorem dc_M_tieOrder_7 : decode cb_M_tieOrder 7 = .ok (.invokevirtual 86, 3) := by decide +kernel
theorem dc_M_tieOrder_10 : decode cb_M_tieOrder 10 = .ok (.ifCond .ne 5, 3) := by decide +kernel
theorem dc_M_tieOrder_13 : decode cb_M_tieOrder 13 = .ok (.iconst 0, 1) := by decide +kernel
theorem dc_M_tieOrder_14 : decode cb_M_tieOrder 14 = .ok (.ireturn, 1) := by decide +kernel
theorem dc_M_tieOrder_15 : decode cb_M_tieOrder 15 = .ok (.aload_n 0, 1) := by decide +kernel
theorem dc_M_tieOrder_16 : decode cb_M_tieOrder 16 = .ok (.aload_n 0, 1) := by decide +kernel
theorem dc_M_tieOrder_17 : decode cb_M_tieOrder 17 = .ok (.getfield 20, 3) := by decide +kernel
theorem dc_M_tieOrder_20 : decode cb_M_tieOrder 20 = .ok (.iconst 0, 1) := by decide +kernel
theorem dc_M_tieOrder_21 : decode cb_M_tieOrder 21 = .ok (.invokevirtual 102, 3) := by decide +kernel
theorem dc_M_tieOrder_24 : decode cb_M_tieOrder 24 = .ok (.istore_n 2, 1) := by decide +kernel
theorem dc_M_tieOrder_25 : decode cb_M_tieOrder 25 = .ok (.aload_n 0, 1) := by decide +kernel
theorem dc_M_tieOrder_26 : decode cb_M_tieOrder 26 = .ok (.iload_n 1, 1) := by decide +kernel
theorem dc_M_tieOrder_27 : decode cb_M_tieOrder 27 = .ok (.aload_n 0, 1) := by decide +kernel
theorem dc_M_tieOrder_28 : decode cb_M_tieOrder 28 = .ok (.getfield 20, 3) := by decide +kernel
theorem dc_M_tieOrder_31 : decode cb_M_tieOrder 31 = .ok (.iconst 0, 1) := by decide +kernel
theorem dc_M_tieOrder_32 : decode cb_M_tieOrder 32 = .ok (.invokevirtual 95, 3) := by decide +kernel
theorem dc_M_tieOrder_35 : decode cb_M_tieOrder 35 = .ok (.iload_n 2, 1) := by decide +kernel
theorem dc_M_tieOrder_36 : decode cb_M_tieOrder 36 = .ok (.ireturn, 1) := by decide +kernel
theorem dc_M_agenda_0 : decode cb_M_agenda 0 = .ok (.aload_n 0, 1) := by decide +kernel
theorem dc_M_agenda_1 : decode cb_M_agenda 1 = .ok (.aload_n 0, 1) := by decide +kernel
theorem dc_M_agenda_2 : decode cb_M_agenda 2 = .ok (.iload_n 1, 1) := by decide +kernel
theorem dc_M_agenda_3 : decode cb_M_agenda 3 = .ok (.invokevirtual 90, 3) := by decide +kernel
theorem dc_M_agenda_6 : decode cb_M_agenda 6 = .ok (.iconst 1, 1) := by decide +kernel
theorem dc_M_agenda_7 : decode cb_M_agenda 7 = .ok (.invokevirtual 86, 3) := by decide +kernel
theorem dc_M_agenda_10 : decode cb_M_agenda 10 = .ok (.ifCond .ne 5, 3) := by decide +kernel
theorem dc_M_agenda_13 : decode cb_M_agenda 13 = .ok (.iconst 0, 1) := by decide +kernel
theorem dc_M_agenda_14 : decode cb_M_agenda 14 = .ok (.ireturn, 1) := by decide +kernel
theorem dc_M_agenda_15 : decode cb_M_agenda 15 = .ok (.aload_n 0, 1) := by decide +kernel
theorem dc_M_agenda_16 : decode cb_M_agenda 16 = .ok (.aload_n 0, 1) := by decide +kernel
theorem dc_M_agenda_17 : decode cb_M_agenda 17 = .ok (.getfield 23, 3) := by decide +kernel
theorem dc_M_agenda_20 : decode cb_M_agenda 20 = .ok (.iconst 0, 1) := by decide +kernel
theorem dc_M_agenda_21 : decode cb_M_agenda 21 = .ok (.invokevirtual 102, 3) := by decide +kernel
theorem dc_M_agenda_24 : decode cb_M_agenda 24 = .ok (.istore_n 2, 1) := by decide +kernel
theorem dc_M_agenda_25 : decode cb_M_agenda 25 = .ok (.aload_n 0, 1) := by decide +kernel
theorem dc_M_agenda_26 : decode cb_M_agenda 26 = .ok (.iload_n 1, 1) := by decide +kernel
theorem dc_M_agenda_27 : decode cb_M_agenda 27 = .ok (.aload_n 0, 1) := by decide +kernel
theorem dc_M_agenda_28 : decode cb_M_agenda 28 = .ok (.getfield 23, 3) := by decide +kernel
theorem dc_M_agenda_31 : decode cb_M_agenda 31 = .ok (.iconst 0, 1) := by decide +kernel
theorem dc_M_agenda_32 : decode cb_M_agenda 32 = .ok (.invokevirtual 95, 3) := by decide +kernel
theorem dc_M_agenda_35 : decode cb_M_agenda 35 = .ok (.iload_n 2, 1) := by decide +kernel
theorem dc_M_agenda_36 : decode cb_M_agenda 36 = .ok (.ireturn, 1) := by decide +kernel
theorem dc_M_weight_0 : decode cb_M_weight 0 = .ok (.aload_n 0, 1) := by decide +kernel
theorem dc_M_weight_1 : decode cb_M_weight 1 = .ok (.iload_n 1, 1) := by decide +kernel
theorem dc_M_weight_2 : decode cb_M_weight 2 = .ok (.iconst 0, 1) := by decide +kernel
theorem dc_M_weight_3 : decode cb_M_weight 3 = .ok (.aload_n 0, 1) := by decide +kernel
theorem dc_M_weight_4 : decode cb_M_weight 4 = .ok (.getfield 7, 3) := by decide +kernel
theorem dc_M_weight_7 : decode cb_M_weight 7 = .ok (.iconst 1, 1) := by decide +kernel
theorem dc_M_weight_8 : decode cb_M_weight 8 = .ok (.isub, 1) := by decide +kernel
theorem dc_M_weight_9 : decode cb_M_weight 9 = .ok (.invokestatic 82, 3) := by decide +kernel
theorem dc_M_weight_12 : decode cb_M_weight 12 = .ok (.iload_n 2, 1) := by decide +kernel
theorem dc_M_weight_13 : decode cb_M_weight 13 = .ok (.iconst 0, 1) := by decide +kernel
theorem dc_M_weight_14 : decode cb_M_weight 14 = .ok (.sipush 1000, 3) := by decide +kernel
theorem dc_M_weight_17 : decode cb_M_weight 17 = .ok (.invokestatic 82, 3) := by decide +kernel
theorem dc_M_weight_20 : decode cb_M_weight 20 = .ok (.invokevirtual 86, 3) := by decide +kernel
theorem dc_M_weight_23 : decode cb_M_weight 23 = .ok (.ifCond .ne 5, 3) := by decide +kernel
theorem dc_M_weight_26 : decode cb_M_weight 26 = .ok (.iconst 0, 1) := by decide +kernel
theorem dc_M_weight_27 : decode cb_M_weight 27 = .ok (.ireturn, 1) := by decide +kernel
theorem dc_M_weight_28 : decode cb_M_weight 28 = .ok (.aload_n 0, 1) := by decide +kernel
theorem dc_M_weight_29 : decode cb_M_weight 29 = .ok (.getfield 26, 3) := by decide +kernel
theorem dc_M_weight_32 : decode cb_M_weight 32 = .ok (.iload_n 1, 1) := by decide +kernel
theorem dc_M_weight_33 : decode cb_M_weight 33 = .ok (.iaload, 1) := by decide +kernel
theorem dc_M_weight_34 : decode cb_M_weight 34 = .ok (.istore_n 3, 1) := by decide +kernel
theorem dc_M_weight_35 : decode cb_M_weight 35 = .ok (.aload_n 0, 1) := by decide +kernel
theorem dc_M_weight_36 : decode cb_M_weight 36 = .ok (.getfield 26, 3) := by decide +kernel
theorem dc_M_weight_39 : decode cb_M_weight 39 = .ok (.iload_n 1, 1) := by decide +kernel
theorem dc_M_weight_40 : decode cb_M_weight 40 = .ok (.iload_n 2, 1) := by decide +kernel
theorem dc_M_weight_41 : decode cb_M_weight 41 = .ok (.iastore, 1) := by decide +kernel
theorem dc_M_weight_42 : decode cb_M_weight 42 = .ok (.iload_n 3, 1) := by decide +kernel
theorem dc_M_weight_43 : decode cb_M_weight 43 = .ok (.ireturn, 1) := by decide +kernel
theorem dc_M_load_0 : decode cb_M_load 0 = .ok (.aload_n 0, 1) := by decide +kernel
theorem dc_M_load_1 : decode cb_M_load 1 = .ok (.aload_n 0, 1) := by decide +kernel
theorem dc_M_load_2 : decode cb_M_load 2 = .ok (.getfield 7, 3) := by decide +kernel
theorem dc_M_load_5 : decode cb_M_load 5 = .ok (.putfield 106, 3) := by decide +kernel
theorem dc_M_load_8 : decode cb_M_load 8 = .ok (.aload_n 0, 1) := by decide +kernel
theorem dc_M_load_9 : decode cb_M_load 9 = .ok (.aload_n 0, 1) := by decide +kernel
theorem dc_M_load_10 : decode cb_M_load 10 = .ok (.getfield 76, 3) := by decide +kernel
theorem dc_M_load_13 : decode cb_M_load 13 = .ok (.putfield 109, 3) := by decide +kernel
theorem dc_M_load_16 : decode cb_M_load 16 = .ok (.iconst 0, 1) := by decide +kernel
theorem dc_M_load_17 : decode cb_M_load 17 = .ok (.istore_n 1, 1) := by decide +kernel
theorem dc_M_load_18 : decode cb_M_load 18 = .ok (.iload_n 1, 1) := by decide +kernel
theorem dc_M_load_19 : decode cb_M_load 19 = .ok (.bipush 7, 2) := by decide +kernel
theorem dc_M_load_21 : decode cb_M_load 21 = .ok (.aload_n 0, 1) := by decide +kernel
theorem dc_M_load_22 : decode cb_M_load 22 = .ok (.getfield 76, 3) := by decide +kernel
theorem dc_M_load_25 : decode cb_M_load 25 = .ok (.imul, 1) := by decide +kernel
theorem dc_M_load_26 : decode cb_M_load 26 = .ok (.if_icmp .ge 21, 3) := by decide +kernel
theorem dc_M_load_29 : decode cb_M_load 29 = .ok (.aload_n 0, 1) := by decide +kernel
theorem dc_M_load_30 : decode cb_M_load 30 = .ok (.getfield 29, 3) := by decide +kernel
theorem dc_M_load_33 : decode cb_M_load 33 = .ok (.iload_n 1, 1) := by decide +kernel
theorem dc_M_load_34 : decode cb_M_load 34 = .ok (.aload_n 0, 1) := by decide +kernel
theorem dc_M_load_35 : decode cb_M_load 35 = .ok (.getfield 13, 3) := by decide +kernel
theorem dc_M_load_38 : decode cb_M_load 38 = .ok (.iload_n 1, 1) := by decide +kernel
theorem dc_M_load_39 : decode cb_M_load 39 = .ok (.iaload, 1) := by decide +kernel
theorem dc_M_load_40 : decode cb_M_load 40 = .ok (.iastore, 1) := by decide +kernel
theorem dc_M_load_41 : decode cb_M_load 41 = .ok (.iinc 1 1, 3) := by decide +kernel
theorem dc_M_load_44 : decode cb_M_load 44 = .ok (.goto (-26), 3) := by decide +kernel
theorem dc_M_load_47 : decode cb_M_load 47 = .ok (.iconst 0, 1) := by decide +kernel
theorem dc_M_load_48 : decode cb_M_load 48 = .ok (.istore_n 1, 1) := by decide +kernel
theorem dc_M_load_49 : decode cb_M_load 49 = .ok (.iload_n 1, 1) := by decide +kernel
theorem dc_M_load_50 : decode cb_M_load 50 = .ok (.aload_n 0, 1) := by decide +kernel
theorem dc_M_load_51 : decode cb_M_load 51 = .ok (.getfield 76, 3) := by decide +kernel
theorem dc_M_load_54 : decode cb_M_load 54 = .ok (.if_icmp .ge 21, 3) := by decide +kernel
theorem dc_M_load_57 : decode cb_M_load 57 = .ok (.aload_n 0, 1) := by decide +kernel
theorem dc_M_load_58 : decode cb_M_load 58 = .ok (.getfield 32, 3) := by decide +kernel
theorem dc_M_load_61 : decode cb_M_load 61 = .ok (.iload_n 1, 1) := by decide +kernel
theorem dc_M_load_62 : decode cb_M_load 62 = .ok (.aload_n 0, 1) := by decide +kernel
theorem dc_M_load_63 : decode cb_M_load 63 = .ok (.getfield 17, 3) := by decide +kernel
theorem dc_M_load_66 : decode cb_M_load 66 = .ok (.iload_n 1, 1) := by decide +kernel
theorem dc_M_load_67 : decode cb_M_load 67 = .ok (.iaload, 1) := by decide +kernel
theorem dc_M_load_68 : decode cb_M_load 68 = .ok (.iastore, 1) := by decide +kernel
theorem dc_M_load_69 : decode cb_M_load 69 = .ok (.iinc 1 1, 3) := by decide +kernel
theorem dc_M_load_72 : decode cb_M_load 72 = .ok (.goto (-23), 3) := by decide +kernel
theorem dc_M_load_75 : decode cb_M_load 75 = .ok (.iconst 0, 1) := by decide +kernel
theorem dc_M_load_76 : decode cb_M_load 76 = .ok (.istore_n 1, 1) := by decide +kernel
theorem dc_M_load_77 : decode cb_M_load 77 = .ok (.iload_n 1, 1) := by decide +kernel
theorem dc_M_load_78 : decode cb_M_load 78 = .ok (.bipush 7, 2) := by decide +kernel
theorem dc_M_load_80 : decode cb_M_load 80 = .ok (.if_icmp .ge 45, 3) := by decide +kernel
theorem dc_M_load_83 : decode cb_M_load 83 = .ok (.aload_n 0, 1) := by decide +kernel
theorem dc_M_load_84 : decode cb_M_load 84 = .ok (.getfield 35, 3) := by decide +kernel
theorem dc_M_load_87 : decode cb_M_load 87 = .ok (.iload_n 1, 1) := by decide +kernel
theorem dc_M_load_88 : decode cb_M_load 88 = .ok (.aload_n 0, 1) := by decide +kernel
theorem dc_M_load_89 : decode cb_M_load 89 = .ok (.getfield 20, 3) := by decide +kernel
theorem dc_M_load_92 : decode cb_M_load 92 = .ok (.iload_n 1, 1) := by decide +kernel
theorem dc_M_load_93 : decode cb_M_load 93 = .ok (.iaload, 1) := by decide +kernel
theorem dc_M_load_94 : decode cb_M_load 94 = .ok (.iastore, 1) := by decide +kernel
theorem dc_M_load_95 : decode cb_M_load 95 = .ok (.aload_n 0, 1) := by decide +kernel
theorem dc_M_load_96 : decode cb_M_load 96 = .ok (.getfield 38, 3) := by decide +kernel
theorem dc_M_load_99 : decode cb_M_load 99 = .ok (.iload_n 1, 1) := by decide +kernel
theorem dc_M_load_100 : decode cb_M_load 100 = .ok (.aload_n 0, 1) := by decide +kernel
theorem dc_M_load_101 : decode cb_M_load 101 = .ok (.getfield 23, 3) := by decide +kernel
theorem dc_M_load_104 : decode cb_M_load 104 = .ok (.iload_n 1, 1) := by decide +kernel
theorem dc_M_load_105 : decode cb_M_load 105 = .ok (.iaload, 1) := by decide +kernel
theorem dc_M_load_106 : decode cb_M_load 106 = .ok (.iastore, 1) := by decide +kernel
theorem dc_M_load_107 : decode cb_M_load 107 = .ok (.aload_n 0, 1) := by decide +kernel
theorem dc_M_load_108 : decode cb_M_load 108 = .ok (.getfield 41, 3) := by decide +kernel
theorem dc_M_load_111 : decode cb_M_load 111 = .ok (.iload_n 1, 1) := by decide +kernel
theorem dc_M_load_112 : decode cb_M_load 112 = .ok (.aload_n 0, 1) := by decide +kernel
theorem dc_M_load_113 : decode cb_M_load 113 = .ok (.getfield 26, 3) := by decide +kernel
theorem dc_M_load_116 : decode cb_M_load 116 = .ok (.iload_n 1, 1) := by decide +kernel
theorem dc_M_load_117 : decode cb_M_load 117 = .ok (.iaload, 1) := by decide +kernel
theorem dc_M_load_118 : decode cb_M_load 118 = .ok (.iastore, 1) := by decide +kernel
theorem dc_M_load_119 : decode cb_M_load 119 = .ok (.iinc 1 1, 3) := by decide +kernel
theorem dc_M_load_122 : decode cb_M_load 122 = .ok (.goto (-45), 3) := by decide +kernel
theorem dc_M_load_125 : decode cb_M_load 125 = .ok (.return_, 1) := by decide +kernel
theorem dc_M_without_0 : decode cb_M_without 0 = .ok (.iload_n 3, 1) := by decide +kernel
theorem dc_M_without_1 : decode cb_M_without 1 = .ok (.istore 4, 2) := by decide +kernel
theorem dc_M_without_3 : decode cb_M_without 3 = .ok (.iload_n 3, 1) := by decide +kernel
theorem dc_M_without_4 : decode cb_M_without 4 = .ok (.istore 5, 2) := by decide +kernel
theorem dc_M_without_6 : decode cb_M_without 6 = .ok (.iload 5, 2) := by decide +kernel
theorem dc_M_without_8 : decode cb_M_without 8 = .ok (.iload_n 3, 1) := by decide +kernel
theorem dc_M_without_9 : decode cb_M_without 9 = .ok (.aload_n 0, 1) := by decide +kernel
theorem dc_M_without_10 : decode cb_M_without 10 = .ok (.getfield 106, 3) := by decide +kernel
theorem dc_M_without_13 : decode cb_M_without 13 = .ok (.iadd, 1) := by decide +kernel
theorem dc_M_without_14 : decode cb_M_without 14 = .ok (.if_icmp .ge 43, 3) := by decide +kernel
theorem dc_M_without_17 : decode cb_M_without 17 = .ok (.aload_n 2, 1) := by decide +kernel
theorem dc_M_without_18 : decode cb_M_without 18 = .ok (.iload 5, 2) := by decide +kernel
theorem dc_M_without_20 : decode cb_M_without 20 = .ok (.iaload, 1) := by decide +kernel
theorem dc_M_without_21 : decode cb_M_without 21 = .ok (.istore 6, 2) := by decide +kernel
theorem dc_M_without_23 : decode cb_M_without 23 = .ok (.iload 6, 2) := by decide +kernel
theorem dc_M_without_25 : decode cb_M_without 25 = .ok (.iload_n 1, 1) := by decide +kernel
theorem dc_M_without_26 : decode cb_M_without 26 = .ok (.if_icmp .eq 25, 3) := by decide +kernel
theorem dc_M_without_29 : decode cb_M_without 29 = .ok (.aload_n 2, 1) := by decide +kernel
theorem dc_M_without_30 : decode cb_M_without 30 = .ok (.iload 4, 2) := by decide +kernel
theorem dc_M_without_32 : decode cb_M_without 32 = .ok (.iload 6, 2) := by decide +kernel
theorem dc_M_without_34 : decode cb_M_without 34 = .ok (.iload_n 1, 1) := by decide +kernel
theorem dc_M_without_35 : decode cb_M_without 35 = .ok (.if_icmp .le 10, 3) := by decide +kernel
theorem dc_M_without_38 : decode cb_M_without 38 = .ok (.iload 6, 2) := by decide +kernel
theorem dc_M_without_40 : decode cb_M_without 40 = .ok (.iconst 1, 1) := by decide +kernel
theorem dc_M_without_41 : decode cb_M_without 41 = .ok (.isub, 1) := by decide +kernel
theorem dc_M_without_42 : decode cb_M_without 42 = .ok (.goto 5, 3) := by decide +kernel
theorem dc_M_without_45 : decode cb_M_without 45 = .ok (.iload 6, 2) := by decide +kernel
theorem dc_M_without_47 : decode cb_M_without 47 = .ok (.iastore, 1) := by decide +kernel
theorem dc_M_without_48 : decode cb_M_without 48 = .ok (.iinc 4 1, 3) := by decide +kernel
theorem dc_M_without_51 : decode cb_M_without 51 = .ok (.iinc 5 1, 3) := by decide +kernel
theorem dc_M_without_54 : decode cb_M_without 54 = .ok (.goto (-48), 3) := by decide +kernel
theorem dc_M_without_57 : decode cb_M_without 57 = .ok (.return_, 1) := by decide +kernel
theorem dc_M_leaveOut_0 : decode cb_M_leaveOut 0 = .ok (.iconst 0, 1) := by decide +kernel
theorem dc_M_leaveOut_1 : decode cb_M_leaveOut 1 = .ok (.istore_n 2, 1) := by decide +kernel
theorem dc_M_leaveOut_2 : decode cb_M_leaveOut 2 = .ok (.iload_n 2, 1) := by decide +kernel
theorem dc_M_leaveOut_3 : decode cb_M_leaveOut 3 = .ok (.aload_n 0, 1) := by decide +kernel
theorem dc_M_leaveOut_4 : decode cb_M_leaveOut 4 = .ok (.getfield 109, 3) := by decide +kernel
theorem dc_M_leaveOut_7 : decode cb_M_leaveOut 7 = .ok (.if_icmp .ge 22, 3) := by decide +kernel
theorem dc_M_leaveOut_10 : decode cb_M_leaveOut 10 = .ok (.aload_n 0, 1) := by decide +kernel
theorem dc_M_leaveOut_11 : decode cb_M_leaveOut 11 = .ok (.iload_n 1, 1) := by decide +kernel
theorem dc_M_leaveOut_12 : decode cb_M_leaveOut 12 = .ok (.aload_n 0, 1) := by decide +kernel
theorem dc_M_leaveOut_13 : decode cb_M_leaveOut 13 = .ok (.getfield 29, 3) := by decide +kernel
theorem dc_M_leaveOut_16 : decode cb_M_leaveOut 16 = .ok (.bipush 7, 2) := by decide +kernel
theorem dc_M_leaveOut_18 : decode cb_M_leaveOut 18 = .ok (.iload_n 2, 1) := by decide +kernel
theorem dc_M_leaveOut_19 : decode cb_M_leaveOut 19 = .ok (.imul, 1) := by decide +kernel
theorem dc_M_leaveOut_20 : decode cb_M_leaveOut 20 = .ok (.invokevirtual 112, 3) := by decide +kernel
theorem dc_M_leaveOut_23 : decode cb_M_leaveOut 23 = .ok (.iinc 2 1, 3) := by decide +kernel
theorem dc_M_leaveOut_26 : decode cb_M_leaveOut 26 = .ok (.goto (-24), 3) := by decide +kernel
theorem dc_M_leaveOut_29 : decode cb_M_leaveOut 29 = .ok (.aload_n 0, 1) := by decide +kernel
theorem dc_M_leaveOut_30 : decode cb_M_leaveOut 30 = .ok (.iload_n 1, 1) := by decide +kernel
theorem dc_M_leaveOut_31 : decode cb_M_leaveOut 31 = .ok (.aload_n 0, 1) := by decide +kernel
theorem dc_M_leaveOut_32 : decode cb_M_leaveOut 32 = .ok (.getfield 35, 3) := by decide +kernel
theorem dc_M_leaveOut_35 : decode cb_M_leaveOut 35 = .ok (.iconst 0, 1) := by decide +kernel
theorem dc_M_leaveOut_36 : decode cb_M_leaveOut 36 = .ok (.invokevirtual 112, 3) := by decide +kernel
theorem dc_M_leaveOut_39 : decode cb_M_leaveOut 39 = .ok (.aload_n 0, 1) := by decide +kernel
theorem dc_M_leaveOut_40 : decode cb_M_leaveOut 40 = .ok (.iload_n 1, 1) := by decide +kernel
theorem dc_M_leaveOut_41 : decode cb_M_leaveOut 41 = .ok (.aload_n 0, 1) := by decide +kernel
theorem dc_M_leaveOut_42 : decode cb_M_leaveOut 42 = .ok (.getfield 38, 3) := by decide +kernel
theorem dc_M_leaveOut_45 : decode cb_M_leaveOut 45 = .ok (.iconst 0, 1) := by decide +kernel
theorem dc_M_leaveOut_46 : decode cb_M_leaveOut 46 = .ok (.invokevirtual 112, 3) := by decide +kernel
theorem dc_M_leaveOut_49 : decode cb_M_leaveOut 49 = .ok (.aload_n 0, 1) := by decide +kernel
theorem dc_M_leaveOut_50 : decode cb_M_leaveOut 50 = .ok (.dup, 1) := by decide +kernel
theorem dc_M_leaveOut_51 : decode cb_M_leaveOut 51 = .ok (.getfield 106, 3) := by decide +kernel
theorem dc_M_leaveOut_54 : decode cb_M_leaveOut 54 = .ok (.iconst 1, 1) := by decide +kernel
theorem dc_M_leaveOut_55 : decode cb_M_leaveOut 55 = .ok (.isub, 1) := by decide +kernel
theorem dc_M_leaveOut_56 : decode cb_M_leaveOut 56 = .ok (.putfield 106, 3) := by decide +kernel
theorem dc_M_leaveOut_59 : decode cb_M_leaveOut 59 = .ok (.return_, 1) := by decide +kernel
theorem dc_M_placeOf_0 : decode cb_M_placeOf 0 = .ok (.iconst 0, 1) := by decide +kernel
theorem dc_M_placeOf_1 : decode cb_M_placeOf 1 = .ok (.istore_n 3, 1) := by decide +kernel
theorem dc_M_placeOf_2 : decode cb_M_placeOf 2 = .ok (.aload_n 0, 1) := by decide +kernel
theorem dc_M_placeOf_3 : decode cb_M_placeOf 3 = .ok (.getfield 29, 3) := by decide +kernel
theorem dc_M_placeOf_6 : decode cb_M_placeOf 6 = .ok (.bipush 7, 2) := by decide +kernel
theorem dc_M_placeOf_8 : decode cb_M_placeOf 8 = .ok (.iload_n 1, 1) := by decide +kernel
theorem dc_M_placeOf_9 : decode cb_M_placeOf 9 = .ok (.imul, 1) := by decide +kernel
theorem dc_M_placeOf_10 : decode cb_M_placeOf 10 = .ok (.iload_n 3, 1) := by decide +kernel
theorem dc_M_placeOf_11 : decode cb_M_placeOf 11 = .ok (.iadd, 1) := by decide +kernel
theorem dc_M_placeOf_12 : decode cb_M_placeOf 12 = .ok (.iaload, 1) := by decide +kernel
theorem dc_M_placeOf_13 : decode cb_M_placeOf 13 = .ok (.iload_n 2, 1) := by decide +kernel
theorem dc_M_placeOf_14 : decode cb_M_placeOf 14 = .ok (.if_icmp .eq 9, 3) := by decide +kernel
theorem dc_M_placeOf_17 : decode cb_M_placeOf 17 = .ok (.iinc 3 1, 3) := by decide +kernel
theorem dc_M_placeOf_20 : decode cb_M_placeOf 20 = .ok (.goto (-18), 3) := by decide +kernel
theorem dc_M_placeOf_23 : decode cb_M_placeOf 23 = .ok (.iload_n 3, 1) := by decide +kernel
theorem dc_M_placeOf_24 : decode cb_M_placeOf 24 = .ok (.ireturn, 1) := by decide +kernel
theorem dc_M_tiePlace_0 : decode cb_M_tiePlace 0 = .ok (.iconst 0, 1) := by decide +kernel
theorem dc_M_tiePlace_1 : decode cb_M_tiePlace 1 = .ok (.istore_n 2, 1) := by decide +kernel
theorem dc_M_tiePlace_2 : decode cb_M_tiePlace 2 = .ok (.aload_n 0, 1) := by decide +kernel
theorem dc_M_tiePlace_3 : decode cb_M_tiePlace 3 = .ok (.getfield 35, 3) := by decide +kernel
theorem dc_M_tiePlace_6 : decode cb_M_tiePlace 6 = .ok (.iload_n 2, 1) := by decide +kernel
theorem dc_M_tiePlace_7 : decode cb_M_tiePlace 7 = .ok (.iaload, 1) := by decide +kernel
theorem dc_M_tiePlace_8 : decode cb_M_tiePlace 8 = .ok (.iload_n 1, 1) := by decide +kernel
theorem dc_M_tiePlace_9 : decode cb_M_tiePlace 9 = .ok (.if_icmp .eq 9, 3) := by decide +kernel
theorem dc_M_tiePlace_12 : decode cb_M_tiePlace 12 = .ok (.iinc 2 1, 3) := by decide +kernel
theorem dc_M_tiePlace_15 : decode cb_M_tiePlace 15 = .ok (.goto (-13), 3) := by decide +kernel
theorem dc_M_tiePlace_18 : decode cb_M_tiePlace 18 = .ok (.iload_n 2, 1) := by decide +kernel
theorem dc_M_tiePlace_19 : decode cb_M_tiePlace 19 = .ok (.ireturn, 1) := by decide +kernel
theorem dc_M_tally_0 : decode cb_M_tally 0 = .ok (.iconst 0, 1) := by decide +kernel
theorem dc_M_tally_1 : decode cb_M_tally 1 = .ok (.istore_n 1, 1) := by decide +kernel
theorem dc_M_tally_2 : decode cb_M_tally 2 = .ok (.iload_n 1, 1) := by decide +kernel
theorem dc_M_tally_3 : decode cb_M_tally 3 = .ok (.bipush 49, 2) := by decide +kernel
theorem dc_M_tally_5 : decode cb_M_tally 5 = .ok (.if_icmp .ge 16, 3) := by decide +kernel
theorem dc_M_tally_8 : decode cb_M_tally 8 = .ok (.aload_n 0, 1) := by decide +kernel
theorem dc_M_tally_9 : decode cb_M_tally 9 = .ok (.getfield 44, 3) := by decide +kernel
theorem dc_M_tally_12 : decode cb_M_tally 12 = .ok (.iload_n 1, 1) := by decide +kernel
theorem dc_M_tally_13 : decode cb_M_tally 13 = .ok (.iconst 0, 1) := by decide +kernel
theorem dc_M_tally_14 : decode cb_M_tally 14 = .ok (.iastore, 1) := by decide +kernel
theorem dc_M_tally_15 : decode cb_M_tally 15 = .ok (.iinc 1 1, 3) := by decide +kernel
theorem dc_M_tally_18 : decode cb_M_tally 18 = .ok (.goto (-16), 3) := by decide +kernel
theorem dc_M_tally_21 : decode cb_M_tally 21 = .ok (.iconst 0, 1) := by decide +kernel
theorem dc_M_tally_22 : decode cb_M_tally 22 = .ok (.istore_n 1, 1) := by decide +kernel
theorem dc_M_tally_23 : decode cb_M_tally 23 = .ok (.iload_n 1, 1) := by decide +kernel
theorem dc_M_tally_24 : decode cb_M_tally 24 = .ok (.aload_n 0, 1) := by decide +kernel
theorem dc_M_tally_25 : decode cb_M_tally 25 = .ok (.getfield 109, 3) := by decide +kernel
theorem dc_M_tally_28 : decode cb_M_tally 28 = .ok (.if_icmp .ge 92, 3) := by decide +kernel
theorem dc_M_tally_31 : decode cb_M_tally 31 = .ok (.iconst 0, 1) := by decide +kernel
theorem dc_M_tally_32 : decode cb_M_tally 32 = .ok (.istore_n 2, 1) := by decide +kernel
theorem dc_M_tally_33 : decode cb_M_tally 33 = .ok (.iload_n 2, 1) := by decide +kernel
theorem dc_M_tally_34 : decode cb_M_tally 34 = .ok (.aload_n 0, 1) := by decide +kernel
theorem dc_M_tally_35 : decode cb_M_tally 35 = .ok (.getfield 106, 3) := by decide +kernel
theorem dc_M_tally_38 : decode cb_M_tally 38 = .ok (.if_icmp .ge 76, 3) := by decide +kernel
theorem dc_M_tally_41 : decode cb_M_tally 41 = .ok (.iload_n 2, 1) := by decide +kernel
theorem dc_M_tally_42 : decode cb_M_tally 42 = .ok (.iconst 1, 1) := by decide +kernel
theorem dc_M_tally_43 : decode cb_M_tally 43 = .ok (.iadd, 1) := by decide +kernel
theorem dc_M_tally_44 : decode cb_M_tally 44 = .ok (.istore_n 3, 1) := by decide +kernel
theorem dc_M_tally_45 : decode cb_M_tally 45 = .ok (.iload_n 3, 1) := by decide +kernel
theorem dc_M_tally_46 : decode cb_M_tally 46 = .ok (.aload_n 0, 1) := by decide +kernel
theorem dc_M_tally_47 : decode cb_M_tally 47 = .ok (.getfield 106, 3) := by decide +kernel
theorem dc_M_tally_50 : decode cb_M_tally 50 = .ok (.if_icmp .ge 58, 3) := by decide +kernel
theorem dc_M_tally_53 : decode cb_M_tally 53 = .ok (.bipush 7, 2) := by decide +kernel
theorem dc_M_tally_55 : decode cb_M_tally 55 = .ok (.aload_n 0, 1) := by decide +kernel
theorem dc_M_tally_56 : decode cb_M_tally 56 = .ok (.getfield 29, 3) := by decide +kernel
theorem dc_M_tally_59 : decode cb_M_tally 59 = .ok (.bipush 7, 2) := by decide +kernel
theorem dc_M_tally_61 : decode cb_M_tally 61 = .ok (.iload_n 1, 1) := by decide +kernel
theorem dc_M_tally_62 : decode cb_M_tally 62 = .ok (.imul, 1) := by decide +kernel
theorem dc_M_tally_63 : decode cb_M_tally 63 = .ok (.iload_n 2, 1) := by decide +kernel
theorem dc_M_tally_64 : decode cb_M_tally 64 = .ok (.iadd, 1) := by decide +kernel
theorem dc_M_tally_65 : decode cb_M_tally 65 = .ok (.iaload, 1) := by decide +kernel
theorem dc_M_tally_66 : decode cb_M_tally 66 = .ok (.imul, 1) := by decide +kernel
theorem dc_M_tally_67 : decode cb_M_tally 67 = .ok (.aload_n 0, 1) := by decide +kernel
theorem dc_M_tally_68 : decode cb_M_tally 68 = .ok (.getfield 29, 3) := by decide +kernel
theorem dc_M_tally_71 : decode cb_M_tally 71 = .ok (.bipush 7, 2) := by decide +kernel
theorem dc_M_tally_73 : decode cb_M_tally 73 = .ok (.iload_n 1, 1) := by decide +kernel
theorem dc_M_tally_74 : decode cb_M_tally 74 = .ok (.imul, 1) := by decide +kernel
theorem dc_M_tally_75 : decode cb_M_tally 75 = .ok (.iload_n 3, 1) := by decide +kernel
theorem dc_M_tally_76 : decode cb_M_tally 76 = .ok (.iadd, 1) := by decide +kernel
theorem dc_M_tally_77 : decode cb_M_tally 77 = .ok (.iaload, 1) := by decide +kernel
theorem dc_M_tally_78 : decode cb_M_tally 78 = .ok (.iadd, 1) := by decide +kernel
theorem dc_M_tally_79 : decode cb_M_tally 79 = .ok (.istore 4, 2) := by decide +kernel
theorem dc_M_tally_81 : decode cb_M_tally 81 = .ok (.aload_n 0, 1) := by decide +kernel
theorem dc_M_tally_82 : decode cb_M_tally 82 = .ok (.getfield 44, 3) := by decide +kernel
theorem dc_M_tally_85 : decode cb_M_tally 85 = .ok (.iload 4, 2) := by decide +kernel
theorem dc_M_tally_87 : decode cb_M_tally 87 = .ok (.aload_n 0, 1) := by decide +kernel
theorem dc_M_tally_88 : decode cb_M_tally 88 = .ok (.getfield 44, 3) := by decide +kernel
theorem dc_M_tally_91 : decode cb_M_tally 91 = .ok (.iload 4, 2) := by decide +kernel
theorem dc_M_tally_93 : decode cb_M_tally 93 = .ok (.iaload, 1) := by decide +kernel
theorem dc_M_tally_94 : decode cb_M_tally 94 = .ok (.aload_n 0, 1) := by decide +kernel
theorem dc_M_tally_95 : decode cb_M_tally 95 = .ok (.getfield 32, 3) := by decide +kernel
theorem dc_M_tally_98 : decode cb_M_tally 98 = .ok (.iload_n 1, 1) := by decide +kernel
theorem dc_M_tally_99 : decode cb_M_tally 99 = .ok (.iaload, 1) := by decide +kernel
theorem dc_M_tally_100 : decode cb_M_tally 100 = .ok (.iadd, 1) := by decide +kernel
theorem dc_M_tally_101 : decode cb_M_tally 101 = .ok (.iastore, 1) := by decide +kernel
theorem dc_M_tally_102 : decode cb_M_tally 102 = .ok (.iinc 3 1, 3) := by decide +kernel
theorem dc_M_tally_105 : decode cb_M_tally 105 = .ok (.goto (-60), 3) := by decide +kernel
theorem dc_M_tally_108 : decode cb_M_tally 108 = .ok (.iinc 2 1, 3) := by decide +kernel
theorem dc_M_tally_111 : decode cb_M_tally 111 = .ok (.goto (-78), 3) := by decide +kernel
theorem dc_M_tally_114 : decode cb_M_tally 114 = .ok (.iinc 1 1, 3) := by decide +kernel
theorem dc_M_tally_117 : decode cb_M_tally 117 = .ok (.goto (-94), 3) := by decide +kernel
theorem dc_M_tally_120 : decode cb_M_tally 120 = .ok (.return_, 1) := by decide +kernel
theorem dc_M_beats_0 : decode cb_M_beats 0 = .ok (.aload_n 0, 1) := by decide +kernel
theorem dc_M_beats_1 : decode cb_M_beats 1 = .ok (.getfield 44, 3) := by decide +kernel
theorem dc_M_beats_4 : decode cb_M_beats 4 = .ok (.bipush 7, 2) := by decide +kernel
theorem dc_M_beats_6 : decode cb_M_beats 6 = .ok (.iload_n 1, 1) := by decide +kernel
theorem dc_M_beats_7 : decode cb_M_beats 7 = .ok (.imul, 1) := by decide +kernel
theorem dc_M_beats_8 : decode cb_M_beats 8 = .ok (.iload_n 2, 1) := by decide +kernel
theorem dc_M_beats_9 : decode cb_M_beats 9 = .ok (.iadd, 1) := by decide +kernel
theorem dc_M_beats_10 : decode cb_M_beats 10 = .ok (.iaload, 1) := by decide +kernel
theorem dc_M_beats_11 : decode cb_M_beats 11 = .ok (.aload_n 0, 1) := by decide +kernel
theorem dc_M_beats_12 : decode cb_M_beats 12 = .ok (.getfield 44, 3) := by decide +kernel
theorem dc_M_beats_15 : decode cb_M_beats 15 = .ok (.bipush 7, 2) := by decide +kernel
theorem dc_M_beats_17 : decode cb_M_beats 17 = .ok (.iload_n 2, 1) := by decide +kernel
theorem dc_M_beats_18 : decode cb_M_beats 18 = .ok (.imul, 1) := by decide +kernel
theorem dc_M_beats_19 : decode cb_M_beats 19 = .ok (.iload_n 1, 1) := by decide +kernel
theorem dc_M_beats_20 : decode cb_M_beats 20 = .ok (.iadd, 1) := by decide +kernel
theorem dc_M_beats_21 : decode cb_M_beats 21 = .ok (.iaload, 1) := by decide +kernel
theorem dc_M_beats_22 : decode cb_M_beats 22 = .ok (.if_icmp .le 7, 3) := by decide +kernel
theorem dc_M_beats_25 : decode cb_M_beats 25 = .ok (.iconst 1, 1) := by decide +kernel
theorem dc_M_beats_26 : decode cb_M_beats 26 = .ok (.goto 4, 3) := by decide +kernel
theorem dc_M_beats_29 : decode cb_M_beats 29 = .ok (.iconst 0, 1) := by decide +kernel
theorem dc_M_beats_30 : decode cb_M_beats 30 = .ok (.ireturn, 1) := by decide +kernel
theorem dc_M_ahead_0 : decode cb_M_ahead 0 = .ok (.iconst 0, 1) := by decide +kernel
theorem dc_M_ahead_1 : decode cb_M_ahead 1 = .ok (.istore_n 3, 1) := by decide +kernel
theorem dc_M_ahead_2 : decode cb_M_ahead 2 = .ok (.iconst 0, 1) := by decide +kernel
theorem dc_M_ahead_3 : decode cb_M_ahead 3 = .ok (.istore 4, 2) := by decide +kernel
theorem dc_M_ahead_5 : decode cb_M_ahead 5 = .ok (.iload 4, 2) := by decide +kernel
theorem dc_M_ahead_7 : decode cb_M_ahead 7 = .ok (.aload_n 0, 1) := by decide +kernel
theorem dc_M_ahead_8 : decode cb_M_ahead 8 = .ok (.getfield 109, 3) := by decide +kernel
theorem dc_M_ahead_11 : decode cb_M_ahead 11 = .ok (.if_icmp .ge 69, 3) := by decide +kernel
theorem dc_M_ahead_14 : decode cb_M_ahead 14 = .ok (.iconst 0, 1) := by decide +kernel
theorem dc_M_ahead_15 : decode cb_M_ahead 15 = .ok (.istore 5, 2) := by decide +kernel
theorem dc_M_ahead_17 : decode cb_M_ahead 17 = .ok (.iload_n 2, 1) := by decide +kernel
theorem dc_M_ahead_18 : decode cb_M_ahead 18 = .ok (.aload_n 0, 1) := by decide +kernel
theorem dc_M_ahead_19 : decode cb_M_ahead 19 = .ok (.getfield 29, 3) := by decide +kernel
theorem dc_M_ahead_22 : decode cb_M_ahead 22 = .ok (.bipush 7, 2) := by decide +kernel
theorem dc_M_ahead_24 : decode cb_M_ahead 24 = .ok (.iload 4, 2) := by decide +kernel
theorem dc_M_ahead_26 : decode cb_M_ahead 26 = .ok (.imul, 1) := by decide +kernel
theorem dc_M_ahead_27 : decode cb_M_ahead 27 = .ok (.iload 5, 2) := by decide +kernel
theorem dc_M_ahead_29 : decode cb_M_ahead 29 = .ok (.iadd, 1) := by decide +kernel
theorem dc_M_ahead_30 : decode cb_M_ahead 30 = .ok (.iaload, 1) := by decide +kernel
theorem dc_M_ahead_31 : decode cb_M_ahead 31 = .ok (.ishr, 1) := by decide +kernel
theorem dc_M_ahead_32 : decode cb_M_ahead 32 = .ok (.iconst 1, 1) := by decide +kernel
theorem dc_M_ahead_33 : decode cb_M_ahead 33 = .ok (.iand, 1) := by decide +kernel
theorem dc_M_ahead_34 : decode cb_M_ahead 34 = .ok (.ifCond .ne 9, 3) := by decide +kernel
theorem dc_M_ahead_37 : decode cb_M_ahead 37 = .ok (.iinc 5 1, 3) := by decide +kernel
theorem dc_M_ahead_40 : decode cb_M_ahead 40 = .ok (.goto (-23), 3) := by decide +kernel
theorem dc_M_ahead_43 : decode cb_M_ahead 43 = .ok (.aload_n 0, 1) := by decide +kernel
theorem dc_M_ahead_44 : decode cb_M_ahead 44 = .ok (.getfield 29, 3) := by decide +kernel
theorem dc_M_ahead_47 : decode cb_M_ahead 47 = .ok (.bipush 7, 2) := by decide +kernel
theorem dc_M_ahead_49 : decode cb_M_ahead 49 = .ok (.iload 4, 2) := by decide +kernel
theorem dc_M_ahead_51 : decode cb_M_ahead 51 = .ok (.imul, 1) := by decide +kernel
theorem dc_M_ahead_52 : decode cb_M_ahead 52 = .ok (.iload 5, 2) := by decide +kernel
theorem dc_M_ahead_54 : decode cb_M_ahead 54 = .ok (.iadd, 1) := by decide +kernel
theorem dc_M_ahead_55 : decode cb_M_ahead 55 = .ok (.iaload, 1) := by decide +kernel
theorem dc_M_ahead_56 : decode cb_M_ahead 56 = .ok (.iload_n 1, 1) := by decide +kernel
theorem dc_M_ahead_57 : decode cb_M_ahead 57 = .ok (.if_icmp .ne 15, 3) := by decide +kernel
theorem dc_M_ahead_60 : decode cb_M_ahead 60 = .ok (.iload_n 3, 1) := by decide +kernel
theorem dc_M_ahead_61 : decode cb_M_ahead 61 = .ok (.aload_n 0, 1) := by decide +kernel
theorem dc_M_ahead_62 : decode cb_M_ahead 62 = .ok (.getfield 32, 3) := by decide +kernel
theorem dc_M_ahead_65 : decode cb_M_ahead 65 = .ok (.iload 4, 2) := by decide +kernel
theorem dc_M_ahead_67 : decode cb_M_ahead 67 = .ok (.iaload, 1) := by decide +kernel
theorem dc_M_ahead_68 : decode cb_M_ahead 68 = .ok (.iadd, 1) := by decide +kernel
theorem dc_M_ahead_69 : decode cb_M_ahead 69 = .ok (.goto 4, 3) := by decide +kernel
theorem dc_M_ahead_72 : decode cb_M_ahead 72 = .ok (.iload_n 3, 1) := by decide +kernel
theorem dc_M_ahead_73 : decode cb_M_ahead 73 = .ok (.istore_n 3, 1) := by decide +kernel
theorem dc_M_ahead_74 : decode cb_M_ahead 74 = .ok (.iinc 4 1, 3) := by decide +kernel
theorem dc_M_ahead_77 : decode cb_M_ahead 77 = .ok (.goto (-72), 3) := by decide +kernel
theorem dc_M_ahead_80 : decode cb_M_ahead 80 = .ok (.iload_n 3, 1) := by decide +kernel
theorem dc_M_ahead_81 : decode cb_M_ahead 81 = .ok (.ireturn, 1) := by decide +kernel
theorem dc_M_all_0 : decode cb_M_all 0 = .ok (.iconst 1, 1) := by decide +kernel
theorem dc_M_all_1 : decode cb_M_all 1 = .ok (.aload_n 0, 1) := by decide +kernel
theorem dc_M_all_2 : decode cb_M_all 2 = .ok (.getfield 106, 3) := by decide +kernel
theorem dc_M_all_5 : decode cb_M_all 5 = .ok (.ishl, 1) := by decide +kernel
theorem dc_M_all_6 : decode cb_M_all 6 = .ok (.iconst 1, 1) := by decide +kernel
theorem dc_M_all_7 : decode cb_M_all 7 = .ok (.isub, 1) := by decide +kernel
theorem dc_M_all_8 : decode cb_M_all 8 = .ok (.ireturn, 1) := by decide +kernel
theorem dc_M_scored_0 : decode cb_M_scored 0 = .ok (.lconst 0, 1) := by decide +kernel
theorem dc_M_scored_1 : decode cb_M_scored 1 = .ok (.lstore_n 3, 1) := by decide +kernel
theorem dc_M_scored_2 : decode cb_M_scored 2 = .ok (.iload_n 1, 1) := by decide +kernel
theorem dc_M_scored_3 : decode cb_M_scored 3 = .ok (.ifCond .ne 14, 3) := by decide +kernel
theorem dc_M_scored_6 : decode cb_M_scored 6 = .ok (.aload_n 0, 1) := by decide +kernel
theorem dc_M_scored_7 : decode cb_M_scored 7 = .ok (.iload_n 2, 1) := by decide +kernel
theorem dc_M_scored_8 : decode cb_M_scored 8 = .ok (.aload_n 0, 1) := by decide +kernel
theorem dc_M_scored_9 : decode cb_M_scored 9 = .ok (.invokevirtual 115, 3) := by decide +kernel
theorem dc_M_scored_12 : decode cb_M_scored 12 = .ok (.invokevirtual 119, 3) := by decide +kernel
theorem dc_M_scored_15 : decode cb_M_scored 15 = .ok (.i2l, 1) := by decide +kernel
theorem dc_M_scored_16 : decode cb_M_scored 16 = .ok (.lreturn, 1) := by decide +kernel
theorem dc_M_scored_17 : decode cb_M_scored 17 = .ok (.iconst 0, 1) := by decide +kernel
theorem dc_M_scored_18 : decode cb_M_scored 18 = .ok (.istore 5, 2) := by decide +kernel
theorem dc_M_scored_20 : decode cb_M_scored 20 = .ok (.iload 5, 2) := by decide +kernel
theorem dc_M_scored_22 : decode cb_M_scored 22 = .ok (.aload_n 0, 1) := by decide +kernel
theorem dc_M_scored_23 : decode cb_M_scored 23 = .ok (.getfield 109, 3) := by decide +kernel
theorem dc_M_scored_26 : decode cb_M_scored 26 = .ok (.if_icmp .ge 74, 3) := by decide +kernel
theorem dc_M_scored_29 : decode cb_M_scored 29 = .ok (.iload_n 1, 1) := by decide +kernel
theorem dc_M_scored_30 : decode cb_M_scored 30 = .ok (.iconst 3, 1) := by decide +kernel
theorem dc_M_scored_31 : decode cb_M_scored 31 = .ok (.if_icmp .ge 69, 3) := by decide +kernel
theorem dc_M_scored_34 : decode cb_M_scored 34 = .ok (.aload_n 0, 1) := by decide +kernel
theorem dc_M_scored_35 : decode cb_M_scored 35 = .ok (.iload 5, 2) := by decide +kernel
theorem dc_M_scored_37 : decode cb_M_scored 37 = .ok (.iload_n 2, 1) := by decide +kernel
theorem dc_M_scored_38 : decode cb_M_scored 38 = .ok (.invokevirtual 123, 3) := by decide +kernel
theorem dc_M_scored_41 : decode cb_M_scored 41 = .ok (.istore 6, 2) := by decide +kernel
theorem dc_M_scored_43 : decode cb_M_scored 43 = .ok (.lload_n 3, 1) := by decide +kernel
theorem dc_M_scored_44 : decode cb_M_scored 44 = .ok (.iload_n 1, 1) := by decide +kernel
theorem dc_M_scored_45 : decode cb_M_scored 45 = .ok (.iconst 1, 1) := by decide +kernel
theorem dc_M_scored_46 : decode cb_M_scored 46 = .ok (.if_icmp .ne 29, 3) := by decide +kernel
theorem dc_M_scored_49 : decode cb_M_scored 49 = .ok (.iload 6, 2) := by decide +kernel
theorem dc_M_scored_51 : decode cb_M_scored 51 = .ok (.aload_n 0, 1) := by decide +kernel
theorem dc_M_scored_52 : decode cb_M_scored 52 = .ok (.getfield 106, 3) := by decide +kernel
theorem dc_M_scored_55 : decode cb_M_scored 55 = .ok (.iconst 1, 1) := by decide +kernel
theorem dc_M_scored_56 : decode cb_M_scored 56 = .ok (.isub, 1) := by decide +kernel
theorem dc_M_scored_57 : decode cb_M_scored 57 = .ok (.if_icmp .ne 14, 3) := by decide +kernel
theorem dc_M_scored_60 : decode cb_M_scored 60 = .ok (.aload_n 0, 1) := by decide +kernel
theorem dc_M_scored_61 : decode cb_M_scored 61 = .ok (.getfield 32, 3) := by decide +kernel
theorem dc_M_scored_64 : decode cb_M_scored 64 = .ok (.iload 5, 2) := by decide +kernel
theorem dc_M_scored_66 : decode cb_M_scored 66 = .ok (.iaload, 1) := by decide +kernel
theorem dc_M_scored_67 : decode cb_M_scored 67 = .ok (.i2l, 1) := by decide +kernel
theorem dc_M_scored_68 : decode cb_M_scored 68 = .ok (.goto 24, 3) := by decide +kernel
theorem dc_M_scored_71 : decode cb_M_scored 71 = .ok (.lconst 0, 1) := by decide +kernel
theorem dc_M_scored_72 : decode cb_M_scored 72 = .ok (.goto 20, 3) := by decide +kernel
theorem dc_M_scored_75 : decode cb_M_scored 75 = .ok (.aload_n 0, 1) := by decide +kernel
theorem dc_M_scored_76 : decode cb_M_scored 76 = .ok (.getfield 41, 3) := by decide +kernel
theorem dc_M_scored_79 : decode cb_M_scored 79 = .ok (.iload 6, 2) := by decide +kernel
theorem dc_M_scored_81 : decode cb_M_scored 81 = .ok (.iaload, 1) := by decide +kernel
theorem dc_M_scored_82 : decode cb_M_scored 82 = .ok (.i2l, 1) := by decide +kernel
theorem dc_M_scored_83 : decode cb_M_scored 83 = .ok (.aload_n 0, 1) := by decide +kernel
theorem dc_M_scored_84 : decode cb_M_scored 84 = .ok (.getfield 32, 3) := by decide +kernel
theorem dc_M_scored_87 : decode cb_M_scored 87 = .ok (.iload 5, 2) := by decide +kernel
theorem dc_M_scored_89 : decode cb_M_scored 89 = .ok (.iaload, 1) := by decide +kernel
theorem dc_M_scored_90 : decode cb_M_scored 90 = .ok (.i2l, 1) := by decide +kernel
theorem dc_M_scored_91 : decode cb_M_scored 91 = .ok (.lmul, 1) := by decide +kernel
theorem dc_M_scored_92 : decode cb_M_scored 92 = .ok (.ladd, 1) := by decide +kernel
theorem dc_M_scored_93 : decode cb_M_scored 93 = .ok (.lstore_n 3, 1) := by decide +kernel
theorem dc_M_scored_94 : decode cb_M_scored 94 = .ok (.iinc 5 1, 3) := by decide +kernel
theorem dc_M_scored_97 : decode cb_M_scored 97 = .ok (.goto (-77), 3) := by decide +kernel
theorem dc_M_scored_100 : decode cb_M_scored 100 = .ok (.iconst 0, 1) := by decide +kernel
theorem dc_M_scored_101 : decode cb_M_scored 101 = .ok (.istore 5, 2) := by decide +kernel
theorem dc_M_scored_103 : decode cb_M_scored 103 = .ok (.iload 5, 2) := by decide +kernel
theorem dc_M_scored_105 : decode cb_M_scored 105 = .ok (.aload_n 0, 1) := by decide +kernel
theorem dc_M_scored_106 : decode cb_M_scored 106 = .ok (.getfield 106, 3) := by decide +kernel
theorem dc_M_scored_109 : decode cb_M_scored 109 = .ok (.if_icmp .ge 119, 3) := by decide +kernel
theorem dc_M_scored_112 : decode cb_M_scored 112 = .ok (.iload_n 1, 1) := by decide +kernel
theorem dc_M_scored_113 : decode cb_M_scored 113 = .ok (.iconst 5, 1) := by decide +kernel
theorem dc_M_scored_114 : decode cb_M_scored 114 = .ok (.if_icmp .lt 114, 3) := by decide +kernel
theorem dc_M_scored_117 : decode cb_M_scored 117 = .ok (.iload_n 1, 1) := by decide +kernel
theorem dc_M_scored_118 : decode cb_M_scored 118 = .ok (.iconst 5, 1) := by decide +kernel
theorem dc_M_scored_119 : decode cb_M_scored 119 = .ok (.if_icmp .ne 55, 3) := by decide +kernel
theorem dc_M_scored_122 : decode cb_M_scored 122 = .ok (.iload 5, 2) := by decide +kernel
theorem dc_M_scored_124 : decode cb_M_scored 124 = .ok (.iload_n 2, 1) := by decide +kernel
theorem dc_M_scored_125 : decode cb_M_scored 125 = .ok (.if_icmp .eq 49, 3) := by decide +kernel
theorem dc_M_scored_128 : decode cb_M_scored 128 = .ok (.aload_n 0, 1) := by decide +kernel
theorem dc_M_scored_129 : decode cb_M_scored 129 = .ok (.iload 5, 2) := by decide +kernel
theorem dc_M_scored_131 : decode cb_M_scored 131 = .ok (.iload_n 2, 1) := by decide +kernel
theorem dc_M_scored_132 : decode cb_M_scored 132 = .ok (.invokevirtual 126, 3) := by decide +kernel
theorem dc_M_scored_135 : decode cb_M_scored 135 = .ok (.ifCond .eq 39, 3) := by decide +kernel
theorem dc_M_scored_138 : decode cb_M_scored 138 = .ok (.aload_n 0, 1) := by decide +kernel
theorem dc_M_scored_139 : decode cb_M_scored 139 = .ok (.getfield 44, 3) := by decide +kernel
theorem dc_M_scored_142 : decode cb_M_scored 142 = .ok (.bipush 7, 2) := by decide +kernel
theorem dc_M_scored_144 : decode cb_M_scored 144 = .ok (.iload 5, 2) := by decide +kernel
theorem dc_M_scored_146 : decode cb_M_scored 146 = .ok (.imul, 1) := by decide +kernel
theorem dc_M_scored_147 : decode cb_M_scored 147 = .ok (.iload_n 2, 1) := by decide +kernel
theorem dc_M_scored_148 : decode cb_M_scored 148 = .ok (.iadd, 1) := by decide +kernel
theorem dc_M_scored_149 : decode cb_M_scored 149 = .ok (.iaload, 1) := by decide +kernel
theorem dc_M_scored_150 : decode cb_M_scored 150 = .ok (.i2l, 1) := by decide +kernel
theorem dc_M_scored_151 : decode cb_M_scored 151 = .ok (.lload_n 3, 1) := by decide +kernel
theorem dc_M_scored_152 : decode cb_M_scored 152 = .ok (.lcmp, 1) := by decide +kernel
theorem dc_M_scored_153 : decode cb_M_scored 153 = .ok (.ifCond .le 19, 3) := by decide +kernel
theorem dc_M_scored_156 : decode cb_M_scored 156 = .ok (.aload_n 0, 1) := by decide +kernel
theorem dc_M_scored_157 : decode cb_M_scored 157 = .ok (.getfield 44, 3) := by decide +kernel
theorem dc_M_scored_160 : decode cb_M_scored 160 = .ok (.bipush 7, 2) := by decide +kernel
theorem dc_M_scored_162 : decode cb_M_scored 162 = .ok (.iload 5, 2) := by decide +kernel
theorem dc_M_scored_164 : decode cb_M_scored 164 = .ok (.imul, 1) := by decide +kernel
theorem dc_M_scored_165 : decode cb_M_scored 165 = .ok (.iload_n 2, 1) := by decide +kernel
theorem dc_M_scored_166 : decode cb_M_scored 166 = .ok (.iadd, 1) := by decide +kernel
theorem dc_M_scored_167 : decode cb_M_scored 167 = .ok (.iaload, 1) := by decide +kernel
theorem dc_M_scored_168 : decode cb_M_scored 168 = .ok (.i2l, 1) := by decide +kernel
theorem dc_M_scored_169 : decode cb_M_scored 169 = .ok (.goto 4, 3) := by decide +kernel
theorem dc_M_scored_172 : decode cb_M_scored 172 = .ok (.lload_n 3, 1) := by decide +kernel
theorem dc_M_scored_173 : decode cb_M_scored 173 = .ok (.lstore_n 3, 1) := by decide +kernel
theorem dc_M_scored_174 : decode cb_M_scored 174 = .ok (.iload_n 1, 1) := by decide +kernel
theorem dc_M_scored_175 : decode cb_M_scored 175 = .ok (.bipush 6, 2) := by decide +kernel
theorem dc_M_scored_177 : decode cb_M_scored 177 = .ok (.if_icmp .ne 45, 3) := by decide +kernel
theorem dc_M_scored_180 : decode cb_M_scored 180 = .ok (.iload 5, 2) := by decide +kernel
theorem dc_M_scored_182 : decode cb_M_scored 182 = .ok (.iload_n 2, 1) := by decide +kernel
theorem dc_M_scored_183 : decode cb_M_scored 183 = .ok (.if_icmp .eq 39, 3) := by decide +kernel
theorem dc_M_scored_186 : decode cb_M_scored 186 = .ok (.aload_n 0, 1) := by decide +kernel
theorem dc_M_scored_187 : decode cb_M_scored 187 = .ok (.iload_n 2, 1) := by decide +kernel
theorem dc_M_scored_188 : decode cb_M_scored 188 = .ok (.iload 5, 2) := by decide +kernel
theorem dc_M_scored_190 : decode cb_M_scored 190 = .ok (.invokevirtual 126, 3) := by decide +kernel
theorem dc_M_scored_193 : decode cb_M_scored 193 = .ok (.ifCond .eq 11, 3) := by decide +kernel
theorem dc_M_scored_196 : decode cb_M_scored 196 = .ok (.lload_n 3, 1) := by decide +kernel
theorem dc_M_scored_197 : decode cb_M_scored 197 = .ok (.ldc2_w 130, 3) := by decide +kernel
theorem dc_M_scored_200 : decode cb_M_scored 200 = .ok (.ladd, 1) := by decide +kernel
theorem dc_M_scored_201 : decode cb_M_scored 201 = .ok (.goto 20, 3) := by decide +kernel
theorem dc_M_scored_204 : decode cb_M_scored 204 = .ok (.aload_n 0, 1) := by decide +kernel
theorem dc_M_scored_205 : decode cb_M_scored 205 = .ok (.iload 5, 2) := by decide +kernel
theorem dc_M_scored_207 : decode cb_M_scored 207 = .ok (.iload_n 2, 1) := by decide +kernel
theorem dc_M_scored_208 : decode cb_M_scored 208 = .ok (.invokevirtual 126, 3) := by decide +kernel
theorem dc_M_scored_211 : decode cb_M_scored 211 = .ok (.ifCond .eq 7, 3) := by decide +kernel
theorem dc_M_scored_214 : decode cb_M_scored 214 = .ok (.lload_n 3, 1) := by decide +kernel
theorem dc_M_scored_215 : decode cb_M_scored 215 = .ok (.goto 6, 3) := by decide +kernel
theorem dc_M_scored_218 : decode cb_M_scored 218 = .ok (.lload_n 3, 1) := by decide +kernel
theorem dc_M_scored_219 : decode cb_M_scored 219 = .ok (.lconst 1, 1) := by decide +kernel
theorem dc_M_scored_220 : decode cb_M_scored 220 = .ok (.ladd, 1) := by decide +kernel
theorem dc_M_scored_221 : decode cb_M_scored 221 = .ok (.lstore_n 3, 1) := by decide +kernel
theorem dc_M_scored_222 : decode cb_M_scored 222 = .ok (.iinc 5 1, 3) := by decide +kernel
theorem dc_M_scored_225 : decode cb_M_scored 225 = .ok (.goto (-122), 3) := by decide +kernel
theorem dc_M_scored_228 : decode cb_M_scored 228 = .ok (.lload_n 3, 1) := by decide +kernel
theorem dc_M_scored_229 : decode cb_M_scored 229 = .ok (.lreturn, 1) := by decide +kernel
theorem dc_M_extreme_0 : decode cb_M_extreme 0 = .ok (.iconst 0, 1) := by decide +kernel
theorem dc_M_extreme_1 : decode cb_M_extreme 1 = .ok (.istore_n 3, 1) := by decide +kernel
theorem dc_M_extreme_2 : decode cb_M_extreme 2 = .ok (.iconst 0, 1) := by decide +kernel
theorem dc_M_extreme_3 : decode cb_M_extreme 3 = .ok (.istore 4, 2) := by decide +kernel
theorem dc_M_extreme_5 : decode cb_M_extreme 5 = .ok (.iload 4, 2) := by decide +kernel
theorem dc_M_extreme_7 : decode cb_M_extreme 7 = .ok (.aload_n 0, 1) := by decide +kernel
theorem dc_M_extreme_8 : decode cb_M_extreme 8 = .ok (.getfield 106, 3) := by decide +kernel
theorem dc_M_extreme_11 : decode cb_M_extreme 11 = .ok (.if_icmp .ge 101, 3) := by decide +kernel
theorem dc_M_extreme_14 : decode cb_M_extreme 14 = .ok (.iconst 1, 1) := by decide +kernel
theorem dc_M_extreme_15 : decode cb_M_extreme 15 = .ok (.istore 5, 2) := by decide +kernel
theorem dc_M_extreme_17 : decode cb_M_extreme 17 = .ok (.iconst 0, 1) := by decide +kernel
theorem dc_M_extreme_18 : decode cb_M_extreme 18 = .ok (.istore 6, 2) := by decide +kernel
theorem dc_M_extreme_20 : decode cb_M_extreme 20 = .ok (.iload 6, 2) := by decide +kernel
theorem dc_M_extreme_22 : decode cb_M_extreme 22 = .ok (.aload_n 0, 1) := by decide +kernel
theorem dc_M_extreme_23 : decode cb_M_extreme 23 = .ok (.getfield 106, 3) := by decide +kernel
theorem dc_M_extreme_26 : decode cb_M_extreme 26 = .ok (.if_icmp .ge 64, 3) := by decide +kernel
theorem dc_M_extreme_29 : decode cb_M_extreme 29 = .ok (.iload 5, 2) := by decide +kernel
theorem dc_M_extreme_31 : decode cb_M_extreme 31 = .ok (.ifCond .eq 50, 3) := by decide +kernel
theorem dc_M_extreme_34 : decode cb_M_extreme 34 = .ok (.iload_n 2, 1) := by decide +kernel
theorem dc_M_extreme_35 : decode cb_M_extreme 35 = .ok (.ifCond .eq 24, 3) := by decide +kernel
theorem dc_M_extreme_38 : decode cb_M_extreme 38 = .ok (.aload_n 0, 1) := by decide +kernel
theorem dc_M_extreme_39 : decode cb_M_extreme 39 = .ok (.iload_n 1, 1) := by decide +kernel
theorem dc_M_extreme_40 : decode cb_M_extreme 40 = .ok (.iload 6, 2) := by decide +kernel
theorem dc_M_extreme_42 : decode cb_M_extreme 42 = .ok (.invokevirtual 132, 3) := by decide +kernel
theorem dc_M_extreme_45 : decode cb_M_extreme 45 = .ok (.aload_n 0, 1) := by decide +kernel
theorem dc_M_extreme_46 : decode cb_M_extreme 46 = .ok (.iload_n 1, 1) := by decide +kernel
theorem dc_M_extreme_47 : decode cb_M_extreme 47 = .ok (.iload 4, 2) := by decide +kernel
theorem dc_M_extreme_49 : decode cb_M_extreme 49 = .ok (.invokevirtual 132, 3) := by decide +kernel
theorem dc_M_extreme_52 : decode cb_M_extreme 52 = .ok (.lcmp, 1) := by decide +kernel
theorem dc_M_extreme_53 : decode cb_M_extreme 53 = .ok (.ifCond .gt 28, 3) := by decide +kernel
theorem dc_M_extreme_56 : decode cb_M_extreme 56 = .ok (.goto 21, 3) := by decide +kernel
theorem dc_M_extreme_59 : decode cb_M_extreme 59 = .ok (.aload_n 0, 1) := by decide +kernel
theorem dc_M_extreme_60 : decode cb_M_extreme 60 = .ok (.iload_n 1, 1) := by decide +kernel
theorem dc_M_extreme_61 : decode cb_M_extreme 61 = .ok (.iload 6, 2) := by decide +kernel
theorem dc_M_extreme_63 : decode cb_M_extreme 63 = .ok (.invokevirtual 132, 3) := by decide +kernel
theorem dc_M_extreme_66 : decode cb_M_extreme 66 = .ok (.aload_n 0, 1) := by decide +kernel
theorem dc_M_extreme_67 : decode cb_M_extreme 67 = .ok (.iload_n 1, 1) := by decide +kernel
theorem dc_M_extreme_68 : decode cb_M_extreme 68 = .ok (.iload 4, 2) := by decide +kernel
theorem dc_M_extreme_70 : decode cb_M_extreme 70 = .ok (.invokevirtual 132, 3) := by decide +kernel
theorem dc_M_extreme_73 : decode cb_M_extreme 73 = .ok (.lcmp, 1) := by decide +kernel
theorem dc_M_extreme_74 : decode cb_M_extreme 74 = .ok (.ifCond .lt 7, 3) := by decide +kernel
theorem dc_M_extreme_77 : decode cb_M_extreme 77 = .ok (.iconst 1, 1) := by decide +kernel
theorem dc_M_extreme_78 : decode cb_M_extreme 78 = .ok (.goto 4, 3) := by decide +kernel
theorem dc_M_extreme_81 : decode cb_M_extreme 81 = .ok (.iconst 0, 1) := by decide +kernel
theorem dc_M_extreme_82 : decode cb_M_extreme 82 = .ok (.istore 5, 2) := by decide +kernel
theorem dc_M_extreme_84 : decode cb_M_extreme 84 = .ok (.iinc 6 1, 3) := by decide +kernel
theorem dc_M_extreme_87 : decode cb_M_extreme 87 = .ok (.goto (-67), 3) := by decide +kernel
theorem dc_M_extreme_90 : decode cb_M_extreme 90 = .ok (.iload 5, 2) := by decide +kernel
theorem dc_M_extreme_92 : decode cb_M_extreme 92 = .ok (.ifCond .eq 12, 3) := by decide +kernel
theorem dc_M_extreme_95 : decode cb_M_extreme 95 = .ok (.iload_n 3, 1) := by decide +kernel
theorem dc_M_extreme_96 : decode cb_M_extreme 96 = .ok (.iconst 1, 1) := by decide +kernel
theorem dc_M_extreme_97 : decode cb_M_extreme 97 = .ok (.iload 4, 2) := by decide +kernel
theorem dc_M_extreme_99 : decode cb_M_extreme 99 = .ok (.ishl, 1) := by decide +kernel
theorem dc_M_extreme_100 : decode cb_M_extreme 100 = .ok (.ior, 1) := by decide +kernel
theorem dc_M_extreme_101 : decode cb_M_extreme 101 = .ok (.goto 4, 3) := by decide +kernel
theorem dc_M_extreme_104 : decode cb_M_extreme 104 = .ok (.iload_n 3, 1) := by decide +kernel
theorem dc_M_extreme_105 : decode cb_M_extreme 105 = .ok (.istore_n 3, 1) := by decide +kernel
theorem dc_M_extreme_106 : decode cb_M_extreme 106 = .ok (.iinc 4 1, 3) := by decide +kernel
theorem dc_M_extreme_109 : decode cb_M_extreme 109 = .ok (.goto (-104), 3) := by decide +kernel
theorem dc_M_extreme_112 : decode cb_M_extreme 112 = .ok (.iload_n 3, 1) := by decide +kernel
theorem dc_M_extreme_113 : decode cb_M_extreme 113 = .ok (.ireturn, 1) := by decide +kernel
theorem dc_M_runoff_0 : decode cb_M_runoff 0 = .ok (.iconst 0, 1) := by decide +kernel
theorem dc_M_runoff_1 : decode cb_M_runoff 1 = .ok (.istore_n 1, 1) := by decide +kernel
theorem dc_M_runoff_2 : decode cb_M_runoff 2 = .ok (.iconst 0, 1) := by decide +kernel
theorem dc_M_runoff_3 : decode cb_M_runoff 3 = .ok (.istore_n 2, 1) := by decide +kernel
theorem dc_M_runoff_4 : decode cb_M_runoff 4 = .ok (.iload_n 2, 1) := by decide +kernel
theorem dc_M_runoff_5 : decode cb_M_runoff 5 = .ok (.aload_n 0, 1) := by decide +kernel
theorem dc_M_runoff_6 : decode cb_M_runoff 6 = .ok (.getfield 106, 3) := by decide +kernel
theorem dc_M_runoff_9 : decode cb_M_runoff 9 = .ok (.if_icmp .ge 148, 3) := by decide +kernel
theorem dc_M_runoff_12 : decode cb_M_runoff 12 = .ok (.iload_n 2, 1) := by decide +kernel
theorem dc_M_runoff_13 : decode cb_M_runoff 13 = .ok (.iconst 1, 1) := by decide +kernel
theorem dc_M_runoff_14 : decode cb_M_runoff 14 = .ok (.iadd, 1) := by decide +kernel
theorem dc_M_runoff_15 : decode cb_M_runoff 15 = .ok (.istore_n 3, 1) := by decide +kernel
theorem dc_M_runoff_16 : decode cb_M_runoff 16 = .ok (.iload_n 3, 1) := by decide +kernel
theorem dc_M_runoff_17 : decode cb_M_runoff 17 = .ok (.aload_n 0, 1) := by decide +kernel
theorem dc_M_runoff_18 : decode cb_M_runoff 18 = .ok (.getfield 106, 3) := by decide +kernel
theorem dc_M_runoff_21 : decode cb_M_runoff 21 = .ok (.if_icmp .ge 130, 3) := by decide +kernel
theorem dc_M_runoff_24 : decode cb_M_runoff 24 = .ok (.iconst 1, 1) := by decide +kernel
theorem dc_M_runoff_25 : decode cb_M_runoff 25 = .ok (.istore 4, 2) := by decide +kernel
theorem dc_M_runoff_27 : decode cb_M_runoff 27 = .ok (.iconst 0, 1) := by decide +kernel
theorem dc_M_runoff_28 : decode cb_M_runoff 28 = .ok (.istore 5, 2) := by decide +kernel
theorem dc_M_runoff_30 : decode cb_M_runoff 30 = .ok (.iload 5, 2) := by decide +kernel
theorem dc_M_runoff_32 : decode cb_M_runoff 32 = .ok (.aload_n 0, 1) := by decide +kernel
theorem dc_M_runoff_33 : decode cb_M_runoff 33 = .ok (.getfield 106, 3) := by decide +kernel
theorem dc_M_runoff_36 : decode cb_M_runoff 36 = .ok (.if_icmp .ge 66, 3) := by decide +kernel
theorem dc_M_runoff_39 : decode cb_M_runoff 39 = .ok (.aload_n 0, 1) := by decide +kernel
theorem dc_M_runoff_40 : decode cb_M_runoff 40 = .ok (.iconst 0, 1) := by decide +kernel
theorem dc_M_runoff_41 : decode cb_M_runoff 41 = .ok (.iload 5, 2) := by decide +kernel
theorem dc_M_runoff_43 : decode cb_M_runoff 43 = .ok (.invokevirtual 132, 3) := by decide +kernel
theorem dc_M_runoff_46 : decode cb_M_runoff 46 = .ok (.lstore 6, 2) := by decide +kernel
theorem dc_M_runoff_48 : decode cb_M_runoff 48 = .ok (.iload 4, 2) := by decide +kernel
theorem dc_M_runoff_50 : decode cb_M_runoff 50 = .ok (.ifCond .eq 43, 3) := by decide +kernel
theorem dc_M_runoff_53 : decode cb_M_runoff 53 = .ok (.iload 5, 2) := by decide +kernel
theorem dc_M_runoff_55 : decode cb_M_runoff 55 = .ok (.iload_n 2, 1) := by decide +kernel
theorem dc_M_runoff_56 : decode cb_M_runoff 56 = .ok (.if_icmp .eq 33, 3) := by decide +kernel
theorem dc_M_runoff_59 : decode cb_M_runoff 59 = .ok (.iload 5, 2) := by decide +kernel
theorem dc_M_runoff_61 : decode cb_M_runoff 61 = .ok (.iload_n 3, 1) := by decide +kernel
theorem dc_M_runoff_62 : decode cb_M_runoff 62 = .ok (.if_icmp .eq 27, 3) := by decide +kernel
theorem dc_M_runoff_65 : decode cb_M_runoff 65 = .ok (.lload 6, 2) := by decide +kernel
theorem dc_M_runoff_67 : decode cb_M_runoff 67 = .ok (.aload_n 0, 1) := by decide +kernel
theorem dc_M_runoff_68 : decode cb_M_runoff 68 = .ok (.iconst 0, 1) := by decide +kernel
theorem dc_M_runoff_69 : decode cb_M_runoff 69 = .ok (.iload_n 2, 1) := by decide +kernel
theorem dc_M_runoff_70 : decode cb_M_runoff 70 = .ok (.invokevirtual 132, 3) := by decide +kernel
theorem dc_M_runoff_73 : decode cb_M_runoff 73 = .ok (.lcmp, 1) := by decide +kernel
theorem dc_M_runoff_74 : decode cb_M_runoff 74 = .ok (.ifCond .gt 19, 3) := by decide +kernel
theorem dc_M_runoff_77 : decode cb_M_runoff 77 = .ok (.lload 6, 2) := by decide +kernel
theorem dc_M_runoff_79 : decode cb_M_runoff 79 = .ok (.aload_n 0, 1) := by decide +kernel
theorem dc_M_runoff_80 : decode cb_M_runoff 80 = .ok (.iconst 0, 1) := by decide +kernel
theorem dc_M_runoff_81 : decode cb_M_runoff 81 = .ok (.iload_n 3, 1) := by decide +kernel
theorem dc_M_runoff_82 : decode cb_M_runoff 82 = .ok (.invokevirtual 132, 3) := by decide +kernel
theorem dc_M_runoff_85 : decode cb_M_runoff 85 = .ok (.lcmp, 1) := by decide +kernel
theorem dc_M_runoff_86 : decode cb_M_runoff 86 = .ok (.ifCond .gt 7, 3) := by decide +kernel
theorem dc_M_runoff_89 : decode cb_M_runoff 89 = .ok (.iconst 1, 1) := by decide +kernel
theorem dc_M_runoff_90 : decode cb_M_runoff 90 = .ok (.goto 4, 3) := by decide +kernel
theorem dc_M_runoff_93 : decode cb_M_runoff 93 = .ok (.iconst 0, 1) := by decide +kernel
theorem dc_M_runoff_94 : decode cb_M_runoff 94 = .ok (.istore 4, 2) := by decide +kernel
theorem dc_M_runoff_96 : decode cb_M_runoff 96 = .ok (.iinc 5 1, 3) := by decide +kernel
theorem dc_M_runoff_99 : decode cb_M_runoff 99 = .ok (.goto (-69), 3) := by decide +kernel
theorem dc_M_runoff_102 : decode cb_M_runoff 102 = .ok (.iload 4, 2) := by decide +kernel
theorem dc_M_runoff_104 : decode cb_M_runoff 104 = .ok (.ifCond .eq 41, 3) := by decide +kernel
theorem dc_M_runoff_107 : decode cb_M_runoff 107 = .ok (.aload_n 0, 1) := by decide +kernel
theorem dc_M_runoff_108 : decode cb_M_runoff 108 = .ok (.iload_n 3, 1) := by decide +kernel
theorem dc_M_runoff_109 : decode cb_M_runoff 109 = .ok (.iload_n 2, 1) := by decide +kernel
theorem dc_M_runoff_110 : decode cb_M_runoff 110 = .ok (.invokevirtual 126, 3) := by decide +kernel
theorem dc_M_runoff_113 : decode cb_M_runoff 113 = .ok (.ifCond .eq 7, 3) := by decide +kernel
theorem dc_M_runoff_116 : decode cb_M_runoff 116 = .ok (.iload_n 1, 1) := by decide +kernel
theorem dc_M_runoff_117 : decode cb_M_runoff 117 = .ok (.goto 8, 3) := by decide +kernel
theorem dc_M_runoff_120 : decode cb_M_runoff 120 = .ok (.iload_n 1, 1) := by decide +kernel
theorem dc_M_runoff_121 : decode cb_M_runoff 121 = .ok (.iconst 1, 1) := by decide +kernel
theorem dc_M_runoff_122 : decode cb_M_runoff 122 = .ok (.iload_n 2, 1) := by decide +kernel
theorem dc_M_runoff_123 : decode cb_M_runoff 123 = .ok (.ishl, 1) := by decide +kernel
theorem dc_M_runoff_124 : decode cb_M_runoff 124 = .ok (.ior, 1) := by decide +kernel
theorem dc_M_runoff_125 : decode cb_M_runoff 125 = .ok (.istore_n 1, 1) := by decide +kernel
theorem dc_M_runoff_126 : decode cb_M_runoff 126 = .ok (.aload_n 0, 1) := by decide +kernel
theorem dc_M_runoff_127 : decode cb_M_runoff 127 = .ok (.iload_n 2, 1) := by decide +kernel
theorem dc_M_runoff_128 : decode cb_M_runoff 128 = .ok (.iload_n 3, 1) := by decide +kernel
theorem dc_M_runoff_129 : decode cb_M_runoff 129 = .ok (.invokevirtual 126, 3) := by decide +kernel
theorem dc_M_runoff_132 : decode cb_M_runoff 132 = .ok (.ifCond .eq 7, 3) := by decide +kernel
theorem dc_M_runoff_135 : decode cb_M_runoff 135 = .ok (.iload_n 1, 1) := by decide +kernel
theorem dc_M_runoff_136 : decode cb_M_runoff 136 = .ok (.goto 8, 3) := by decide +kernel
theorem dc_M_runoff_139 : decode cb_M_runoff 139 = .ok (.iload_n 1, 1) := by decide +kernel
theorem dc_M_runoff_140 : decode cb_M_runoff 140 = .ok (.iconst 1, 1) := by decide +kernel
theorem dc_M_runoff_141 : decode cb_M_runoff 141 = .ok (.iload_n 3, 1) := by decide +kernel
theorem dc_M_runoff_142 : decode cb_M_runoff 142 = .ok (.ishl, 1) := by decide +kernel
theorem dc_M_runoff_143 : decode cb_M_runoff 143 = .ok (.ior, 1) := by decide +kernel
theorem dc_M_runoff_144 : decode cb_M_runoff 144 = .ok (.istore_n 1, 1) := by decide +kernel
theorem dc_M_runoff_145 : decode cb_M_runoff 145 = .ok (.iinc 3 1, 3) := by decide +kernel
theorem dc_M_runoff_148 : decode cb_M_runoff 148 = .ok (.goto (-132), 3) := by decide +kernel
theorem dc_M_runoff_151 : decode cb_M_runoff 151 = .ok (.iinc 2 1, 3) := by decide +kernel
theorem dc_M_runoff_154 : decode cb_M_runoff 154 = .ok (.goto (-150), 3) := by decide +kernel
theorem dc_M_runoff_157 : decode cb_M_runoff 157 = .ok (.iload_n 1, 1) := by decide +kernel
theorem dc_M_runoff_158 : decode cb_M_runoff 158 = .ok (.ireturn, 1) := by decide +kernel
theorem dc_M_weakest_0 : decode cb_M_weakest 0 = .ok (.iconst 0, 1) := by decide +kernel
theorem dc_M_weakest_1 : decode cb_M_weakest 1 = .ok (.istore_n 2, 1) := by decide +kernel
theorem dc_M_weakest_2 : decode cb_M_weakest 2 = .ok (.iconst 0, 1) := by decide +kernel
theorem dc_M_weakest_3 : decode cb_M_weakest 3 = .ok (.istore_n 3, 1) := by decide +kernel
theorem dc_M_weakest_4 : decode cb_M_weakest 4 = .ok (.iload_n 3, 1) := by decide +kernel
theorem dc_M_weakest_5 : decode cb_M_weakest 5 = .ok (.aload_n 0, 1) := by decide +kernel
theorem dc_M_weakest_6 : decode cb_M_weakest 6 = .ok (.getfield 106, 3) := by decide +kernel
theorem dc_M_weakest_9 : decode cb_M_weakest 9 = .ok (.if_icmp .ge 95, 3) := by decide +kernel
theorem dc_M_weakest_12 : decode cb_M_weakest 12 = .ok (.iload_n 1, 1) := by decide +kernel
theorem dc_M_weakest_13 : decode cb_M_weakest 13 = .ok (.iload_n 3, 1) := by decide +kernel
theorem dc_M_weakest_14 : decode cb_M_weakest 14 = .ok (.ishr, 1) := by decide +kernel
theorem dc_M_weakest_15 : decode cb_M_weakest 15 = .ok (.iconst 1, 1) := by decide +kernel
theorem dc_M_weakest_16 : decode cb_M_weakest 16 = .ok (.iand, 1) := by decide +kernel
theorem dc_M_weakest_17 : decode cb_M_weakest 17 = .ok (.iconst 1, 1) := by decide +kernel
theorem dc_M_weakest_18 : decode cb_M_weakest 18 = .ok (.if_icmp .ne 7, 3) := by decide +kernel
theorem dc_M_weakest_21 : decode cb_M_weakest 21 = .ok (.iconst 1, 1) := by decide +kernel
theorem dc_M_weakest_22 : decode cb_M_weakest 22 = .ok (.goto 4, 3) := by decide +kernel
theorem dc_M_weakest_25 : decode cb_M_weakest 25 = .ok (.iconst 0, 1) := by decide +kernel
theorem dc_M_weakest_26 : decode cb_M_weakest 26 = .ok (.istore 4, 2) := by decide +kernel
theorem dc_M_weakest_28 : decode cb_M_weakest 28 = .ok (.iconst 0, 1) := by decide +kernel
theorem dc_M_weakest_29 : decode cb_M_weakest 29 = .ok (.istore 5, 2) := by decide +kernel
theorem dc_M_weakest_31 : decode cb_M_weakest 31 = .ok (.iload 5, 2) := by decide +kernel
theorem dc_M_weakest_33 : decode cb_M_weakest 33 = .ok (.aload_n 0, 1) := by decide +kernel
theorem dc_M_weakest_34 : decode cb_M_weakest 34 = .ok (.getfield 106, 3) := by decide +kernel
theorem dc_M_weakest_37 : decode cb_M_weakest 37 = .ok (.if_icmp .ge 46, 3) := by decide +kernel
theorem dc_M_weakest_40 : decode cb_M_weakest 40 = .ok (.iload 4, 2) := by decide +kernel
theorem dc_M_weakest_42 : decode cb_M_weakest 42 = .ok (.ifCond .eq 41, 3) := by decide +kernel
theorem dc_M_weakest_45 : decode cb_M_weakest 45 = .ok (.iload_n 1, 1) := by decide +kernel
theorem dc_M_weakest_46 : decode cb_M_weakest 46 = .ok (.iload 5, 2) := by decide +kernel
theorem dc_M_weakest_48 : decode cb_M_weakest 48 = .ok (.ishr, 1) := by decide +kernel
theorem dc_M_weakest_49 : decode cb_M_weakest 49 = .ok (.iconst 1, 1) := by decide +kernel
theorem dc_M_weakest_50 : decode cb_M_weakest 50 = .ok (.iand, 1) := by decide +kernel
theorem dc_M_weakest_51 : decode cb_M_weakest 51 = .ok (.ifCond .eq 19, 3) := by decide +kernel
theorem dc_M_weakest_54 : decode cb_M_weakest 54 = .ok (.aload_n 0, 1) := by decide +kernel
theorem dc_M_weakest_55 : decode cb_M_weakest 55 = .ok (.iload 5, 2) := by decide +kernel
theorem dc_M_weakest_57 : decode cb_M_weakest 57 = .ok (.iload_n 1, 1) := by decide +kernel
theorem dc_M_weakest_58 : decode cb_M_weakest 58 = .ok (.invokevirtual 119, 3) := by decide +kernel
theorem dc_M_weakest_61 : decode cb_M_weakest 61 = .ok (.aload_n 0, 1) := by decide +kernel
theorem dc_M_weakest_62 : decode cb_M_weakest 62 = .ok (.iload_n 3, 1) := by decide +kernel
theorem dc_M_weakest_63 : decode cb_M_weakest 63 = .ok (.iload_n 1, 1) := by decide +kernel
theorem dc_M_weakest_64 : decode cb_M_weakest 64 = .ok (.invokevirtual 119, 3) := by decide +kernel
theorem dc_M_weakest_67 : decode cb_M_weakest 67 = .ok (.if_icmp .lt 7, 3) := by decide +kernel
theorem dc_M_weakest_70 : decode cb_M_weakest 70 = .ok (.iconst 1, 1) := by decide +kernel
theorem dc_M_weakest_71 : decode cb_M_weakest 71 = .ok (.goto 4, 3) := by decide +kernel
theorem dc_M_weakest_74 : decode cb_M_weakest 74 = .ok (.iconst 0, 1) := by decide +kernel
theorem dc_M_weakest_75 : decode cb_M_weakest 75 = .ok (.istore 4, 2) := by decide +kernel
theorem dc_M_weakest_77 : decode cb_M_weakest 77 = .ok (.iinc 5 1, 3) := by decide +kernel
theorem dc_M_weakest_80 : decode cb_M_weakest 80 = .ok (.goto (-49), 3) := by decide +kernel
theorem dc_M_weakest_83 : decode cb_M_weakest 83 = .ok (.iload 4, 2) := by decide +kernel
theorem dc_M_weakest_85 : decode cb_M_weakest 85 = .ok (.ifCond .eq 11, 3) := by decide +kernel
theorem dc_M_weakest_88 : decode cb_M_weakest 88 = .ok (.iload_n 2, 1) := by decide +kernel
theorem dc_M_weakest_89 : decode cb_M_weakest 89 = .ok (.iconst 1, 1) := by decide +kernel
theorem dc_M_weakest_90 : decode cb_M_weakest 90 = .ok (.iload_n 3, 1) := by decide +kernel
theorem dc_M_weakest_91 : decode cb_M_weakest 91 = .ok (.ishl, 1) := by decide +kernel
theorem dc_M_weakest_92 : decode cb_M_weakest 92 = .ok (.ior, 1) := by decide +kernel
theorem dc_M_weakest_93 : decode cb_M_weakest 93 = .ok (.goto 4, 3) := by decide +kernel
theorem dc_M_weakest_96 : decode cb_M_weakest 96 = .ok (.iload_n 2, 1) := by decide +kernel
theorem dc_M_weakest_97 : decode cb_M_weakest 97 = .ok (.istore_n 2, 1) := by decide +kernel
theorem dc_M_weakest_98 : decode cb_M_weakest 98 = .ok (.iinc 3 1, 3) := by decide +kernel
theorem dc_M_weakest_101 : decode cb_M_weakest 101 = .ok (.goto (-97), 3) := by decide +kernel
theorem dc_M_weakest_104 : decode cb_M_weakest 104 = .ok (.iload_n 2, 1) := by decide +kernel
theorem dc_M_weakest_105 : decode cb_M_weakest 105 = .ok (.ireturn, 1) := by decide +kernel
theorem dc_M_single_0 : decode cb_M_single 0 = .ok (.iload_n 0, 1) := by decide +kernel
theorem dc_M_single_1 : decode cb_M_single 1 = .ok (.iload_n 0, 1) := by decide +kernel
theorem dc_M_single_2 : decode cb_M_single 2 = .ok (.iconst 1, 1) := by decide +kernel
theorem dc_M_single_3 : decode cb_M_single 3 = .ok (.isub, 1) := by decide +kernel
theorem dc_M_single_4 : decode cb_M_single 4 = .ok (.iand, 1) := by decide +kernel
theorem dc_M_single_5 : decode cb_M_single 5 = .ok (.ifCond .ne 7, 3) := by decide +kernel
theorem dc_M_single_8 : decode cb_M_single 8 = .ok (.iconst 1, 1) := by decide +kernel
theorem dc_M_single_9 : decode cb_M_single 9 = .ok (.goto 4, 3) := by decide +kernel
theorem dc_M_single_12 : decode cb_M_single 12 = .ok (.iconst 0, 1) := by decide +kernel
theorem dc_M_single_13 : decode cb_M_single 13 = .ok (.ireturn, 1) := by decide +kernel
theorem dc_M_eliminate_0 : decode cb_M_eliminate 0 = .ok (.iconst 0, 1) := by decide +kernel
theorem dc_M_eliminate_1 : decode cb_M_eliminate 1 = .ok (.istore_n 1, 1) := by decide +kernel
theorem dc_M_eliminate_2 : decode cb_M_eliminate 2 = .ok (.aload_n 0, 1) := by decide +kernel
theorem dc_M_eliminate_3 : decode cb_M_eliminate 3 = .ok (.invokevirtual 115, 3) := by decide +kernel
theorem dc_M_eliminate_6 : decode cb_M_eliminate 6 = .ok (.istore_n 2, 1) := by decide +kernel
theorem dc_M_eliminate_7 : decode cb_M_eliminate 7 = .ok (.iload_n 2, 1) := by decide +kernel
theorem dc_M_eliminate_8 : decode cb_M_eliminate 8 = .ok (.ifCond .le 28, 3) := by decide +kernel
theorem dc_M_eliminate_11 : decode cb_M_eliminate 11 = .ok (.aload_n 0, 1) := by decide +kernel
theorem dc_M_eliminate_12 : decode cb_M_eliminate 12 = .ok (.getfield 54, 3) := by decide +kernel
theorem dc_M_eliminate_15 : decode cb_M_eliminate 15 = .ok (.iload_n 2, 1) := by decide +kernel
theorem dc_M_eliminate_16 : decode cb_M_eliminate 16 = .ok (.iload_n 2, 1) := by decide +kernel
theorem dc_M_eliminate_17 : decode cb_M_eliminate 17 = .ok (.aload_n 0, 1) := by decide +kernel
theorem dc_M_eliminate_18 : decode cb_M_eliminate 18 = .ok (.invokevirtual 115, 3) := by decide +kernel
theorem dc_M_eliminate_21 : decode cb_M_eliminate 21 = .ok (.if_icmp .ne 7, 3) := by decide +kernel
theorem dc_M_eliminate_24 : decode cb_M_eliminate 24 = .ok (.iconst 1, 1) := by decide +kernel
theorem dc_M_eliminate_25 : decode cb_M_eliminate 25 = .ok (.goto 4, 3) := by decide +kernel
theorem dc_M_eliminate_28 : decode cb_M_eliminate 28 = .ok (.iconst 0, 1) := by decide +kernel
theorem dc_M_eliminate_29 : decode cb_M_eliminate 29 = .ok (.bastore, 1) := by decide +kernel
theorem dc_M_eliminate_30 : decode cb_M_eliminate 30 = .ok (.iinc 2 (-1), 3) := by decide +kernel
theorem dc_M_eliminate_33 : decode cb_M_eliminate 33 = .ok (.goto (-26), 3) := by decide +kernel
theorem dc_M_eliminate_36 : decode cb_M_eliminate 36 = .ok (.aload_n 0, 1) := by decide +kernel
theorem dc_M_eliminate_37 : decode cb_M_eliminate 37 = .ok (.invokevirtual 115, 3) := by decide +kernel
theorem dc_M_eliminate_40 : decode cb_M_eliminate 40 = .ok (.istore_n 2, 1) := by decide +kernel
theorem dc_M_eliminate_41 : decode cb_M_eliminate 41 = .ok (.iload_n 2, 1) := by decide +kernel
theorem dc_M_eliminate_42 : decode cb_M_eliminate 42 = .ok (.ifCond .le 89, 3) := by decide +kernel
theorem dc_M_eliminate_45 : decode cb_M_eliminate 45 = .ok (.aload_n 0, 1) := by decide +kernel
theorem dc_M_eliminate_46 : decode cb_M_eliminate 46 = .ok (.getfield 54, 3) := by decide +kernel
theorem dc_M_eliminate_49 : decode cb_M_eliminate 49 = .ok (.iload_n 2, 1) := by decide +kernel
theorem dc_M_eliminate_50 : decode cb_M_eliminate 50 = .ok (.baload, 1) := by decide +kernel
theorem dc_M_eliminate_51 : decode cb_M_eliminate 51 = .ok (.ifCond .eq 17, 3) := by decide +kernel
theorem dc_M_eliminate_54 : decode cb_M_eliminate 54 = .ok (.iload_n 2, 1) := by decide +kernel
theorem dc_M_eliminate_55 : decode cb_M_eliminate 55 = .ok (.invokestatic 136, 3) := by decide +kernel
theorem dc_M_eliminate_58 : decode cb_M_eliminate 58 = .ok (.ifCond .eq 10, 3) := by decide +kernel
theorem dc_M_eliminate_61 : decode cb_M_eliminate 61 = .ok (.iload_n 1, 1) := by decide +kernel
theorem dc_M_eliminate_62 : decode cb_M_eliminate 62 = .ok (.iload_n 2, 1) := by decide +kernel
theorem dc_M_eliminate_63 : decode cb_M_eliminate 63 = .ok (.ior, 1) := by decide +kernel
theorem dc_M_eliminate_64 : decode cb_M_eliminate 64 = .ok (.istore_n 1, 1) := by decide +kernel
theorem dc_M_eliminate_65 : decode cb_M_eliminate 65 = .ok (.goto 60, 3) := by decide +kernel
theorem dc_M_eliminate_68 : decode cb_M_eliminate 68 = .ok (.aload_n 0, 1) := by decide +kernel
theorem dc_M_eliminate_69 : decode cb_M_eliminate 69 = .ok (.getfield 54, 3) := by decide +kernel
theorem dc_M_eliminate_72 : decode cb_M_eliminate 72 = .ok (.iload_n 2, 1) := by decide +kernel
theorem dc_M_eliminate_73 : decode cb_M_eliminate 73 = .ok (.baload, 1) := by decide +kernel
theorem dc_M_eliminate_74 : decode cb_M_eliminate 74 = .ok (.ifCond .eq 51, 3) := by decide +kernel
theorem dc_M_eliminate_77 : decode cb_M_eliminate 77 = .ok (.aload_n 0, 1) := by decide +kernel
theorem dc_M_eliminate_78 : decode cb_M_eliminate 78 = .ok (.iload_n 2, 1) := by decide +kernel
theorem dc_M_eliminate_79 : decode cb_M_eliminate 79 = .ok (.invokevirtual 139, 3) := by decide +kernel
theorem dc_M_eliminate_82 : decode cb_M_eliminate 82 = .ok (.istore_n 3, 1) := by decide +kernel
theorem dc_M_eliminate_83 : decode cb_M_eliminate 83 = .ok (.iconst 0, 1) := by decide +kernel
theorem dc_M_eliminate_84 : decode cb_M_eliminate 84 = .ok (.istore 4, 2) := by decide +kernel
theorem dc_M_eliminate_86 : decode cb_M_eliminate 86 = .ok (.iload 4, 2) := by decide +kernel
theorem dc_M_eliminate_88 : decode cb_M_eliminate 88 = .ok (.aload_n 0, 1) := by decide +kernel
theorem dc_M_eliminate_89 : decode cb_M_eliminate 89 = .ok (.getfield 106, 3) := by decide +kernel
theorem dc_M_eliminate_92 : decode cb_M_eliminate 92 = .ok (.if_icmp .ge 33, 3) := by decide +kernel
theorem dc_M_eliminate_95 : decode cb_M_eliminate 95 = .ok (.iload_n 3, 1) := by decide +kernel
theorem dc_M_eliminate_96 : decode cb_M_eliminate 96 = .ok (.iload 4, 2) := by decide +kernel
theorem dc_M_eliminate_98 : decode cb_M_eliminate 98 = .ok (.ishr, 1) := by decide +kernel
theorem dc_M_eliminate_99 : decode cb_M_eliminate 99 = .ok (.iconst 1, 1) := by decide +kernel
theorem dc_M_eliminate_100 : decode cb_M_eliminate 100 = .ok (.iand, 1) := by decide +kernel
theorem dc_M_eliminate_101 : decode cb_M_eliminate 101 = .ok (.iconst 1, 1) := by decide +kernel
theorem dc_M_eliminate_102 : decode cb_M_eliminate 102 = .ok (.if_icmp .ne 17, 3) := by decide +kernel
theorem dc_M_eliminate_105 : decode cb_M_eliminate 105 = .ok (.aload_n 0, 1) := by decide +kernel
theorem dc_M_eliminate_106 : decode cb_M_eliminate 106 = .ok (.getfield 54, 3) := by decide +kernel
theorem dc_M_eliminate_109 : decode cb_M_eliminate 109 = .ok (.iload_n 2, 1) := by decide +kernel
theorem dc_M_eliminate_110 : decode cb_M_eliminate 110 = .ok (.iconst 1, 1) := by decide +kernel
theorem dc_M_eliminate_111 : decode cb_M_eliminate 111 = .ok (.iload 4, 2) := by decide +kernel
theorem dc_M_eliminate_113 : decode cb_M_eliminate 113 = .ok (.ishl, 1) := by decide +kernel
theorem dc_M_eliminate_114 : decode cb_M_eliminate 114 = .ok (.iconst (-1), 1) := by decide +kernel
theorem dc_M_eliminate_115 : decode cb_M_eliminate 115 = .ok (.ixor, 1) := by decide +kernel
theorem dc_M_eliminate_116 : decode cb_M_eliminate 116 = .ok (.iand, 1) := by decide +kernel
theorem dc_M_eliminate_117 : decode cb_M_eliminate 117 = .ok (.iconst 1, 1) := by decide +kernel
theorem dc_M_eliminate_118 : decode cb_M_eliminate 118 = .ok (.bastore, 1) := by decide +kernel
theorem dc_M_eliminate_119 : decode cb_M_eliminate 119 = .ok (.iinc 4 1, 3) := by decide +kernel
theorem dc_M_eliminate_122 : decode cb_M_eliminate 122 = .ok (.goto (-36), 3) := by decide +kernel
theorem dc_M_eliminate_125 : decode cb_M_eliminate 125 = .ok (.iinc 2 (-1), 3) := by decide +kernel
theorem dc_M_eliminate_128 : decode cb_M_eliminate 128 = .ok (.goto (-87), 3) := by decide +kernel
theorem dc_M_eliminate_131 : decode cb_M_eliminate 131 = .ok (.iload_n 1, 1) := by decide +kernel
