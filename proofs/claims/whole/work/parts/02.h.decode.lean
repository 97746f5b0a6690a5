theorem dc_L_weight_21 : decode cb_L_weight 21 = .ok (.iconst 0, 1) := by decide +kernel
theorem dc_L_weight_22 : decode cb_L_weight 22 = .ok (.ireturn, 1) := by decide +kernel
theorem dc_L_winners_0 : decode cb_L_winners 0 = .ok (.aload_n 2, 1) := by decide +kernel
theorem dc_L_winners_1 : decode cb_L_winners 1 = .ok (.iconst 0, 1) := by decide +kernel
theorem dc_L_winners_2 : decode cb_L_winners 2 = .ok (.aload_n 0, 1) := by decide +kernel
theorem dc_L_winners_3 : decode cb_L_winners 3 = .ok (.iload_n 1, 1) := by decide +kernel
theorem dc_L_winners_4 : decode cb_L_winners 4 = .ok (.invokevirtual 38, 3) := by decide +kernel
theorem dc_L_winners_7 : decode cb_L_winners 7 = .ok (.i2l, 1) := by decide +kernel
theorem dc_L_winners_8 : decode cb_L_winners 8 = .ok (.lastore, 1) := by decide +kernel
theorem dc_L_winners_9 : decode cb_L_winners 9 = .ok (.goto 6, 3) := by decide +kernel
theorem dc_L_winners_12 : decode cb_L_winners 12 = .ok (.astore_n 3, 1) := by decide +kernel
theorem dc_L_winners_13 : decode cb_L_winners 13 = .ok (.iconst 1, 1) := by decide +kernel
theorem dc_L_winners_14 : decode cb_L_winners 14 = .ok (.ireturn, 1) := by decide +kernel
theorem dc_L_winners_15 : decode cb_L_winners 15 = .ok (.iconst 0, 1) := by decide +kernel
theorem dc_L_winners_16 : decode cb_L_winners 16 = .ok (.ireturn, 1) := by decide +kernel
theorem dc_L_winner_0 : decode cb_L_winner 0 = .ok (.aload_n 2, 1) := by decide +kernel
theorem dc_L_winner_1 : decode cb_L_winner 1 = .ok (.iconst 0, 1) := by decide +kernel
theorem dc_L_winner_2 : decode cb_L_winner 2 = .ok (.aload_n 0, 1) := by decide +kernel
theorem dc_L_winner_3 : decode cb_L_winner 3 = .ok (.iload_n 1, 1) := by decide +kernel
theorem dc_L_winner_4 : decode cb_L_winner 4 = .ok (.invokevirtual 41, 3) := by decide +kernel
theorem dc_L_winner_7 : decode cb_L_winner 7 = .ok (.i2l, 1) := by decide +kernel
theorem dc_L_winner_8 : decode cb_L_winner 8 = .ok (.lastore, 1) := by decide +kernel
theorem dc_L_winner_9 : decode cb_L_winner 9 = .ok (.goto 6, 3) := by decide +kernel
theorem dc_L_winner_12 : decode cb_L_winner 12 = .ok (.astore_n 3, 1) := by decide +kernel
theorem dc_L_winner_13 : decode cb_L_winner 13 = .ok (.iconst 1, 1) := by decide +kernel
theorem dc_L_winner_14 : decode cb_L_winner 14 = .ok (.ireturn, 1) := by decide +kernel
theorem dc_L_winner_15 : decode cb_L_winner 15 = .ok (.iconst 0, 1) := by decide +kernel
theorem dc_L_winner_16 : decode cb_L_winner 16 = .ok (.ireturn, 1) := by decide +kernel
theorem dc_L_score_0 : decode cb_L_score 0 = .ok (.aload_n 3, 1) := by decide +kernel
theorem dc_L_score_1 : decode cb_L_score 1 = .ok (.iconst 0, 1) := by decide +kernel
theorem dc_L_score_2 : decode cb_L_score 2 = .ok (.aload_n 0, 1) := by decide +kernel
theorem dc_L_score_3 : decode cb_L_score 3 = .ok (.iload_n 1, 1) := by decide +kernel
theorem dc_L_score_4 : decode cb_L_score 4 = .ok (.iload_n 2, 1) := by decide +kernel
theorem dc_L_score_5 : decode cb_L_score 5 = .ok (.invokevirtual 44, 3) := by decide +kernel
theorem dc_L_score_8 : decode cb_L_score 8 = .ok (.lastore, 1) := by decide +kernel
theorem dc_L_score_9 : decode cb_L_score 9 = .ok (.goto 11, 3) := by decide +kernel
theorem dc_L_score_12 : decode cb_L_score 12 = .ok (.astore 4, 2) := by decide +kernel
theorem dc_L_score_14 : decode cb_L_score 14 = .ok (.iconst 1, 1) := by decide +kernel
theorem dc_L_score_15 : decode cb_L_score 15 = .ok (.ireturn, 1) := by decide +kernel
theorem dc_L_score_16 : decode cb_L_score 16 = .ok (.astore 4, 2) := by decide +kernel
theorem dc_L_score_18 : decode cb_L_score 18 = .ok (.iconst 2, 1) := by decide +kernel
theorem dc_L_score_19 : decode cb_L_score 19 = .ok (.ireturn, 1) := by decide +kernel
theorem dc_L_score_20 : decode cb_L_score 20 = .ok (.iconst 0, 1) := by decide +kernel
theorem dc_L_score_21 : decode cb_L_score 21 = .ok (.ireturn, 1) := by decide +kernel
theorem dc_L_pair_0 : decode cb_L_pair 0 = .ok (.aload_n 3, 1) := by decide +kernel
theorem dc_L_pair_1 : decode cb_L_pair 1 = .ok (.iconst 0, 1) := by decide +kernel
theorem dc_L_pair_2 : decode cb_L_pair 2 = .ok (.aload_n 0, 1) := by decide +kernel
theorem dc_L_pair_3 : decode cb_L_pair 3 = .ok (.iload_n 1, 1) := by decide +kernel
theorem dc_L_pair_4 : decode cb_L_pair 4 = .ok (.iload_n 2, 1) := by decide +kernel
theorem dc_L_pair_5 : decode cb_L_pair 5 = .ok (.invokevirtual 48, 3) := by decide +kernel
theorem dc_L_pair_8 : decode cb_L_pair 8 = .ok (.i2l, 1) := by decide +kernel
theorem dc_L_pair_9 : decode cb_L_pair 9 = .ok (.lastore, 1) := by decide +kernel
theorem dc_L_pair_10 : decode cb_L_pair 10 = .ok (.goto 7, 3) := by decide +kernel
theorem dc_L_pair_13 : decode cb_L_pair 13 = .ok (.astore 4, 2) := by decide +kernel
theorem dc_L_pair_15 : decode cb_L_pair 15 = .ok (.iconst 1, 1) := by decide +kernel
theorem dc_L_pair_16 : decode cb_L_pair 16 = .ok (.ireturn, 1) := by decide +kernel
theorem dc_L_pair_17 : decode cb_L_pair 17 = .ok (.iconst 0, 1) := by decide +kernel
theorem dc_L_pair_18 : decode cb_L_pair 18 = .ok (.ireturn, 1) := by decide +kernel
theorem dc_L_path_0 : decode cb_L_path 0 = .ok (.aload_n 3, 1) := by decide +kernel
theorem dc_L_path_1 : decode cb_L_path 1 = .ok (.iconst 0, 1) := by decide +kernel
theorem dc_L_path_2 : decode cb_L_path 2 = .ok (.aload_n 0, 1) := by decide +kernel
theorem dc_L_path_3 : decode cb_L_path 3 = .ok (.iload_n 1, 1) := by decide +kernel
theorem dc_L_path_4 : decode cb_L_path 4 = .ok (.iload_n 2, 1) := by decide +kernel
theorem dc_L_path_5 : decode cb_L_path 5 = .ok (.invokevirtual 51, 3) := by decide +kernel
theorem dc_L_path_8 : decode cb_L_path 8 = .ok (.i2l, 1) := by decide +kernel
theorem dc_L_path_9 : decode cb_L_path 9 = .ok (.lastore, 1) := by decide +kernel
theorem dc_L_path_10 : decode cb_L_path 10 = .ok (.goto 7, 3) := by decide +kernel
theorem dc_L_path_13 : decode cb_L_path 13 = .ok (.astore 4, 2) := by decide +kernel
theorem dc_L_path_15 : decode cb_L_path 15 = .ok (.iconst 1, 1) := by decide +kernel
theorem dc_L_path_16 : decode cb_L_path 16 = .ok (.ireturn, 1) := by decide +kernel
theorem dc_L_path_17 : decode cb_L_path 17 = .ok (.iconst 0, 1) := by decide +kernel
theorem dc_L_path_18 : decode cb_L_path 18 = .ok (.ireturn, 1) := by decide +kernel
theorem dc_L_step_0 : decode cb_L_step 0 = .ok (.aload_n 2, 1) := by decide +kernel
theorem dc_L_step_1 : decode cb_L_step 1 = .ok (.iconst 0, 1) := by decide +kernel
theorem dc_L_step_2 : decode cb_L_step 2 = .ok (.aload_n 0, 1) := by decide +kernel
theorem dc_L_step_3 : decode cb_L_step 3 = .ok (.iload_n 1, 1) := by decide +kernel
theorem dc_L_step_4 : decode cb_L_step 4 = .ok (.invokevirtual 54, 3) := by decide +kernel
theorem dc_L_step_7 : decode cb_L_step 7 = .ok (.i2l, 1) := by decide +kernel
theorem dc_L_step_8 : decode cb_L_step 8 = .ok (.lastore, 1) := by decide +kernel
theorem dc_L_step_9 : decode cb_L_step 9 = .ok (.goto 6, 3) := by decide +kernel
theorem dc_L_step_12 : decode cb_L_step 12 = .ok (.astore_n 3, 1) := by decide +kernel
theorem dc_L_step_13 : decode cb_L_step 13 = .ok (.iconst 1, 1) := by decide +kernel
theorem dc_L_step_14 : decode cb_L_step 14 = .ok (.ireturn, 1) := by decide +kernel
theorem dc_L_step_15 : decode cb_L_step 15 = .ok (.iconst 0, 1) := by decide +kernel
theorem dc_L_step_16 : decode cb_L_step 16 = .ok (.ireturn, 1) := by decide +kernel
theorem dc_L_change_0 : decode cb_L_change 0 = .ok (.aload 4, 2) := by decide +kernel
theorem dc_L_change_2 : decode cb_L_change 2 = .ok (.iconst 0, 1) := by decide +kernel
theorem dc_L_change_3 : decode cb_L_change 3 = .ok (.aload_n 0, 1) := by decide +kernel
theorem dc_L_change_4 : decode cb_L_change 4 = .ok (.iload_n 1, 1) := by decide +kernel
theorem dc_L_change_5 : decode cb_L_change 5 = .ok (.iload_n 2, 1) := by decide +kernel
theorem dc_L_change_6 : decode cb_L_change 6 = .ok (.iload_n 3, 1) := by decide +kernel
theorem dc_L_change_7 : decode cb_L_change 7 = .ok (.invokevirtual 57, 3) := by decide +kernel
theorem dc_L_change_10 : decode cb_L_change 10 = .ok (.i2l, 1) := by decide +kernel
theorem dc_L_change_11 : decode cb_L_change 11 = .ok (.lastore, 1) := by decide +kernel
theorem dc_L_change_12 : decode cb_L_change 12 = .ok (.goto 11, 3) := by decide +kernel
theorem dc_L_change_15 : decode cb_L_change 15 = .ok (.astore 5, 2) := by decide +kernel
theorem dc_L_change_17 : decode cb_L_change 17 = .ok (.iconst 1, 1) := by decide +kernel
theorem dc_L_change_18 : decode cb_L_change 18 = .ok (.ireturn, 1) := by decide +kernel
theorem dc_L_change_19 : decode cb_L_change 19 = .ok (.astore 5, 2) := by decide +kernel
theorem dc_L_change_21 : decode cb_L_change 21 = .ok (.iconst 2, 1) := by decide +kernel
theorem dc_L_change_22 : decode cb_L_change 22 = .ok (.ireturn, 1) := by decide +kernel
theorem dc_L_change_23 : decode cb_L_change 23 = .ok (.iconst 0, 1) := by decide +kernel
theorem dc_L_change_24 : decode cb_L_change 24 = .ok (.ireturn, 1) := by decide +kernel
theorem dc_L_property_0 : decode cb_L_property 0 = .ok (.aload_n 3, 1) := by decide +kernel
theorem dc_L_property_1 : decode cb_L_property 1 = .ok (.iconst 0, 1) := by decide +kernel
theorem dc_L_property_2 : decode cb_L_property 2 = .ok (.aload_n 0, 1) := by decide +kernel
theorem dc_L_property_3 : decode cb_L_property 3 = .ok (.iload_n 1, 1) := by decide +kernel
theorem dc_L_property_4 : decode cb_L_property 4 = .ok (.iload_n 2, 1) := by decide +kernel
theorem dc_L_property_5 : decode cb_L_property 5 = .ok (.invokevirtual 61, 3) := by decide +kernel
theorem dc_L_property_8 : decode cb_L_property 8 = .ok (.ifCond .eq 7, 3) := by decide +kernel
theorem dc_L_property_11 : decode cb_L_property 11 = .ok (.lconst 1, 1) := by decide +kernel
theorem dc_L_property_12 : decode cb_L_property 12 = .ok (.goto 4, 3) := by decide +kernel
theorem dc_L_property_15 : decode cb_L_property 15 = .ok (.lconst 0, 1) := by decide +kernel
theorem dc_L_property_16 : decode cb_L_property 16 = .ok (.lastore, 1) := by decide +kernel
theorem dc_L_property_17 : decode cb_L_property 17 = .ok (.goto 7, 3) := by decide +kernel
theorem dc_L_property_20 : decode cb_L_property 20 = .ok (.astore 4, 2) := by decide +kernel
theorem dc_L_property_22 : decode cb_L_property 22 = .ok (.iconst 1, 1) := by decide +kernel
theorem dc_L_property_23 : decode cb_L_property 23 = .ok (.ireturn, 1) := by decide +kernel
theorem dc_L_property_24 : decode cb_L_property 24 = .ok (.iconst 0, 1) := by decide +kernel
theorem dc_L_property_25 : decode cb_L_property 25 = .ok (.ireturn, 1) := by decide +kernel
theorem dc_L_circle_0 : decode cb_L_circle 0 = .ok (.aload_n 2, 1) := by decide +kernel
theorem dc_L_circle_1 : decode cb_L_circle 1 = .ok (.iconst 0, 1) := by decide +kernel
theorem dc_L_circle_2 : decode cb_L_circle 2 = .ok (.aload_n 0, 1) := by decide +kernel
theorem dc_L_circle_3 : decode cb_L_circle 3 = .ok (.iload_n 1, 1) := by decide +kernel
theorem dc_L_circle_4 : decode cb_L_circle 4 = .ok (.invokevirtual 65, 3) := by decide +kernel
theorem dc_L_circle_7 : decode cb_L_circle 7 = .ok (.i2l, 1) := by decide +kernel
theorem dc_L_circle_8 : decode cb_L_circle 8 = .ok (.lastore, 1) := by decide +kernel
theorem dc_L_circle_9 : decode cb_L_circle 9 = .ok (.goto 6, 3) := by decide +kernel
theorem dc_L_circle_12 : decode cb_L_circle 12 = .ok (.astore_n 3, 1) := by decide +kernel
theorem dc_L_circle_13 : decode cb_L_circle 13 = .ok (.iconst 1, 1) := by decide +kernel
theorem dc_L_circle_14 : decode cb_L_circle 14 = .ok (.ireturn, 1) := by decide +kernel
theorem dc_L_circle_15 : decode cb_L_circle 15 = .ok (.iconst 0, 1) := by decide +kernel
theorem dc_L_circle_16 : decode cb_L_circle 16 = .ok (.ireturn, 1) := by decide +kernel
theorem dc_L_clones_0 : decode cb_L_clones 0 = .ok (.aload_n 2, 1) := by decide +kernel
theorem dc_L_clones_1 : decode cb_L_clones 1 = .ok (.iconst 0, 1) := by decide +kernel
theorem dc_L_clones_2 : decode cb_L_clones 2 = .ok (.aload_n 0, 1) := by decide +kernel
theorem dc_L_clones_3 : decode cb_L_clones 3 = .ok (.iload_n 1, 1) := by decide +kernel
theorem dc_L_clones_4 : decode cb_L_clones 4 = .ok (.invokevirtual 68, 3) := by decide +kernel
theorem dc_L_clones_7 : decode cb_L_clones 7 = .ok (.ifCond .eq 7, 3) := by decide +kernel
theorem dc_L_clones_10 : decode cb_L_clones 10 = .ok (.lconst 1, 1) := by decide +kernel
theorem dc_L_clones_11 : decode cb_L_clones 11 = .ok (.goto 4, 3) := by decide +kernel
theorem dc_L_clones_14 : decode cb_L_clones 14 = .ok (.lconst 0, 1) := by decide +kernel
theorem dc_L_clones_15 : decode cb_L_clones 15 = .ok (.lastore, 1) := by decide +kernel
theorem dc_L_clones_16 : decode cb_L_clones 16 = .ok (.goto 6, 3) := by decide +kernel
theorem dc_L_clones_19 : decode cb_L_clones 19 = .ok (.astore_n 3, 1) := by decide +kernel
theorem dc_L_clones_20 : decode cb_L_clones 20 = .ok (.iconst 1, 1) := by decide +kernel
theorem dc_L_clones_21 : decode cb_L_clones 21 = .ok (.ireturn, 1) := by decide +kernel
theorem dc_L_clones_22 : decode cb_L_clones 22 = .ok (.iconst 0, 1) := by decide +kernel
theorem dc_L_clones_23 : decode cb_L_clones 23 = .ok (.ireturn, 1) := by decide +kernel
theorem dc_L_count_0 : decode cb_L_count 0 = .ok (.aload_n 2, 1) := by decide +kernel
theorem dc_L_count_1 : decode cb_L_count 1 = .ok (.iconst 0, 1) := by decide +kernel
theorem dc_L_count_2 : decode cb_L_count 2 = .ok (.aload_n 0, 1) := by decide +kernel
theorem dc_L_count_3 : decode cb_L_count 3 = .ok (.iload_n 1, 1) := by decide +kernel
theorem dc_L_count_4 : decode cb_L_count 4 = .ok (.invokevirtual 72, 3) := by decide +kernel
theorem dc_L_count_7 : decode cb_L_count 7 = .ok (.i2l, 1) := by decide +kernel
theorem dc_L_count_8 : decode cb_L_count 8 = .ok (.lastore, 1) := by decide +kernel
theorem dc_L_count_9 : decode cb_L_count 9 = .ok (.goto 6, 3) := by decide +kernel
theorem dc_L_count_12 : decode cb_L_count 12 = .ok (.astore_n 3, 1) := by decide +kernel
theorem dc_L_count_13 : decode cb_L_count 13 = .ok (.iconst 1, 1) := by decide +kernel
theorem dc_L_count_14 : decode cb_L_count 14 = .ok (.ireturn, 1) := by decide +kernel
theorem dc_L_count_15 : decode cb_L_count 15 = .ok (.iconst 0, 1) := by decide +kernel
theorem dc_L_count_16 : decode cb_L_count 16 = .ok (.ireturn, 1) := by decide +kernel
theorem dc_JI_bitCount_0 : decode cb_JI_bitCount 0 = .ok (.iload_n 0, 1) := by decide +kernel
theorem dc_JI_bitCount_1 : decode cb_JI_bitCount 1 = .ok (.iload_n 0, 1) := by decide +kernel
theorem dc_JI_bitCount_2 : decode cb_JI_bitCount 2 = .ok (.iconst 1, 1) := by decide +kernel
theorem dc_JI_bitCount_3 : decode cb_JI_bitCount 3 = .ok (.iushr, 1) := by decide +kernel
theorem dc_JI_bitCount_4 : decode cb_JI_bitCount 4 = .ok (.ldc_w 265, 3) := by decide +kernel
theorem dc_JI_bitCount_7 : decode cb_JI_bitCount 7 = .ok (.iand, 1) := by decide +kernel
theorem dc_JI_bitCount_8 : decode cb_JI_bitCount 8 = .ok (.isub, 1) := by decide +kernel
theorem dc_JI_bitCount_9 : decode cb_JI_bitCount 9 = .ok (.istore_n 0, 1) := by decide +kernel
theorem dc_JI_bitCount_10 : decode cb_JI_bitCount 10 = .ok (.iload_n 0, 1) := by decide +kernel
theorem dc_JI_bitCount_11 : decode cb_JI_bitCount 11 = .ok (.ldc_w 266, 3) := by decide +kernel
theorem dc_JI_bitCount_14 : decode cb_JI_bitCount 14 = .ok (.iand, 1) := by decide +kernel
theorem dc_JI_bitCount_15 : decode cb_JI_bitCount 15 = .ok (.iload_n 0, 1) := by decide +kernel
theorem dc_JI_bitCount_16 : decode cb_JI_bitCount 16 = .ok (.iconst 2, 1) := by decide +kernel
theorem dc_JI_bitCount_17 : decode cb_JI_bitCount 17 = .ok (.iushr, 1) := by decide +kernel
theorem dc_JI_bitCount_18 : decode cb_JI_bitCount 18 = .ok (.ldc_w 266, 3) := by decide +kernel
theorem dc_JI_bitCount_21 : decode cb_JI_bitCount 21 = .ok (.iand, 1) := by decide +kernel
theorem dc_JI_bitCount_22 : decode cb_JI_bitCount 22 = .ok (.iadd, 1) := by decide +kernel
theorem dc_JI_bitCount_23 : decode cb_JI_bitCount 23 = .ok (.istore_n 0, 1) := by decide +kernel
theorem dc_JI_bitCount_24 : decode cb_JI_bitCount 24 = .ok (.iload_n 0, 1) := by decide +kernel
theorem dc_JI_bitCount_25 : decode cb_JI_bitCount 25 = .ok (.iload_n 0, 1) := by decide +kernel
theorem dc_JI_bitCount_26 : decode cb_JI_bitCount 26 = .ok (.iconst 4, 1) := by decide +kernel
theorem dc_JI_bitCount_27 : decode cb_JI_bitCount 27 = .ok (.iushr, 1) := by decide +kernel
theorem dc_JI_bitCount_28 : decode cb_JI_bitCount 28 = .ok (.iadd, 1) := by decide +kernel
theorem dc_JI_bitCount_29 : decode cb_JI_bitCount 29 = .ok (.ldc_w 267, 3) := by decide +kernel
theorem dc_JI_bitCount_32 : decode cb_JI_bitCount 32 = .ok (.iand, 1) := by decide +kernel
theorem dc_JI_bitCount_33 : decode cb_JI_bitCount 33 = .ok (.istore_n 0, 1) := by decide +kernel
theorem dc_JI_bitCount_34 : decode cb_JI_bitCount 34 = .ok (.iload_n 0, 1) := by decide +kernel
theorem dc_JI_bitCount_35 : decode cb_JI_bitCount 35 = .ok (.iload_n 0, 1) := by decide +kernel
theorem dc_JI_bitCount_36 : decode cb_JI_bitCount 36 = .ok (.bipush 8, 2) := by decide +kernel
theorem dc_JI_bitCount_38 : decode cb_JI_bitCount 38 = .ok (.iushr, 1) := by decide +kernel
theorem dc_JI_bitCount_39 : decode cb_JI_bitCount 39 = .ok (.iadd, 1) := by decide +kernel
theorem dc_JI_bitCount_40 : decode cb_JI_bitCount 40 = .ok (.istore_n 0, 1) := by decide +kernel
theorem dc_JI_bitCount_41 : decode cb_JI_bitCount 41 = .ok (.iload_n 0, 1) := by decide +kernel
theorem dc_JI_bitCount_42 : decode cb_JI_bitCount 42 = .ok (.iload_n 0, 1) := by decide +kernel
theorem dc_JI_bitCount_43 : decode cb_JI_bitCount 43 = .ok (.bipush 16, 2) := by decide +kernel
theorem dc_JI_bitCount_45 : decode cb_JI_bitCount 45 = .ok (.iushr, 1) := by decide +kernel
theorem dc_JI_bitCount_46 : decode cb_JI_bitCount 46 = .ok (.iadd, 1) := by decide +kernel
theorem dc_JI_bitCount_47 : decode cb_JI_bitCount 47 = .ok (.istore_n 0, 1) := by decide +kernel
theorem dc_JI_bitCount_48 : decode cb_JI_bitCount 48 = .ok (.iload_n 0, 1) := by decide +kernel
theorem dc_JI_bitCount_49 : decode cb_JI_bitCount 49 = .ok (.bipush 63, 2) := by decide +kernel
theorem dc_JI_bitCount_51 : decode cb_JI_bitCount 51 = .ok (.iand, 1) := by decide +kernel
theorem dc_JI_bitCount_52 : decode cb_JI_bitCount 52 = .ok (.ireturn, 1) := by decide +kernel
theorem dc_JM_max_0 : decode cb_JM_max 0 = .ok (.iload_n 0, 1) := by decide +kernel
theorem dc_JM_max_1 : decode cb_JM_max 1 = .ok (.iload_n 1, 1) := by decide +kernel
theorem dc_JM_max_2 : decode cb_JM_max 2 = .ok (.if_icmp .lt 7, 3) := by decide +kernel
theorem dc_JM_max_5 : decode cb_JM_max 5 = .ok (.iload_n 0, 1) := by decide +kernel
theorem dc_JM_max_6 : decode cb_JM_max 6 = .ok (.goto 4, 3) := by decide +kernel
theorem dc_JM_max_9 : decode cb_JM_max 9 = .ok (.iload_n 1, 1) := by decide +kernel
theorem dc_JM_max_10 : decode cb_JM_max 10 = .ok (.ireturn, 1) := by decide +kernel
theorem dc_JM_min_0 : decode cb_JM_min 0 = .ok (.iload_n 0, 1) := by decide +kernel
theorem dc_JM_min_1 : decode cb_JM_min 1 = .ok (.iload_n 1, 1) := by decide +kernel
theorem dc_JM_min_2 : decode cb_JM_min 2 = .ok (.if_icmp .gt 7, 3) := by decide +kernel
theorem dc_JM_min_5 : decode cb_JM_min 5 = .ok (.iload_n 0, 1) := by decide +kernel
theorem dc_JM_min_6 : decode cb_JM_min 6 = .ok (.goto 4, 3) := by decide +kernel
theorem dc_JM_min_9 : decode cb_JM_min 9 = .ok (.iload_n 1, 1) := by decide +kernel
theorem dc_JM_min_10 : decode cb_JM_min 10 = .ok (.ireturn, 1) := by decide +kernel
theorem dc_JA_fill_0 : decode cb_JA_fill 0 = .ok (.iconst 0, 1) := by decide +kernel
theorem dc_JA_fill_1 : decode cb_JA_fill 1 = .ok (.istore_n 2, 1) := by decide +kernel
theorem dc_JA_fill_2 : decode cb_JA_fill 2 = .ok (.aload_n 0, 1) := by decide +kernel
theorem dc_JA_fill_3 : decode cb_JA_fill 3 = .ok (.arraylength, 1) := by decide +kernel
theorem dc_JA_fill_4 : decode cb_JA_fill 4 = .ok (.istore_n 3, 1) := by decide +kernel
theorem dc_JA_fill_5 : decode cb_JA_fill 5 = .ok (.iload_n 2, 1) := by decide +kernel
theorem dc_JA_fill_6 : decode cb_JA_fill 6 = .ok (.iload_n 3, 1) := by decide +kernel
theorem dc_JA_fill_7 : decode cb_JA_fill 7 = .ok (.if_icmp .ge 13, 3) := by decide +kernel
theorem dc_JA_fill_10 : decode cb_JA_fill 10 = .ok (.aload_n 0, 1) := by decide +kernel
theorem dc_JA_fill_11 : decode cb_JA_fill 11 = .ok (.iload_n 2, 1) := by decide +kernel
theorem dc_JA_fill_12 : decode cb_JA_fill 12 = .ok (.iload_n 1, 1) := by decide +kernel
theorem dc_JA_fill_13 : decode cb_JA_fill 13 = .ok (.iastore, 1) := by decide +kernel
theorem dc_JA_fill_14 : decode cb_JA_fill 14 = .ok (.iinc 2 1, 3) := by decide +kernel
theorem dc_JA_fill_17 : decode cb_JA_fill 17 = .ok (.goto (-12), 3) := by decide +kernel
theorem dc_JA_fill_20 : decode cb_JA_fill 20 = .ok (.return_, 1) := by decide +kernel
