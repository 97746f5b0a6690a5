theorem dc_D_init_0 : decode cb_D_init 0 = .ok (.aload_n 0, 1) := by decide +kernel
theorem dc_D_init_1 : decode cb_D_init 1 = .ok (.invokespecial 3, 3) := by decide +kernel
theorem dc_D_init_4 : decode cb_D_init 4 = .ok (.aload_n 0, 1) := by decide +kernel
theorem dc_D_init_5 : decode cb_D_init 5 = .ok (.new 9, 3) := by decide +kernel
theorem dc_D_init_8 : decode cb_D_init 8 = .ok (.dup, 1) := by decide +kernel
theorem dc_D_init_9 : decode cb_D_init 9 = .ok (.invokespecial 11, 3) := by decide +kernel
theorem dc_D_init_12 : decode cb_D_init 12 = .ok (.putfield 12, 3) := by decide +kernel
theorem dc_D_init_15 : decode cb_D_init 15 = .ok (.aload_n 0, 1) := by decide +kernel
theorem dc_D_init_16 : decode cb_D_init 16 = .ok (.getfield 12, 3) := by decide +kernel
theorem dc_D_init_19 : decode cb_D_init 19 = .ok (.iconst 4, 1) := by decide +kernel
theorem dc_D_init_20 : decode cb_D_init 20 = .ok (.invokevirtual 16, 3) := by decide +kernel
theorem dc_D_init_23 : decode cb_D_init 23 = .ok (.aload_n 0, 1) := by decide +kernel
theorem dc_D_init_24 : decode cb_D_init 24 = .ok (.new 20, 3) := by decide +kernel
theorem dc_D_init_27 : decode cb_D_init 27 = .ok (.dup, 1) := by decide +kernel
theorem dc_D_init_28 : decode cb_D_init 28 = .ok (.invokespecial 22, 3) := by decide +kernel
theorem dc_D_init_31 : decode cb_D_init 31 = .ok (.putfield 23, 3) := by decide +kernel
theorem dc_D_init_34 : decode cb_D_init 34 = .ok (.aload_n 0, 1) := by decide +kernel
theorem dc_D_init_35 : decode cb_D_init 35 = .ok (.aload_n 0, 1) := by decide +kernel
theorem dc_D_init_36 : decode cb_D_init 36 = .ok (.getfield 23, 3) := by decide +kernel
theorem dc_D_init_39 : decode cb_D_init 39 = .ok (.getfield 27, 3) := by decide +kernel
theorem dc_D_init_42 : decode cb_D_init 42 = .ok (.putfield 31, 3) := by decide +kernel
theorem dc_D_init_45 : decode cb_D_init 45 = .ok (.aload_n 0, 1) := by decide +kernel
theorem dc_D_init_46 : decode cb_D_init 46 = .ok (.iconst (-1), 1) := by decide +kernel
theorem dc_D_init_47 : decode cb_D_init 47 = .ok (.putfield 32, 3) := by decide +kernel
theorem dc_D_init_50 : decode cb_D_init 50 = .ok (.aload_n 0, 1) := by decide +kernel
theorem dc_D_init_51 : decode cb_D_init 51 = .ok (.iconst (-1), 1) := by decide +kernel
theorem dc_D_init_52 : decode cb_D_init 52 = .ok (.putfield 36, 3) := by decide +kernel
theorem dc_D_init_55 : decode cb_D_init 55 = .ok (.return_, 1) := by decide +kernel
theorem dc_D_candidates_0 : decode cb_D_candidates 0 = .ok (.iload_n 1, 1) := by decide +kernel
theorem dc_D_candidates_1 : decode cb_D_candidates 1 = .ok (.iconst 2, 1) := by decide +kernel
theorem dc_D_candidates_2 : decode cb_D_candidates 2 = .ok (.if_icmp .lt 13, 3) := by decide +kernel
theorem dc_D_candidates_5 : decode cb_D_candidates 5 = .ok (.iload_n 1, 1) := by decide +kernel
theorem dc_D_candidates_6 : decode cb_D_candidates 6 = .ok (.bipush 7, 2) := by decide +kernel
theorem dc_D_candidates_8 : decode cb_D_candidates 8 = .ok (.if_icmp .gt 7, 3) := by decide +kernel
theorem dc_D_candidates_11 : decode cb_D_candidates 11 = .ok (.iconst 1, 1) := by decide +kernel
theorem dc_D_candidates_12 : decode cb_D_candidates 12 = .ok (.goto 4, 3) := by decide +kernel
theorem dc_D_candidates_15 : decode cb_D_candidates 15 = .ok (.iconst 0, 1) := by decide +kernel
theorem dc_D_candidates_16 : decode cb_D_candidates 16 = .ok (.invokestatic 39, 3) := by decide +kernel
theorem dc_D_candidates_19 : decode cb_D_candidates 19 = .ok (.aload_n 0, 1) := by decide +kernel
theorem dc_D_candidates_20 : decode cb_D_candidates 20 = .ok (.getfield 12, 3) := by decide +kernel
theorem dc_D_candidates_23 : decode cb_D_candidates 23 = .ok (.getfield 43, 3) := by decide +kernel
theorem dc_D_candidates_26 : decode cb_D_candidates 26 = .ok (.istore_n 2, 1) := by decide +kernel
theorem dc_D_candidates_27 : decode cb_D_candidates 27 = .ok (.aload_n 0, 1) := by decide +kernel
theorem dc_D_candidates_28 : decode cb_D_candidates 28 = .ok (.getfield 12, 3) := by decide +kernel
theorem dc_D_candidates_31 : decode cb_D_candidates 31 = .ok (.iload_n 1, 1) := by decide +kernel
theorem dc_D_candidates_32 : decode cb_D_candidates 32 = .ok (.invokevirtual 16, 3) := by decide +kernel
theorem dc_D_candidates_35 : decode cb_D_candidates 35 = .ok (.iload_n 2, 1) := by decide +kernel
theorem dc_D_candidates_36 : decode cb_D_candidates 36 = .ok (.ireturn, 1) := by decide +kernel
theorem dc_D_ballot_0 : decode cb_D_ballot 0 = .ok (.iload_n 1, 1) := by decide +kernel
theorem dc_D_ballot_1 : decode cb_D_ballot 1 = .ok (.aload_n 0, 1) := by decide +kernel
theorem dc_D_ballot_2 : decode cb_D_ballot 2 = .ok (.getfield 12, 3) := by decide +kernel
theorem dc_D_ballot_5 : decode cb_D_ballot 5 = .ok (.getfield 43, 3) := by decide +kernel
theorem dc_D_ballot_8 : decode cb_D_ballot 8 = .ok (.invokestatic 46, 3) := by decide +kernel
theorem dc_D_ballot_11 : decode cb_D_ballot 11 = .ok (.ifCond .eq 14, 3) := by decide +kernel
theorem dc_D_ballot_14 : decode cb_D_ballot 14 = .ok (.iload_n 2, 1) := by decide +kernel
theorem dc_D_ballot_15 : decode cb_D_ballot 15 = .ok (.invokestatic 52, 3) := by decide +kernel
theorem dc_D_ballot_18 : decode cb_D_ballot 18 = .ok (.ifCond .eq 7, 3) := by decide +kernel
theorem dc_D_ballot_21 : decode cb_D_ballot 21 = .ok (.iconst 1, 1) := by decide +kernel
theorem dc_D_ballot_22 : decode cb_D_ballot 22 = .ok (.goto 4, 3) := by decide +kernel
theorem dc_D_ballot_25 : decode cb_D_ballot 25 = .ok (.iconst 0, 1) := by decide +kernel
theorem dc_D_ballot_26 : decode cb_D_ballot 26 = .ok (.invokestatic 39, 3) := by decide +kernel
theorem dc_D_ballot_29 : decode cb_D_ballot 29 = .ok (.aload_n 0, 1) := by decide +kernel
theorem dc_D_ballot_30 : decode cb_D_ballot 30 = .ok (.getfield 12, 3) := by decide +kernel
theorem dc_D_ballot_33 : decode cb_D_ballot 33 = .ok (.getfield 56, 3) := by decide +kernel
theorem dc_D_ballot_36 : decode cb_D_ballot 36 = .ok (.bipush 20, 2) := by decide +kernel
theorem dc_D_ballot_38 : decode cb_D_ballot 38 = .ok (.if_icmp .lt 11, 3) := by decide +kernel
theorem dc_D_ballot_41 : decode cb_D_ballot 41 = .ok (.new 59, 3) := by decide +kernel
theorem dc_D_ballot_44 : decode cb_D_ballot 44 = .ok (.dup, 1) := by decide +kernel
theorem dc_D_ballot_45 : decode cb_D_ballot 45 = .ok (.invokespecial 61, 3) := by decide +kernel
theorem dc_D_ballot_48 : decode cb_D_ballot 48 = .ok (.athrow, 1) := by decide +kernel
theorem dc_D_ballot_49 : decode cb_D_ballot 49 = .ok (.aload_n 0, 1) := by decide +kernel
theorem dc_D_ballot_50 : decode cb_D_ballot 50 = .ok (.getfield 12, 3) := by decide +kernel
theorem dc_D_ballot_53 : decode cb_D_ballot 53 = .ok (.iload_n 1, 1) := by decide +kernel
theorem dc_D_ballot_54 : decode cb_D_ballot 54 = .ok (.iload_n 2, 1) := by decide +kernel
theorem dc_D_ballot_55 : decode cb_D_ballot 55 = .ok (.invokevirtual 62, 3) := by decide +kernel
theorem dc_D_ballot_58 : decode cb_D_ballot 58 = .ok (.ireturn, 1) := by decide +kernel
theorem dc_D_amount_0 : decode cb_D_amount 0 = .ok (.aload_n 0, 1) := by decide +kernel
theorem dc_D_amount_1 : decode cb_D_amount 1 = .ok (.iload_n 1, 1) := by decide +kernel
theorem dc_D_amount_2 : decode cb_D_amount 2 = .ok (.invokevirtual 66, 3) := by decide +kernel
theorem dc_D_amount_5 : decode cb_D_amount 5 = .ok (.invokestatic 69, 3) := by decide +kernel
theorem dc_D_amount_8 : decode cb_D_amount 8 = .ok (.iload_n 2, 1) := by decide +kernel
theorem dc_D_amount_9 : decode cb_D_amount 9 = .ok (.invokestatic 52, 3) := by decide +kernel
theorem dc_D_amount_12 : decode cb_D_amount 12 = .ok (.invokestatic 39, 3) := by decide +kernel
theorem dc_D_amount_15 : decode cb_D_amount 15 = .ok (.aload_n 0, 1) := by decide +kernel
theorem dc_D_amount_16 : decode cb_D_amount 16 = .ok (.getfield 12, 3) := by decide +kernel
theorem dc_D_amount_19 : decode cb_D_amount 19 = .ok (.getfield 72, 3) := by decide +kernel
theorem dc_D_amount_22 : decode cb_D_amount 22 = .ok (.iload_n 1, 1) := by decide +kernel
theorem dc_D_amount_23 : decode cb_D_amount 23 = .ok (.iaload, 1) := by decide +kernel
theorem dc_D_amount_24 : decode cb_D_amount 24 = .ok (.istore_n 3, 1) := by decide +kernel
theorem dc_D_amount_25 : decode cb_D_amount 25 = .ok (.aload_n 0, 1) := by decide +kernel
theorem dc_D_amount_26 : decode cb_D_amount 26 = .ok (.getfield 12, 3) := by decide +kernel
theorem dc_D_amount_29 : decode cb_D_amount 29 = .ok (.iload_n 1, 1) := by decide +kernel
theorem dc_D_amount_30 : decode cb_D_amount 30 = .ok (.aload_n 0, 1) := by decide +kernel
theorem dc_D_amount_31 : decode cb_D_amount 31 = .ok (.getfield 12, 3) := by decide +kernel
theorem dc_D_amount_34 : decode cb_D_amount 34 = .ok (.getfield 76, 3) := by decide +kernel
theorem dc_D_amount_37 : decode cb_D_amount 37 = .ok (.iload_n 1, 1) := by decide +kernel
theorem dc_D_amount_38 : decode cb_D_amount 38 = .ok (.iaload, 1) := by decide +kernel
theorem dc_D_amount_39 : decode cb_D_amount 39 = .ok (.iload_n 2, 1) := by decide +kernel
theorem dc_D_amount_40 : decode cb_D_amount 40 = .ok (.invokevirtual 79, 3) := by decide +kernel
theorem dc_D_amount_43 : decode cb_D_amount 43 = .ok (.iload_n 3, 1) := by decide +kernel
theorem dc_D_amount_44 : decode cb_D_amount 44 = .ok (.ireturn, 1) := by decide +kernel
theorem dc_D_drop_0 : decode cb_D_drop 0 = .ok (.aload_n 0, 1) := by decide +kernel
theorem dc_D_drop_1 : decode cb_D_drop 1 = .ok (.iload_n 1, 1) := by decide +kernel
theorem dc_D_drop_2 : decode cb_D_drop 2 = .ok (.invokevirtual 66, 3) := by decide +kernel
theorem dc_D_drop_5 : decode cb_D_drop 5 = .ok (.invokestatic 69, 3) := by decide +kernel
theorem dc_D_drop_8 : decode cb_D_drop 8 = .ok (.aload_n 0, 1) := by decide +kernel
theorem dc_D_drop_9 : decode cb_D_drop 9 = .ok (.getfield 12, 3) := by decide +kernel
theorem dc_D_drop_12 : decode cb_D_drop 12 = .ok (.iload_n 1, 1) := by decide +kernel
theorem dc_D_drop_13 : decode cb_D_drop 13 = .ok (.invokevirtual 83, 3) := by decide +kernel
theorem dc_D_drop_16 : decode cb_D_drop 16 = .ok (.aload_n 0, 1) := by decide +kernel
theorem dc_D_drop_17 : decode cb_D_drop 17 = .ok (.getfield 12, 3) := by decide +kernel
theorem dc_D_drop_20 : decode cb_D_drop 20 = .ok (.getfield 56, 3) := by decide +kernel
theorem dc_D_drop_23 : decode cb_D_drop 23 = .ok (.ireturn, 1) := by decide +kernel
theorem dc_D_tieOrder_0 : decode cb_D_tieOrder 0 = .ok (.iload_n 1, 1) := by decide +kernel
theorem dc_D_tieOrder_1 : decode cb_D_tieOrder 1 = .ok (.aload_n 0, 1) := by decide +kernel
theorem dc_D_tieOrder_2 : decode cb_D_tieOrder 2 = .ok (.getfield 12, 3) := by decide +kernel
theorem dc_D_tieOrder_5 : decode cb_D_tieOrder 5 = .ok (.getfield 43, 3) := by decide +kernel
theorem dc_D_tieOrder_8 : decode cb_D_tieOrder 8 = .ok (.invokestatic 46, 3) := by decide +kernel
theorem dc_D_tieOrder_11 : decode cb_D_tieOrder 11 = .ok (.invokestatic 39, 3) := by decide +kernel
theorem dc_D_tieOrder_14 : decode cb_D_tieOrder 14 = .ok (.aload_n 0, 1) := by decide +kernel
theorem dc_D_tieOrder_15 : decode cb_D_tieOrder 15 = .ok (.getfield 12, 3) := by decide +kernel
theorem dc_D_tieOrder_18 : decode cb_D_tieOrder 18 = .ok (.getfield 86, 3) := by decide +kernel
theorem dc_D_tieOrder_21 : decode cb_D_tieOrder 21 = .ok (.istore_n 2, 1) := by decide +kernel
theorem dc_D_tieOrder_22 : decode cb_D_tieOrder 22 = .ok (.aload_n 0, 1) := by decide +kernel
theorem dc_D_tieOrder_23 : decode cb_D_tieOrder 23 = .ok (.getfield 12, 3) := by decide +kernel
theorem dc_D_tieOrder_26 : decode cb_D_tieOrder 26 = .ok (.iload_n 1, 1) := by decide +kernel
theorem dc_D_tieOrder_27 : decode cb_D_tieOrder 27 = .ok (.putfield 86, 3) := by decide +kernel
theorem dc_D_tieOrder_30 : decode cb_D_tieOrder 30 = .ok (.iload_n 2, 1) := by decide +kernel
theorem dc_D_tieOrder_31 : decode cb_D_tieOrder 31 = .ok (.ireturn, 1) := by decide +kernel
theorem dc_D_agenda_0 : decode cb_D_agenda 0 = .ok (.iload_n 1, 1) := by decide +kernel
theorem dc_D_agenda_1 : decode cb_D_agenda 1 = .ok (.aload_n 0, 1) := by decide +kernel
theorem dc_D_agenda_2 : decode cb_D_agenda 2 = .ok (.getfield 12, 3) := by decide +kernel
theorem dc_D_agenda_5 : decode cb_D_agenda 5 = .ok (.getfield 43, 3) := by decide +kernel
theorem dc_D_agenda_8 : decode cb_D_agenda 8 = .ok (.invokestatic 46, 3) := by decide +kernel
theorem dc_D_agenda_11 : decode cb_D_agenda 11 = .ok (.invokestatic 39, 3) := by decide +kernel
theorem dc_D_agenda_14 : decode cb_D_agenda 14 = .ok (.aload_n 0, 1) := by decide +kernel
theorem dc_D_agenda_15 : decode cb_D_agenda 15 = .ok (.getfield 12, 3) := by decide +kernel
theorem dc_D_agenda_18 : decode cb_D_agenda 18 = .ok (.getfield 89, 3) := by decide +kernel
theorem dc_D_agenda_21 : decode cb_D_agenda 21 = .ok (.istore_n 2, 1) := by decide +kernel
theorem dc_D_agenda_22 : decode cb_D_agenda 22 = .ok (.aload_n 0, 1) := by decide +kernel
theorem dc_D_agenda_23 : decode cb_D_agenda 23 = .ok (.getfield 12, 3) := by decide +kernel
theorem dc_D_agenda_26 : decode cb_D_agenda 26 = .ok (.iload_n 1, 1) := by decide +kernel
theorem dc_D_agenda_27 : decode cb_D_agenda 27 = .ok (.putfield 89, 3) := by decide +kernel
theorem dc_D_agenda_30 : decode cb_D_agenda 30 = .ok (.iload_n 2, 1) := by decide +kernel
theorem dc_D_agenda_31 : decode cb_D_agenda 31 = .ok (.ireturn, 1) := by decide +kernel
theorem dc_D_weight_0 : decode cb_D_weight 0 = .ok (.iload_n 1, 1) := by decide +kernel
theorem dc_D_weight_1 : decode cb_D_weight 1 = .ok (.ifCond .lt 18, 3) := by decide +kernel
theorem dc_D_weight_4 : decode cb_D_weight 4 = .ok (.iload_n 1, 1) := by decide +kernel
theorem dc_D_weight_5 : decode cb_D_weight 5 = .ok (.aload_n 0, 1) := by decide +kernel
theorem dc_D_weight_6 : decode cb_D_weight 6 = .ok (.getfield 12, 3) := by decide +kernel
theorem dc_D_weight_9 : decode cb_D_weight 9 = .ok (.getfield 43, 3) := by decide +kernel
theorem dc_D_weight_12 : decode cb_D_weight 12 = .ok (.if_icmp .ge 7, 3) := by decide +kernel
theorem dc_D_weight_15 : decode cb_D_weight 15 = .ok (.iconst 1, 1) := by decide +kernel
theorem dc_D_weight_16 : decode cb_D_weight 16 = .ok (.goto 4, 3) := by decide +kernel
theorem dc_D_weight_19 : decode cb_D_weight 19 = .ok (.iconst 0, 1) := by decide +kernel
theorem dc_D_weight_20 : decode cb_D_weight 20 = .ok (.invokestatic 69, 3) := by decide +kernel
theorem dc_D_weight_23 : decode cb_D_weight 23 = .ok (.iload_n 2, 1) := by decide +kernel
theorem dc_D_weight_24 : decode cb_D_weight 24 = .ok (.ifCond .lt 14, 3) := by decide +kernel
theorem dc_D_weight_27 : decode cb_D_weight 27 = .ok (.iload_n 2, 1) := by decide +kernel
theorem dc_D_weight_28 : decode cb_D_weight 28 = .ok (.sipush 1000, 3) := by decide +kernel
theorem dc_D_weight_31 : decode cb_D_weight 31 = .ok (.if_icmp .gt 7, 3) := by decide +kernel
theorem dc_D_weight_34 : decode cb_D_weight 34 = .ok (.iconst 1, 1) := by decide +kernel
theorem dc_D_weight_35 : decode cb_D_weight 35 = .ok (.goto 4, 3) := by decide +kernel
theorem dc_D_weight_38 : decode cb_D_weight 38 = .ok (.iconst 0, 1) := by decide +kernel
theorem dc_D_weight_39 : decode cb_D_weight 39 = .ok (.invokestatic 39, 3) := by decide +kernel
theorem dc_D_weight_42 : decode cb_D_weight 42 = .ok (.aload_n 0, 1) := by decide +kernel
theorem dc_D_weight_43 : decode cb_D_weight 43 = .ok (.getfield 12, 3) := by decide +kernel
theorem dc_D_weight_46 : decode cb_D_weight 46 = .ok (.getfield 92, 3) := by decide +kernel
theorem dc_D_weight_49 : decode cb_D_weight 49 = .ok (.iload_n 1, 1) := by decide +kernel
theorem dc_D_weight_50 : decode cb_D_weight 50 = .ok (.iaload, 1) := by decide +kernel
theorem dc_D_weight_51 : decode cb_D_weight 51 = .ok (.istore_n 3, 1) := by decide +kernel
theorem dc_D_weight_52 : decode cb_D_weight 52 = .ok (.aload_n 0, 1) := by decide +kernel
theorem dc_D_weight_53 : decode cb_D_weight 53 = .ok (.getfield 12, 3) := by decide +kernel
theorem dc_D_weight_56 : decode cb_D_weight 56 = .ok (.getfield 92, 3) := by decide +kernel
theorem dc_D_weight_59 : decode cb_D_weight 59 = .ok (.iload_n 1, 1) := by decide +kernel
theorem dc_D_weight_60 : decode cb_D_weight 60 = .ok (.iload_n 2, 1) := by decide +kernel
theorem dc_D_weight_61 : decode cb_D_weight 61 = .ok (.iastore, 1) := by decide +kernel
theorem dc_D_weight_62 : decode cb_D_weight 62 = .ok (.iload_n 3, 1) := by decide +kernel
theorem dc_D_weight_63 : decode cb_D_weight 63 = .ok (.ireturn, 1) := by decide +kernel
theorem dc_D_winners_0 : decode cb_D_winners 0 = .ok (.iload_n 1, 1) := by decide +kernel
theorem dc_D_winners_1 : decode cb_D_winners 1 = .ok (.invokestatic 95, 3) := by decide +kernel
theorem dc_D_winners_4 : decode cb_D_winners 4 = .ok (.invokestatic 69, 3) := by decide +kernel
theorem dc_D_winners_7 : decode cb_D_winners 7 = .ok (.aload_n 0, 1) := by decide +kernel
theorem dc_D_winners_8 : decode cb_D_winners 8 = .ok (.getfield 31, 3) := by decide +kernel
theorem dc_D_winners_11 : decode cb_D_winners 11 = .ok (.aload_n 0, 1) := by decide +kernel
theorem dc_D_winners_12 : decode cb_D_winners 12 = .ok (.getfield 12, 3) := by decide +kernel
theorem dc_D_winners_15 : decode cb_D_winners 15 = .ok (.iload_n 1, 1) := by decide +kernel
theorem dc_D_winners_16 : decode cb_D_winners 16 = .ok (.invokevirtual 98, 3) := by decide +kernel
theorem dc_D_winners_19 : decode cb_D_winners 19 = .ok (.ireturn, 1) := by decide +kernel
theorem dc_D_winner_0 : decode cb_D_winner 0 = .ok (.iload_n 1, 1) := by decide +kernel
theorem dc_D_winner_1 : decode cb_D_winner 1 = .ok (.invokestatic 95, 3) := by decide +kernel
theorem dc_D_winner_4 : decode cb_D_winner 4 = .ok (.invokestatic 69, 3) := by decide +kernel
theorem dc_D_winner_7 : decode cb_D_winner 7 = .ok (.aload_n 0, 1) := by decide +kernel
theorem dc_D_winner_8 : decode cb_D_winner 8 = .ok (.getfield 31, 3) := by decide +kernel
theorem dc_D_winner_11 : decode cb_D_winner 11 = .ok (.aload_n 0, 1) := by decide +kernel
theorem dc_D_winner_12 : decode cb_D_winner 12 = .ok (.getfield 12, 3) := by decide +kernel
theorem dc_D_winner_15 : decode cb_D_winner 15 = .ok (.iload_n 1, 1) := by decide +kernel
theorem dc_D_winner_16 : decode cb_D_winner 16 = .ok (.invokevirtual 104, 3) := by decide +kernel
theorem dc_D_winner_19 : decode cb_D_winner 19 = .ok (.ireturn, 1) := by decide +kernel
theorem dc_D_score_0 : decode cb_D_score 0 = .ok (.iload_n 1, 1) := by decide +kernel
theorem dc_D_score_1 : decode cb_D_score 1 = .ok (.invokestatic 95, 3) := by decide +kernel
theorem dc_D_score_4 : decode cb_D_score 4 = .ok (.ifCond .eq 15, 3) := by decide +kernel
theorem dc_D_score_7 : decode cb_D_score 7 = .ok (.aload_n 0, 1) := by decide +kernel
theorem dc_D_score_8 : decode cb_D_score 8 = .ok (.iload_n 2, 1) := by decide +kernel
theorem dc_D_score_9 : decode cb_D_score 9 = .ok (.invokevirtual 107, 3) := by decide +kernel
theorem dc_D_score_12 : decode cb_D_score 12 = .ok (.ifCond .eq 7, 3) := by decide +kernel
theorem dc_D_score_15 : decode cb_D_score 15 = .ok (.iconst 1, 1) := by decide +kernel
theorem dc_D_score_16 : decode cb_D_score 16 = .ok (.goto 4, 3) := by decide +kernel
theorem dc_D_score_19 : decode cb_D_score 19 = .ok (.iconst 0, 1) := by decide +kernel
theorem dc_D_score_20 : decode cb_D_score 20 = .ok (.invokestatic 69, 3) := by decide +kernel
theorem dc_D_score_23 : decode cb_D_score 23 = .ok (.iload_n 1, 1) := by decide +kernel
theorem dc_D_score_24 : decode cb_D_score 24 = .ok (.invokestatic 110, 3) := by decide +kernel
theorem dc_D_score_27 : decode cb_D_score 27 = .ok (.invokestatic 39, 3) := by decide +kernel
theorem dc_D_score_30 : decode cb_D_score 30 = .ok (.aload_n 0, 1) := by decide +kernel
theorem dc_D_score_31 : decode cb_D_score 31 = .ok (.getfield 12, 3) := by decide +kernel
theorem dc_D_score_34 : decode cb_D_score 34 = .ok (.iload_n 1, 1) := by decide +kernel
theorem dc_D_score_35 : decode cb_D_score 35 = .ok (.iload_n 2, 1) := by decide +kernel
theorem dc_D_score_36 : decode cb_D_score 36 = .ok (.invokestatic 115, 3) := by decide +kernel
theorem dc_D_score_39 : decode cb_D_score 39 = .ok (.lreturn, 1) := by decide +kernel
theorem dc_D_pair_0 : decode cb_D_pair 0 = .ok (.aload_n 0, 1) := by decide +kernel
theorem dc_D_pair_1 : decode cb_D_pair 1 = .ok (.iload_n 1, 1) := by decide +kernel
theorem dc_D_pair_2 : decode cb_D_pair 2 = .ok (.invokevirtual 107, 3) := by decide +kernel
theorem dc_D_pair_5 : decode cb_D_pair 5 = .ok (.ifCond .eq 15, 3) := by decide +kernel
theorem dc_D_pair_8 : decode cb_D_pair 8 = .ok (.aload_n 0, 1) := by decide +kernel
theorem dc_D_pair_9 : decode cb_D_pair 9 = .ok (.iload_n 2, 1) := by decide +kernel
theorem dc_D_pair_10 : decode cb_D_pair 10 = .ok (.invokevirtual 107, 3) := by decide +kernel
theorem dc_D_pair_13 : decode cb_D_pair 13 = .ok (.ifCond .eq 7, 3) := by decide +kernel
theorem dc_D_pair_16 : decode cb_D_pair 16 = .ok (.iconst 1, 1) := by decide +kernel
theorem dc_D_pair_17 : decode cb_D_pair 17 = .ok (.goto 4, 3) := by decide +kernel
theorem dc_D_pair_20 : decode cb_D_pair 20 = .ok (.iconst 0, 1) := by decide +kernel
theorem dc_D_pair_21 : decode cb_D_pair 21 = .ok (.invokestatic 69, 3) := by decide +kernel
theorem dc_D_pair_24 : decode cb_D_pair 24 = .ok (.aload_n 0, 1) := by decide +kernel
theorem dc_D_pair_25 : decode cb_D_pair 25 = .ok (.getfield 12, 3) := by decide +kernel
theorem dc_D_pair_28 : decode cb_D_pair 28 = .ok (.getfield 119, 3) := by decide +kernel
theorem dc_D_pair_31 : decode cb_D_pair 31 = .ok (.iload_n 1, 1) := by decide +kernel
theorem dc_D_pair_32 : decode cb_D_pair 32 = .ok (.aaload, 1) := by decide +kernel
theorem dc_D_pair_33 : decode cb_D_pair 33 = .ok (.iload_n 2, 1) := by decide +kernel
theorem dc_D_pair_34 : decode cb_D_pair 34 = .ok (.iaload, 1) := by decide +kernel
theorem dc_D_pair_35 : decode cb_D_pair 35 = .ok (.ireturn, 1) := by decide +kernel
theorem dc_D_path_0 : decode cb_D_path 0 = .ok (.aload_n 0, 1) := by decide +kernel
theorem dc_D_path_1 : decode cb_D_path 1 = .ok (.iload_n 1, 1) := by decide +kernel
theorem dc_D_path_2 : decode cb_D_path 2 = .ok (.invokevirtual 107, 3) := by decide +kernel
theorem dc_D_path_5 : decode cb_D_path 5 = .ok (.ifCond .eq 15, 3) := by decide +kernel
theorem dc_D_path_8 : decode cb_D_path 8 = .ok (.aload_n 0, 1) := by decide +kernel
theorem dc_D_path_9 : decode cb_D_path 9 = .ok (.iload_n 2, 1) := by decide +kernel
theorem dc_D_path_10 : decode cb_D_path 10 = .ok (.invokevirtual 107, 3) := by decide +kernel
theorem dc_D_path_13 : decode cb_D_path 13 = .ok (.ifCond .eq 7, 3) := by decide +kernel
theorem dc_D_path_16 : decode cb_D_path 16 = .ok (.iconst 1, 1) := by decide +kernel
theorem dc_D_path_17 : decode cb_D_path 17 = .ok (.goto 4, 3) := by decide +kernel
theorem dc_D_path_20 : decode cb_D_path 20 = .ok (.iconst 0, 1) := by decide +kernel
theorem dc_D_path_21 : decode cb_D_path 21 = .ok (.invokestatic 69, 3) := by decide +kernel
theorem dc_D_path_24 : decode cb_D_path 24 = .ok (.aload_n 0, 1) := by decide +kernel
theorem dc_D_path_25 : decode cb_D_path 25 = .ok (.getfield 31, 3) := by decide +kernel
theorem dc_D_path_28 : decode cb_D_path 28 = .ok (.getfield 123, 3) := by decide +kernel
theorem dc_D_path_31 : decode cb_D_path 31 = .ok (.aload_n 0, 1) := by decide +kernel
theorem dc_D_path_32 : decode cb_D_path 32 = .ok (.getfield 12, 3) := by decide +kernel
theorem dc_D_path_35 : decode cb_D_path 35 = .ok (.invokevirtual 127, 3) := by decide +kernel
theorem dc_D_path_38 : decode cb_D_path 38 = .ok (.aload_n 0, 1) := by decide +kernel
theorem dc_D_path_39 : decode cb_D_path 39 = .ok (.getfield 31, 3) := by decide +kernel
theorem dc_D_path_42 : decode cb_D_path 42 = .ok (.getfield 123, 3) := by decide +kernel
theorem dc_D_path_45 : decode cb_D_path 45 = .ok (.getfield 133, 3) := by decide +kernel
theorem dc_D_path_48 : decode cb_D_path 48 = .ok (.iload_n 1, 1) := by decide +kernel
theorem dc_D_path_49 : decode cb_D_path 49 = .ok (.aaload, 1) := by decide +kernel
theorem dc_D_path_50 : decode cb_D_path 50 = .ok (.iload_n 2, 1) := by decide +kernel
theorem dc_D_path_51 : decode cb_D_path 51 = .ok (.iaload, 1) := by decide +kernel
theorem dc_D_path_52 : decode cb_D_path 52 = .ok (.ireturn, 1) := by decide +kernel
theorem dc_D_branches_0 : decode cb_D_branches 0 = .ok (.aload_n 0, 1) := by decide +kernel
theorem dc_D_branches_1 : decode cb_D_branches 1 = .ok (.getfield 31, 3) := by decide +kernel
theorem dc_D_branches_4 : decode cb_D_branches 4 = .ok (.getfield 136, 3) := by decide +kernel
theorem dc_D_branches_7 : decode cb_D_branches 7 = .ok (.aload_n 0, 1) := by decide +kernel
theorem dc_D_branches_8 : decode cb_D_branches 8 = .ok (.getfield 12, 3) := by decide +kernel
theorem dc_D_branches_11 : decode cb_D_branches 11 = .ok (.invokevirtual 140, 3) := by decide +kernel
theorem dc_D_branches_14 : decode cb_D_branches 14 = .ok (.ireturn, 1) := by decide +kernel
theorem dc_D_step_0 : decode cb_D_step 0 = .ok (.iload_n 1, 1) := by decide +kernel
theorem dc_D_step_1 : decode cb_D_step 1 = .ok (.ifCond .lt 18, 3) := by decide +kernel
theorem dc_D_step_4 : decode cb_D_step 4 = .ok (.iload_n 1, 1) := by decide +kernel
theorem dc_D_step_5 : decode cb_D_step 5 = .ok (.aload_n 0, 1) := by decide +kernel
theorem dc_D_step_6 : decode cb_D_step 6 = .ok (.getfield 12, 3) := by decide +kernel
theorem dc_D_step_9 : decode cb_D_step 9 = .ok (.getfield 43, 3) := by decide +kernel
theorem dc_D_step_12 : decode cb_D_step 12 = .ok (.if_icmp .ge 7, 3) := by decide +kernel
theorem dc_D_step_15 : decode cb_D_step 15 = .ok (.iconst 1, 1) := by decide +kernel
theorem dc_D_step_16 : decode cb_D_step 16 = .ok (.goto 4, 3) := by decide +kernel
theorem dc_D_step_19 : decode cb_D_step 19 = .ok (.iconst 0, 1) := by decide +kernel
theorem dc_D_step_20 : decode cb_D_step 20 = .ok (.invokestatic 69, 3) := by decide +kernel
theorem dc_D_step_23 : decode cb_D_step 23 = .ok (.aload_n 0, 1) := by decide +kernel
theorem dc_D_step_24 : decode cb_D_step 24 = .ok (.getfield 31, 3) := by decide +kernel
theorem dc_D_step_27 : decode cb_D_step 27 = .ok (.getfield 136, 3) := by decide +kernel
theorem dc_D_step_30 : decode cb_D_step 30 = .ok (.aload_n 0, 1) := by decide +kernel
theorem dc_D_step_31 : decode cb_D_step 31 = .ok (.getfield 12, 3) := by decide +kernel
theorem dc_D_step_34 : decode cb_D_step 34 = .ok (.iload_n 1, 1) := by decide +kernel
theorem dc_D_step_35 : decode cb_D_step 35 = .ok (.invokevirtual 146, 3) := by decide +kernel
theorem dc_D_step_38 : decode cb_D_step 38 = .ok (.ireturn, 1) := by decide +kernel
theorem dc_D_disagreement_0 : decode cb_D_disagreement 0 = .ok (.aload_n 0, 1) := by decide +kernel
theorem dc_D_disagreement_1 : decode cb_D_disagreement 1 = .ok (.getfield 31, 3) := by decide +kernel
theorem dc_D_disagreement_4 : decode cb_D_disagreement 4 = .ok (.getfield 149, 3) := by decide +kernel
theorem dc_D_disagreement_7 : decode cb_D_disagreement 7 = .ok (.aload_n 0, 1) := by decide +kernel
theorem dc_D_disagreement_8 : decode cb_D_disagreement 8 = .ok (.getfield 12, 3) := by decide +kernel
theorem dc_D_disagreement_11 : decode cb_D_disagreement 11 = .ok (.invokevirtual 153, 3) := by decide +kernel
theorem dc_D_disagreement_14 : decode cb_D_disagreement 14 = .ok (.lreturn, 1) := by decide +kernel
theorem dc_D_agreed_0 : decode cb_D_agreed 0 = .ok (.aload_n 0, 1) := by decide +kernel
theorem dc_D_agreed_1 : decode cb_D_agreed 1 = .ok (.getfield 31, 3) := by decide +kernel
theorem dc_D_agreed_4 : decode cb_D_agreed 4 = .ok (.getfield 149, 3) := by decide +kernel
theorem dc_D_agreed_7 : decode cb_D_agreed 7 = .ok (.aload_n 0, 1) := by decide +kernel
theorem dc_D_agreed_8 : decode cb_D_agreed 8 = .ok (.getfield 12, 3) := by decide +kernel
theorem dc_D_agreed_11 : decode cb_D_agreed 11 = .ok (.invokevirtual 159, 3) := by decide +kernel
theorem dc_D_agreed_14 : decode cb_D_agreed 14 = .ok (.ireturn, 1) := by decide +kernel
theorem dc_D_change_0 : decode cb_D_change 0 = .ok (.iload_n 1, 1) := by decide +kernel
theorem dc_D_change_1 : decode cb_D_change 1 = .ok (.invokestatic 95, 3) := by decide +kernel
theorem dc_D_change_4 : decode cb_D_change 4 = .ok (.ifCond .eq 15, 3) := by decide +kernel
theorem dc_D_change_7 : decode cb_D_change 7 = .ok (.aload_n 0, 1) := by decide +kernel
theorem dc_D_change_8 : decode cb_D_change 8 = .ok (.iload_n 2, 1) := by decide +kernel
theorem dc_D_change_9 : decode cb_D_change 9 = .ok (.invokevirtual 66, 3) := by decide +kernel
theorem dc_D_change_12 : decode cb_D_change 12 = .ok (.ifCond .eq 7, 3) := by decide +kernel
theorem dc_D_change_15 : decode cb_D_change 15 = .ok (.iconst 1, 1) := by decide +kernel
theorem dc_D_change_16 : decode cb_D_change 16 = .ok (.goto 4, 3) := by decide +kernel
theorem dc_D_change_19 : decode cb_D_change 19 = .ok (.iconst 0, 1) := by decide +kernel
theorem dc_D_change_20 : decode cb_D_change 20 = .ok (.invokestatic 69, 3) := by decide +kernel
theorem dc_D_change_23 : decode cb_D_change 23 = .ok (.iload_n 3, 1) := by decide +kernel
theorem dc_D_change_24 : decode cb_D_change 24 = .ok (.iconst 1, 1) := by decide +kernel
theorem dc_D_change_25 : decode cb_D_change 25 = .ok (.if_icmp .lt 20, 3) := by decide +kernel
theorem dc_D_change_28 : decode cb_D_change 28 = .ok (.iload_n 3, 1) := by decide +kernel
theorem dc_D_change_29 : decode cb_D_change 29 = .ok (.aload_n 0, 1) := by decide +kernel
theorem dc_D_change_30 : decode cb_D_change 30 = .ok (.getfield 12, 3) := by decide +kernel
theorem dc_D_change_33 : decode cb_D_change 33 = .ok (.getfield 72, 3) := by decide +kernel
theorem dc_D_change_36 : decode cb_D_change 36 = .ok (.iload_n 2, 1) := by decide +kernel
theorem dc_D_change_37 : decode cb_D_change 37 = .ok (.iaload, 1) := by decide +kernel
theorem dc_D_change_38 : decode cb_D_change 38 = .ok (.if_icmp .gt 7, 3) := by decide +kernel
theorem dc_D_change_41 : decode cb_D_change 41 = .ok (.iconst 1, 1) := by decide +kernel
theorem dc_D_change_42 : decode cb_D_change 42 = .ok (.goto 4, 3) := by decide +kernel
theorem dc_D_change_45 : decode cb_D_change 45 = .ok (.iconst 0, 1) := by decide +kernel
theorem dc_D_change_46 : decode cb_D_change 46 = .ok (.invokestatic 39, 3) := by decide +kernel
theorem dc_D_change_49 : decode cb_D_change 49 = .ok (.aload_n 0, 1) := by decide +kernel
theorem dc_D_change_50 : decode cb_D_change 50 = .ok (.aload_n 0, 1) := by decide +kernel
theorem dc_D_change_51 : decode cb_D_change 51 = .ok (.getfield 23, 3) := by decide +kernel
theorem dc_D_change_54 : decode cb_D_change 54 = .ok (.aload_n 0, 1) := by decide +kernel
theorem dc_D_change_55 : decode cb_D_change 55 = .ok (.getfield 12, 3) := by decide +kernel
theorem dc_D_change_58 : decode cb_D_change 58 = .ok (.iload_n 1, 1) := by decide +kernel
theorem dc_D_change_59 : decode cb_D_change 59 = .ok (.iload_n 2, 1) := by decide +kernel
theorem dc_D_change_60 : decode cb_D_change 60 = .ok (.iload_n 3, 1) := by decide +kernel
theorem dc_D_change_61 : decode cb_D_change 61 = .ok (.invokevirtual 162, 3) := by decide +kernel
theorem dc_D_change_64 : decode cb_D_change 64 = .ok (.putfield 32, 3) := by decide +kernel
theorem dc_D_change_67 : decode cb_D_change 67 = .ok (.aload_n 0, 1) := by decide +kernel
theorem dc_D_change_68 : decode cb_D_change 68 = .ok (.getfield 32, 3) := by decide +kernel
theorem dc_D_change_71 : decode cb_D_change 71 = .ok (.iconst (-1), 1) := by decide +kernel
theorem dc_D_change_72 : decode cb_D_change 72 = .ok (.if_icmp .ne 7, 3) := by decide +kernel
theorem dc_D_change_75 : decode cb_D_change 75 = .ok (.iconst 0, 1) := by decide +kernel
theorem dc_D_change_76 : decode cb_D_change 76 = .ok (.goto 12, 3) := by decide +kernel
theorem dc_D_change_79 : decode cb_D_change 79 = .ok (.aload_n 0, 1) := by decide +kernel
theorem dc_D_change_80 : decode cb_D_change 80 = .ok (.getfield 23, 3) := by decide +kernel
theorem dc_D_change_83 : decode cb_D_change 83 = .ok (.getfield 166, 3) := by decide +kernel
theorem dc_D_change_86 : decode cb_D_change 86 = .ok (.iconst 1, 1) := by decide +kernel
theorem dc_D_change_87 : decode cb_D_change 87 = .ok (.iadd, 1) := by decide +kernel
theorem dc_D_change_88 : decode cb_D_change 88 = .ok (.ireturn, 1) := by decide +kernel
theorem dc_D_changed_0 : decode cb_D_changed 0 = .ok (.aload_n 0, 1) := by decide +kernel
theorem dc_D_changed_1 : decode cb_D_changed 1 = .ok (.getfield 32, 3) := by decide +kernel
theorem dc_D_changed_4 : decode cb_D_changed 4 = .ok (.ireturn, 1) := by decide +kernel
theorem dc_D_property_0 : decode cb_D_property 0 = .ok (.iload_n 1, 1) := by decide +kernel
theorem dc_D_property_1 : decode cb_D_property 1 = .ok (.invokestatic 95, 3) := by decide +kernel
theorem dc_D_property_4 : decode cb_D_property 4 = .ok (.ifCond .eq 16, 3) := by decide +kernel
theorem dc_D_property_7 : decode cb_D_property 7 = .ok (.iload_n 2, 1) := by decide +kernel
theorem dc_D_property_8 : decode cb_D_property 8 = .ok (.ifCond .lt 12, 3) := by decide +kernel
theorem dc_D_property_11 : decode cb_D_property 11 = .ok (.iload_n 2, 1) := by decide +kernel
theorem dc_D_property_12 : decode cb_D_property 12 = .ok (.iconst 5, 1) := by decide +kernel
theorem dc_D_property_13 : decode cb_D_property 13 = .ok (.if_icmp .ge 7, 3) := by decide +kernel
theorem dc_D_property_16 : decode cb_D_property 16 = .ok (.iconst 1, 1) := by decide +kernel
theorem dc_D_property_17 : decode cb_D_property 17 = .ok (.goto 4, 3) := by decide +kernel
theorem dc_D_property_20 : decode cb_D_property 20 = .ok (.iconst 0, 1) := by decide +kernel
theorem dc_D_property_21 : decode cb_D_property 21 = .ok (.invokestatic 69, 3) := by decide +kernel
theorem dc_D_property_24 : decode cb_D_property 24 = .ok (.iload_n 2, 1) := by decide +kernel
theorem dc_D_property_25 : decode cb_D_property 25 = .ok (.tableswitch 111 0 4 #[35, 54, 73, 92, 111], 35) := by decide +kernel
theorem dc_D_property_60 : decode cb_D_property 60 = .ok (.aload_n 0, 1) := by decide +kernel
theorem dc_D_property_61 : decode cb_D_property 61 = .ok (.aload_n 0, 1) := by decide +kernel
theorem dc_D_property_62 : decode cb_D_property 62 = .ok (.getfield 23, 3) := by decide +kernel
theorem dc_D_property_65 : decode cb_D_property 65 = .ok (.aload_n 0, 1) := by decide +kernel
theorem dc_D_property_66 : decode cb_D_property 66 = .ok (.getfield 12, 3) := by decide +kernel
theorem dc_D_property_69 : decode cb_D_property 69 = .ok (.iload_n 1, 1) := by decide +kernel
theorem dc_D_property_70 : decode cb_D_property 70 = .ok (.invokevirtual 169, 3) := by decide +kernel
theorem dc_D_property_73 : decode cb_D_property 73 = .ok (.putfield 36, 3) := by decide +kernel
theorem dc_D_property_76 : decode cb_D_property 76 = .ok (.goto 76, 3) := by decide +kernel
theorem dc_D_property_79 : decode cb_D_property 79 = .ok (.aload_n 0, 1) := by decide +kernel
theorem dc_D_property_80 : decode cb_D_property 80 = .ok (.aload_n 0, 1) := by decide +kernel
theorem dc_D_property_81 : decode cb_D_property 81 = .ok (.getfield 23, 3) := by decide +kernel
theorem dc_D_property_84 : decode cb_D_property 84 = .ok (.aload_n 0, 1) := by decide +kernel
theorem dc_D_property_85 : decode cb_D_property 85 = .ok (.getfield 12, 3) := by decide +kernel
theorem dc_D_property_88 : decode cb_D_property 88 = .ok (.iload_n 1, 1) := by decide +kernel
theorem dc_D_property_89 : decode cb_D_property 89 = .ok (.invokevirtual 172, 3) := by decide +kernel
theorem dc_D_property_92 : decode cb_D_property 92 = .ok (.putfield 36, 3) := by decide +kernel
theorem dc_D_property_95 : decode cb_D_property 95 = .ok (.goto 57, 3) := by decide +kernel
theorem dc_D_property_98 : decode cb_D_property 98 = .ok (.aload_n 0, 1) := by decide +kernel
theorem dc_D_property_99 : decode cb_D_property 99 = .ok (.aload_n 0, 1) := by decide +kernel
theorem dc_D_property_100 : decode cb_D_property 100 = .ok (.getfield 23, 3) := by decide +kernel
theorem dc_D_property_103 : decode cb_D_property 103 = .ok (.aload_n 0, 1) := by decide +kernel
theorem dc_D_property_104 : decode cb_D_property 104 = .ok (.getfield 12, 3) := by decide +kernel
theorem dc_D_property_107 : decode cb_D_property 107 = .ok (.iload_n 1, 1) := by decide +kernel
theorem dc_D_property_108 : decode cb_D_property 108 = .ok (.invokevirtual 175, 3) := by decide +kernel
theorem dc_D_property_111 : decode cb_D_property 111 = .ok (.putfield 36, 3) := by decide +kernel
theorem dc_D_property_114 : decode cb_D_property 114 = .ok (.goto 38, 3) := by decide +kernel
theorem dc_D_property_117 : decode cb_D_property 117 = .ok (.aload_n 0, 1) := by decide +kernel
theorem dc_D_property_118 : decode cb_D_property 118 = .ok (.aload_n 0, 1) := by decide +kernel
theorem dc_D_property_119 : decode cb_D_property 119 = .ok (.getfield 23, 3) := by decide +kernel
theorem dc_D_property_122 : decode cb_D_property 122 = .ok (.aload_n 0, 1) := by decide +kernel
theorem dc_D_property_123 : decode cb_D_property 123 = .ok (.getfield 12, 3) := by decide +kernel
theorem dc_D_property_126 : decode cb_D_property 126 = .ok (.iload_n 1, 1) := by decide +kernel
theorem dc_D_property_127 : decode cb_D_property 127 = .ok (.invokevirtual 178, 3) := by decide +kernel
theorem dc_D_property_130 : decode cb_D_property 130 = .ok (.putfield 36, 3) := by decide +kernel
theorem dc_D_property_133 : decode cb_D_property 133 = .ok (.goto 19, 3) := by decide +kernel
theorem dc_D_property_136 : decode cb_D_property 136 = .ok (.aload_n 0, 1) := by decide +kernel
theorem dc_D_property_137 : decode cb_D_property 137 = .ok (.aload_n 0, 1) := by decide +kernel
theorem dc_D_property_138 : decode cb_D_property 138 = .ok (.getfield 23, 3) := by decide +kernel
theorem dc_D_property_141 : decode cb_D_property 141 = .ok (.aload_n 0, 1) := by decide +kernel
theorem dc_D_property_142 : decode cb_D_property 142 = .ok (.getfield 12, 3) := by decide +kernel
theorem dc_D_property_145 : decode cb_D_property 145 = .ok (.iload_n 1, 1) := by decide +kernel
theorem dc_D_property_146 : decode cb_D_property 146 = .ok (.invokevirtual 181, 3) := by decide +kernel
theorem dc_D_property_149 : decode cb_D_property 149 = .ok (.putfield 36, 3) := by decide +kernel
theorem dc_D_property_152 : decode cb_D_property 152 = .ok (.aload_n 0, 1) := by decide +kernel
theorem dc_D_property_153 : decode cb_D_property 153 = .ok (.getfield 36, 3) := by decide +kernel
theorem dc_D_property_156 : decode cb_D_property 156 = .ok (.iconst (-1), 1) := by decide +kernel
theorem dc_D_property_157 : decode cb_D_property 157 = .ok (.if_icmp .ne 7, 3) := by decide +kernel
theorem dc_D_property_160 : decode cb_D_property 160 = .ok (.iconst 1, 1) := by decide +kernel
theorem dc_D_property_161 : decode cb_D_property 161 = .ok (.goto 4, 3) := by decide +kernel
theorem dc_D_property_164 : decode cb_D_property 164 = .ok (.iconst 0, 1) := by decide +kernel
theorem dc_D_property_165 : decode cb_D_property 165 = .ok (.ireturn, 1) := by decide +kernel
theorem dc_D_witness_0 : decode cb_D_witness 0 = .ok (.aload_n 0, 1) := by decide +kernel
theorem dc_D_witness_1 : decode cb_D_witness 1 = .ok (.getfield 36, 3) := by decide +kernel
theorem dc_D_witness_4 : decode cb_D_witness 4 = .ok (.ireturn, 1) := by decide +kernel
theorem dc_D_circle_0 : decode cb_D_circle 0 = .ok (.iload_n 1, 1) := by decide +kernel
theorem dc_D_circle_1 : decode cb_D_circle 1 = .ok (.ifCond .lt 12, 3) := by decide +kernel
theorem dc_D_circle_4 : decode cb_D_circle 4 = .ok (.iload_n 1, 1) := by decide +kernel
theorem dc_D_circle_5 : decode cb_D_circle 5 = .ok (.iconst 3, 1) := by decide +kernel
theorem dc_D_circle_6 : decode cb_D_circle 6 = .ok (.if_icmp .ge 7, 3) := by decide +kernel
theorem dc_D_circle_9 : decode cb_D_circle 9 = .ok (.iconst 1, 1) := by decide +kernel
theorem dc_D_circle_10 : decode cb_D_circle 10 = .ok (.goto 4, 3) := by decide +kernel
theorem dc_D_circle_13 : decode cb_D_circle 13 = .ok (.iconst 0, 1) := by decide +kernel
theorem dc_D_circle_14 : decode cb_D_circle 14 = .ok (.invokestatic 69, 3) := by decide +kernel
theorem dc_D_circle_17 : decode cb_D_circle 17 = .ok (.aload_n 0, 1) := by decide +kernel
theorem dc_D_circle_18 : decode cb_D_circle 18 = .ok (.getfield 12, 3) := by decide +kernel
theorem dc_D_circle_21 : decode cb_D_circle 21 = .ok (.invokevirtual 184, 3) := by decide +kernel
theorem dc_D_circle_24 : decode cb_D_circle 24 = .ok (.istore_n 2, 1) := by decide +kernel
theorem dc_D_circle_25 : decode cb_D_circle 25 = .ok (.iload_n 2, 1) := by decide +kernel
theorem dc_D_circle_26 : decode cb_D_circle 26 = .ok (.iconst (-1), 1) := by decide +kernel
theorem dc_D_circle_27 : decode cb_D_circle 27 = .ok (.if_icmp .ne 7, 3) := by decide +kernel
theorem dc_D_circle_30 : decode cb_D_circle 30 = .ok (.iconst (-1), 1) := by decide +kernel
theorem dc_D_circle_31 : decode cb_D_circle 31 = .ok (.goto 8, 3) := by decide +kernel
theorem dc_D_circle_34 : decode cb_D_circle 34 = .ok (.iload_n 2, 1) := by decide +kernel
theorem dc_D_circle_35 : decode cb_D_circle 35 = .ok (.iload_n 1, 1) := by decide +kernel
theorem dc_D_circle_36 : decode cb_D_circle 36 = .ok (.invokestatic 188, 3) := by decide +kernel
theorem dc_D_circle_39 : decode cb_D_circle 39 = .ok (.ireturn, 1) := by decide +kernel
theorem dc_D_clones_0 : decode cb_D_clones 0 = .ok (.iload_n 1, 1) := by decide +kernel
theorem dc_D_clones_1 : decode cb_D_clones 1 = .ok (.ifCond .lt 26, 3) := by decide +kernel
theorem dc_D_clones_4 : decode cb_D_clones 4 = .ok (.iload_n 1, 1) := by decide +kernel
theorem dc_D_clones_5 : decode cb_D_clones 5 = .ok (.aload_n 0, 1) := by decide +kernel
theorem dc_D_clones_6 : decode cb_D_clones 6 = .ok (.getfield 12, 3) := by decide +kernel
theorem dc_D_clones_9 : decode cb_D_clones 9 = .ok (.invokevirtual 191, 3) := by decide +kernel
theorem dc_D_clones_12 : decode cb_D_clones 12 = .ok (.if_icmp .gt 15, 3) := by decide +kernel
theorem dc_D_clones_15 : decode cb_D_clones 15 = .ok (.iload_n 1, 1) := by decide +kernel
theorem dc_D_clones_16 : decode cb_D_clones 16 = .ok (.invokestatic 194, 3) := by decide +kernel
theorem dc_D_clones_19 : decode cb_D_clones 19 = .ok (.iconst 2, 1) := by decide +kernel
theorem dc_D_clones_20 : decode cb_D_clones 20 = .ok (.if_icmp .lt 7, 3) := by decide +kernel
theorem dc_D_clones_23 : decode cb_D_clones 23 = .ok (.iconst 1, 1) := by decide +kernel
theorem dc_D_clones_24 : decode cb_D_clones 24 = .ok (.goto 4, 3) := by decide +kernel
theorem dc_D_clones_27 : decode cb_D_clones 27 = .ok (.iconst 0, 1) := by decide +kernel
theorem dc_D_clones_28 : decode cb_D_clones 28 = .ok (.invokestatic 39, 3) := by decide +kernel
theorem dc_D_clones_31 : decode cb_D_clones 31 = .ok (.iconst 0, 1) := by decide +kernel
theorem dc_D_clones_32 : decode cb_D_clones 32 = .ok (.istore_n 2, 1) := by decide +kernel
theorem dc_D_clones_33 : decode cb_D_clones 33 = .ok (.iload_n 2, 1) := by decide +kernel
theorem dc_D_clones_34 : decode cb_D_clones 34 = .ok (.aload_n 0, 1) := by decide +kernel
theorem dc_D_clones_35 : decode cb_D_clones 35 = .ok (.getfield 12, 3) := by decide +kernel
theorem dc_D_clones_38 : decode cb_D_clones 38 = .ok (.getfield 56, 3) := by decide +kernel
theorem dc_D_clones_41 : decode cb_D_clones 41 = .ok (.if_icmp .ge 46, 3) := by decide +kernel
theorem dc_D_clones_44 : decode cb_D_clones 44 = .ok (.aload_n 0, 1) := by decide +kernel
theorem dc_D_clones_45 : decode cb_D_clones 45 = .ok (.getfield 12, 3) := by decide +kernel
theorem dc_D_clones_48 : decode cb_D_clones 48 = .ok (.getfield 72, 3) := by decide +kernel
theorem dc_D_clones_51 : decode cb_D_clones 51 = .ok (.iload_n 2, 1) := by decide +kernel
theorem dc_D_clones_52 : decode cb_D_clones 52 = .ok (.iaload, 1) := by decide +kernel
theorem dc_D_clones_53 : decode cb_D_clones 53 = .ok (.ifCond .le 28, 3) := by decide +kernel
theorem dc_D_clones_56 : decode cb_D_clones 56 = .ok (.aload_n 0, 1) := by decide +kernel
theorem dc_D_clones_57 : decode cb_D_clones 57 = .ok (.getfield 12, 3) := by decide +kernel
theorem dc_D_clones_60 : decode cb_D_clones 60 = .ok (.getfield 76, 3) := by decide +kernel
theorem dc_D_clones_63 : decode cb_D_clones 63 = .ok (.iload_n 2, 1) := by decide +kernel
theorem dc_D_clones_64 : decode cb_D_clones 64 = .ok (.iaload, 1) := by decide +kernel
theorem dc_D_clones_65 : decode cb_D_clones 65 = .ok (.iload_n 1, 1) := by decide +kernel
theorem dc_D_clones_66 : decode cb_D_clones 66 = .ok (.aload_n 0, 1) := by decide +kernel
theorem dc_D_clones_67 : decode cb_D_clones 67 = .ok (.getfield 12, 3) := by decide +kernel
theorem dc_D_clones_70 : decode cb_D_clones 70 = .ok (.getfield 43, 3) := by decide +kernel
theorem dc_D_clones_73 : decode cb_D_clones 73 = .ok (.invokestatic 200, 3) := by decide +kernel
theorem dc_D_clones_76 : decode cb_D_clones 76 = .ok (.ifCond .ne 5, 3) := by decide +kernel
theorem dc_D_clones_79 : decode cb_D_clones 79 = .ok (.iconst 0, 1) := by decide +kernel
theorem dc_D_clones_80 : decode cb_D_clones 80 = .ok (.ireturn, 1) := by decide +kernel
theorem dc_D_clones_81 : decode cb_D_clones 81 = .ok (.iinc 2 1, 3) := by decide +kernel
theorem dc_D_clones_84 : decode cb_D_clones 84 = .ok (.goto (-51), 3) := by decide +kernel
theorem dc_D_clones_87 : decode cb_D_clones 87 = .ok (.iconst 1, 1) := by decide +kernel
theorem dc_D_clones_88 : decode cb_D_clones 88 = .ok (.ireturn, 1) := by decide +kernel
theorem dc_D_count_0 : decode cb_D_count 0 = .ok (.iload_n 1, 1) := by decide +kernel
theorem dc_D_count_1 : decode cb_D_count 1 = .ok (.ifCond .lt 12, 3) := by decide +kernel
theorem dc_D_count_4 : decode cb_D_count 4 = .ok (.iload_n 1, 1) := by decide +kernel
theorem dc_D_count_5 : decode cb_D_count 5 = .ok (.iconst 2, 1) := by decide +kernel
theorem dc_D_count_6 : decode cb_D_count 6 = .ok (.if_icmp .gt 7, 3) := by decide +kernel
theorem dc_D_count_9 : decode cb_D_count 9 = .ok (.iconst 1, 1) := by decide +kernel
theorem dc_D_count_10 : decode cb_D_count 10 = .ok (.goto 4, 3) := by decide +kernel
theorem dc_D_count_13 : decode cb_D_count 13 = .ok (.iconst 0, 1) := by decide +kernel
theorem dc_D_count_14 : decode cb_D_count 14 = .ok (.invokestatic 39, 3) := by decide +kernel
theorem dc_D_count_17 : decode cb_D_count 17 = .ok (.iload_n 1, 1) := by decide +kernel
theorem dc_D_count_18 : decode cb_D_count 18 = .ok (.ifCond .ne 11, 3) := by decide +kernel
theorem dc_D_count_21 : decode cb_D_count 21 = .ok (.aload_n 0, 1) := by decide +kernel
theorem dc_D_count_22 : decode cb_D_count 22 = .ok (.getfield 12, 3) := by decide +kernel
theorem dc_D_count_25 : decode cb_D_count 25 = .ok (.getfield 43, 3) := by decide +kernel
theorem dc_D_count_28 : decode cb_D_count 28 = .ok (.ireturn, 1) := by decide +kernel
theorem dc_D_count_29 : decode cb_D_count 29 = .ok (.iload_n 1, 1) := by decide +kernel
theorem dc_D_count_30 : decode cb_D_count 30 = .ok (.iconst 1, 1) := by decide +kernel
theorem dc_D_count_31 : decode cb_D_count 31 = .ok (.if_icmp .ne 13, 3) := by decide +kernel
theorem dc_D_count_34 : decode cb_D_count 34 = .ok (.aload_n 0, 1) := by decide +kernel
theorem dc_D_count_35 : decode cb_D_count 35 = .ok (.getfield 12, 3) := by decide +kernel
theorem dc_D_count_38 : decode cb_D_count 38 = .ok (.getfield 56, 3) := by decide +kernel
theorem dc_D_count_41 : decode cb_D_count 41 = .ok (.goto 10, 3) := by decide +kernel
theorem dc_D_count_44 : decode cb_D_count 44 = .ok (.aload_n 0, 1) := by decide +kernel
theorem dc_D_count_45 : decode cb_D_count 45 = .ok (.getfield 12, 3) := by decide +kernel
theorem dc_D_count_48 : decode cb_D_count 48 = .ok (.invokevirtual 204, 3) := by decide +kernel
theorem dc_D_count_51 : decode cb_D_count 51 = .ok (.ireturn, 1) := by decide +kernel
theorem dc_D_isCandidate_0 : decode cb_D_isCandidate 0 = .ok (.iload_n 1, 1) := by decide +kernel
theorem dc_D_isCandidate_1 : decode cb_D_isCandidate 1 = .ok (.ifCond .lt 18, 3) := by decide +kernel
theorem dc_D_isCandidate_4 : decode cb_D_isCandidate 4 = .ok (.iload_n 1, 1) := by decide +kernel
theorem dc_D_isCandidate_5 : decode cb_D_isCandidate 5 = .ok (.aload_n 0, 1) := by decide +kernel
theorem dc_D_isCandidate_6 : decode cb_D_isCandidate 6 = .ok (.getfield 12, 3) := by decide +kernel
theorem dc_D_isCandidate_9 : decode cb_D_isCandidate 9 = .ok (.getfield 43, 3) := by decide +kernel
theorem dc_D_isCandidate_12 : decode cb_D_isCandidate 12 = .ok (.if_icmp .ge 7, 3) := by decide +kernel
theorem dc_D_isCandidate_15 : decode cb_D_isCandidate 15 = .ok (.iconst 1, 1) := by decide +kernel
theorem dc_D_isCandidate_16 : decode cb_D_isCandidate 16 = .ok (.goto 4, 3) := by decide +kernel
theorem dc_D_isCandidate_19 : decode cb_D_isCandidate 19 = .ok (.iconst 0, 1) := by decide +kernel
theorem dc_D_isCandidate_20 : decode cb_D_isCandidate 20 = .ok (.ireturn, 1) := by decide +kernel
theorem dc_D_isType_0 : decode cb_D_isType 0 = .ok (.iload_n 1, 1) := by decide +kernel
theorem dc_D_isType_1 : decode cb_D_isType 1 = .ok (.ifCond .lt 18, 3) := by decide +kernel
theorem dc_D_isType_4 : decode cb_D_isType 4 = .ok (.iload_n 1, 1) := by decide +kernel
theorem dc_D_isType_5 : decode cb_D_isType 5 = .ok (.aload_n 0, 1) := by decide +kernel
theorem dc_D_isType_6 : decode cb_D_isType 6 = .ok (.getfield 12, 3) := by decide +kernel
theorem dc_D_isType_9 : decode cb_D_isType 9 = .ok (.getfield 56, 3) := by decide +kernel
theorem dc_D_isType_12 : decode cb_D_isType 12 = .ok (.if_icmp .ge 7, 3) := by decide +kernel
theorem dc_D_isType_15 : decode cb_D_isType 15 = .ok (.iconst 1, 1) := by decide +kernel
theorem dc_D_isType_16 : decode cb_D_isType 16 = .ok (.goto 4, 3) := by decide +kernel
theorem dc_D_isType_19 : decode cb_D_isType 19 = .ok (.iconst 0, 1) := by decide +kernel
theorem dc_D_isType_20 : decode cb_D_isType 20 = .ok (.ireturn, 1) := by decide +kernel
theorem dc_D_isRule_0 : decode cb_D_isRule 0 = .ok (.iload_n 0, 1) := by decide +kernel
theorem dc_D_isRule_1 : decode cb_D_isRule 1 = .ok (.ifCond .lt 13, 3) := by decide +kernel
theorem dc_D_isRule_4 : decode cb_D_isRule 4 = .ok (.iload_n 0, 1) := by decide +kernel
theorem dc_D_isRule_5 : decode cb_D_isRule 5 = .ok (.bipush 12, 2) := by decide +kernel
theorem dc_D_isRule_7 : decode cb_D_isRule 7 = .ok (.if_icmp .ge 7, 3) := by decide +kernel
theorem dc_D_isRule_10 : decode cb_D_isRule 10 = .ok (.iconst 1, 1) := by decide +kernel
theorem dc_D_isRule_11 : decode cb_D_isRule 11 = .ok (.goto 4, 3) := by decide +kernel
theorem dc_D_isRule_14 : decode cb_D_isRule 14 = .ok (.iconst 0, 1) := by decide +kernel
theorem dc_D_isRule_15 : decode cb_D_isRule 15 = .ok (.ireturn, 1) := by decide +kernel
theorem dc_D_isAmount_0 : decode cb_D_isAmount 0 = .ok (.iload_n 0, 1) := by decide +kernel
theorem dc_D_isAmount_1 : decode cb_D_isAmount 1 = .ok (.ifCond .lt 13, 3) := by decide +kernel
theorem dc_D_isAmount_4 : decode cb_D_isAmount 4 = .ok (.iload_n 0, 1) := by decide +kernel
theorem dc_D_isAmount_5 : decode cb_D_isAmount 5 = .ok (.ldc 207, 2) := by decide +kernel
theorem dc_D_isAmount_7 : decode cb_D_isAmount 7 = .ok (.if_icmp .gt 7, 3) := by decide +kernel
theorem dc_D_isAmount_10 : decode cb_D_isAmount 10 = .ok (.iconst 1, 1) := by decide +kernel
theorem dc_D_isAmount_11 : decode cb_D_isAmount 11 = .ok (.goto 4, 3) := by decide +kernel
theorem dc_D_isAmount_14 : decode cb_D_isAmount 14 = .ok (.iconst 0, 1) := by decide +kernel
theorem dc_D_isAmount_15 : decode cb_D_isAmount 15 = .ok (.ireturn, 1) := by decide +kernel
theorem dc_D_needElement_0 : decode cb_D_needElement 0 = .ok (.iload_n 0, 1) := by decide +kernel
theorem dc_D_needElement_1 : decode cb_D_needElement 1 = .ok (.ifCond .ne 11, 3) := by decide +kernel
theorem dc_D_needElement_4 : decode cb_D_needElement 4 = .ok (.new 208, 3) := by decide +kernel
theorem dc_D_needElement_7 : decode cb_D_needElement 7 = .ok (.dup, 1) := by decide +kernel
theorem dc_D_needElement_8 : decode cb_D_needElement 8 = .ok (.invokespecial 210, 3) := by decide +kernel
theorem dc_D_needElement_11 : decode cb_D_needElement 11 = .ok (.athrow, 1) := by decide +kernel
theorem dc_D_needElement_12 : decode cb_D_needElement 12 = .ok (.return_, 1) := by decide +kernel
theorem dc_D_needArgument_0 : decode cb_D_needArgument 0 = .ok (.iload_n 0, 1) := by decide +kernel
theorem dc_D_needArgument_1 : decode cb_D_needArgument 1 = .ok (.ifCond .ne 11, 3) := by decide +kernel
theorem dc_D_needArgument_4 : decode cb_D_needArgument 4 = .ok (.new 211, 3) := by decide +kernel
theorem dc_D_needArgument_7 : decode cb_D_needArgument 7 = .ok (.dup, 1) := by decide +kernel
theorem dc_D_needArgument_8 : decode cb_D_needArgument 8 = .ok (.invokespecial 213, 3) := by decide +kernel
theorem dc_D_needArgument_11 : decode cb_D_needArgument 11 = .ok (.athrow, 1) := by decide +kernel
theorem dc_D_needArgument_12 : decode cb_D_needArgument 12 = .ok (.return_, 1) := by decide +kernel
theorem dc_M_init_0 : decode cb_M_init 0 = .ok (.aload_n 0, 1) := by decide +kernel
theorem dc_M_init_1 : decode cb_M_init 1 = .ok (.invokespecial 1, 3) := by decide +kernel
theorem dc_M_init_4 : decode cb_M_init 4 = .ok (.aload_n 0, 1) := by decide +kernel
theorem dc_M_init_5 : decode cb_M_init 5 = .ok (.iconst 4, 1) := by decide +kernel
theorem dc_M_init_6 : decode cb_M_init 6 = .ok (.putfield 7, 3) := by decide +kernel
theorem dc_M_init_9 : decode cb_M_init 9 = .ok (.aload_n 0, 1) := by decide +kernel
theorem dc_M_init_10 : decode cb_M_init 10 = .ok (.sipush 140, 3) := by decide +kernel
theorem dc_M_init_13 : decode cb_M_init 13 = .ok (.newarray .int, 2) := by decide +kernel
theorem dc_M_init_15 : decode cb_M_init 15 = .ok (.putfield 13, 3) := by decide +kernel
theorem dc_M_init_18 : decode cb_M_init 18 = .ok (.aload_n 0, 1) := by decide +kernel
theorem dc_M_init_19 : decode cb_M_init 19 = .ok (.bipush 20, 2) := by decide +kernel
theorem dc_M_init_21 : decode cb_M_init 21 = .ok (.newarray .int, 2) := by decide +kernel
theorem dc_M_init_23 : decode cb_M_init 23 = .ok (.putfield 17, 3) := by decide +kernel
theorem dc_M_init_26 : decode cb_M_init 26 = .ok (.aload_n 0, 1) := by decide +kernel
theorem dc_M_init_27 : decode cb_M_init 27 = .ok (.bipush 7, 2) := by decide +kernel
theorem dc_M_init_29 : decode cb_M_init 29 = .ok (.newarray .int, 2) := by decide +kernel
theorem dc_M_init_31 : decode cb_M_init 31 = .ok (.putfield 20, 3) := by decide +kernel
theorem dc_M_init_34 : decode cb_M_init 34 = .ok (.aload_n 0, 1) := by decide +kernel
theorem dc_M_init_35 : decode cb_M_init 35 = .ok (.bipush 7, 2) := by decide +kernel
theorem dc_M_init_37 : decode cb_M_init 37 = .ok (.newarray .int, 2) := by decide +kernel
theorem dc_M_init_39 : decode cb_M_init 39 = .ok (.putfield 23, 3) := by decide +kernel
theorem dc_M_init_42 : decode cb_M_init 42 = .ok (.aload_n 0, 1) := by decide +kernel
theorem dc_M_init_43 : decode cb_M_init 43 = .ok (.bipush 7, 2) := by decide +kernel
theorem dc_M_init_45 : decode cb_M_init 45 = .ok (.newarray .int, 2) := by decide +kernel
theorem dc_M_init_47 : decode cb_M_init 47 = .ok (.putfield 26, 3) := by decide +kernel
theorem dc_M_init_50 : decode cb_M_init 50 = .ok (.aload_n 0, 1) := by decide +kernel
theorem dc_M_init_51 : decode cb_M_init 51 = .ok (.sipush 154, 3) := by decide +kernel
theorem dc_M_init_54 : decode cb_M_init 54 = .ok (.newarray .int, 2) := by decide +kernel
theorem dc_M_init_56 : decode cb_M_init 56 = .ok (.putfield 29, 3) := by decide +kernel
theorem dc_M_init_59 : decode cb_M_init 59 = .ok (.aload_n 0, 1) := by decide +kernel
theorem dc_M_init_60 : decode cb_M_init 60 = .ok (.bipush 22, 2) := by decide +kernel
theorem dc_M_init_62 : decode cb_M_init 62 = .ok (.newarray .int, 2) := by decide +kernel
theorem dc_M_init_64 : decode cb_M_init 64 = .ok (.putfield 32, 3) := by decide +kernel
theorem dc_M_init_67 : decode cb_M_init 67 = .ok (.aload_n 0, 1) := by decide +kernel
theorem dc_M_init_68 : decode cb_M_init 68 = .ok (.bipush 7, 2) := by decide +kernel
theorem dc_M_init_70 : decode cb_M_init 70 = .ok (.newarray .int, 2) := by decide +kernel
theorem dc_M_init_72 : decode cb_M_init 72 = .ok (.putfield 35, 3) := by decide +kernel
theorem dc_M_init_75 : decode cb_M_init 75 = .ok (.aload_n 0, 1) := by decide +kernel
theorem dc_M_init_76 : decode cb_M_init 76 = .ok (.bipush 7, 2) := by decide +kernel
theorem dc_M_init_78 : decode cb_M_init 78 = .ok (.newarray .int, 2) := by decide +kernel
theorem dc_M_init_80 : decode cb_M_init 80 = .ok (.putfield 38, 3) := by decide +kernel
theorem dc_M_init_83 : decode cb_M_init 83 = .ok (.aload_n 0, 1) := by decide +kernel
theorem dc_M_init_84 : decode cb_M_init 84 = .ok (.bipush 7, 2) := by decide +kernel
theorem dc_M_init_86 : decode cb_M_init 86 = .ok (.newarray .int, 2) := by decide +kernel
theorem dc_M_init_88 : decode cb_M_init 88 = .ok (.putfield 41, 3) := by decide +kernel
theorem dc_M_init_91 : decode cb_M_init 91 = .ok (.aload_n 0, 1) := by decide +kernel
theorem dc_M_init_92 : decode cb_M_init 92 = .ok (.bipush 49, 2) := by decide +kernel
theorem dc_M_init_94 : decode cb_M_init 94 = .ok (.newarray .int, 2) := by decide +kernel
theorem dc_M_init_96 : decode cb_M_init 96 = .ok (.putfield 44, 3) := by decide +kernel
theorem dc_M_init_99 : decode cb_M_init 99 = .ok (.aload_n 0, 1) := by decide +kernel
theorem dc_M_init_100 : decode cb_M_init 100 = .ok (.bipush 49, 2) := by decide +kernel
theorem dc_M_init_102 : decode cb_M_init 102 = .ok (.newarray .int, 2) := by decide +kernel
theorem dc_M_init_104 : decode cb_M_init 104 = .ok (.putfield 47, 3) := by decide +kernel
theorem dc_M_init_107 : decode cb_M_init 107 = .ok (.aload_n 0, 1) := by decide +kernel
theorem dc_M_init_108 : decode cb_M_init 108 = .ok (.bipush 49, 2) := by decide +kernel
theorem dc_M_init_110 : decode cb_M_init 110 = .ok (.newarray .boolean, 2) := by decide +kernel
theorem dc_M_init_112 : decode cb_M_init 112 = .ok (.putfield 50, 3) := by decide +kernel
theorem dc_M_init_115 : decode cb_M_init 115 = .ok (.aload_n 0, 1) := by decide +kernel
theorem dc_M_init_116 : decode cb_M_init 116 = .ok (.sipush 128, 3) := by decide +kernel
theorem dc_M_init_119 : decode cb_M_init 119 = .ok (.newarray .boolean, 2) := by decide +kernel
theorem dc_M_init_121 : decode cb_M_init 121 = .ok (.putfield 54, 3) := by decide +kernel
theorem dc_M_init_124 : decode cb_M_init 124 = .ok (.aload_n 0, 1) := by decide +kernel
theorem dc_M_init_125 : decode cb_M_init 125 = .ok (.sipush 128, 3) := by decide +kernel
theorem dc_M_init_128 : decode cb_M_init 128 = .ok (.newarray .long, 2) := by decide +kernel
theorem dc_M_init_130 : decode cb_M_init 130 = .ok (.putfield 57, 3) := by decide +kernel
theorem dc_M_init_133 : decode cb_M_init 133 = .ok (.aload_n 0, 1) := by decide +kernel
theorem dc_M_init_134 : decode cb_M_init 134 = .ok (.bipush 7, 2) := by decide +kernel
theorem dc_M_init_136 : decode cb_M_init 136 = .ok (.newarray .int, 2) := by decide +kernel
theorem dc_M_init_138 : decode cb_M_init 138 = .ok (.putfield 61, 3) := by decide +kernel
theorem dc_M_init_141 : decode cb_M_init 141 = .ok (.aload_n 0, 1) := by decide +kernel
theorem dc_M_init_142 : decode cb_M_init 142 = .ok (.bipush 7, 2) := by decide +kernel
theorem dc_M_init_144 : decode cb_M_init 144 = .ok (.newarray .int, 2) := by decide +kernel
theorem dc_M_init_146 : decode cb_M_init 146 = .ok (.putfield 64, 3) := by decide +kernel
theorem dc_M_init_149 : decode cb_M_init 149 = .ok (.aload_n 0, 1) := by decide +kernel
theorem dc_M_init_150 : decode cb_M_init 150 = .ok (.iconst (-1), 1) := by decide +kernel
theorem dc_M_init_151 : decode cb_M_init 151 = .ok (.putfield 67, 3) := by decide +kernel
theorem dc_M_init_154 : decode cb_M_init 154 = .ok (.aload_n 0, 1) := by decide +kernel
theorem dc_M_init_155 : decode cb_M_init 155 = .ok (.iconst (-1), 1) := by decide +kernel
theorem dc_M_init_156 : decode cb_M_init 156 = .ok (.putfield 70, 3) := by decide +kernel
theorem dc_M_init_159 : decode cb_M_init 159 = .ok (.aload_n 0, 1) := by decide +kernel
theorem dc_M_init_160 : decode cb_M_init 160 = .ok (.invokevirtual 73, 3) := by decide +kernel
theorem dc_M_init_163 : decode cb_M_init 163 = .ok (.return_, 1) := by decide +kernel
theorem dc_M_reset_0 : decode cb_M_reset 0 = .ok (.aload_n 0, 1) := by decide +kernel
theorem dc_M_reset_1 : decode cb_M_reset 1 = .ok (.iconst 0, 1) := by decide +kernel
theorem dc_M_reset_2 : decode cb_M_reset 2 = .ok (.putfield 76, 3) := by decide +kernel
theorem dc_M_reset_5 : decode cb_M_reset 5 = .ok (.iconst 0, 1) := by decide +kernel
theorem dc_M_reset_6 : decode cb_M_reset 6 = .ok (.istore_n 1, 1) := by decide +kernel
theorem dc_M_reset_7 : decode cb_M_reset 7 = .ok (.iload_n 1, 1) := by decide +kernel
theorem dc_M_reset_8 : decode cb_M_reset 8 = .ok (.bipush 7, 2) := by decide +kernel
theorem dc_M_reset_10 : decode cb_M_reset 10 = .ok (.if_icmp .ge 49, 3) := by decide +kernel
theorem dc_M_reset_13 : decode cb_M_reset 13 = .ok (.aload_n 0, 1) := by decide +kernel
theorem dc_M_reset_14 : decode cb_M_reset 14 = .ok (.getfield 20, 3) := by decide +kernel
theorem dc_M_reset_17 : decode cb_M_reset 17 = .ok (.iload_n 1, 1) := by decide +kernel
theorem dc_M_reset_18 : decode cb_M_reset 18 = .ok (.iload_n 1, 1) := by decide +kernel
theorem dc_M_reset_19 : decode cb_M_reset 19 = .ok (.iastore, 1) := by decide +kernel
theorem dc_M_reset_20 : decode cb_M_reset 20 = .ok (.aload_n 0, 1) := by decide +kernel
theorem dc_M_reset_21 : decode cb_M_reset 21 = .ok (.getfield 23, 3) := by decide +kernel
theorem dc_M_reset_24 : decode cb_M_reset 24 = .ok (.iload_n 1, 1) := by decide +kernel
theorem dc_M_reset_25 : decode cb_M_reset 25 = .ok (.iload_n 1, 1) := by decide +kernel
theorem dc_M_reset_26 : decode cb_M_reset 26 = .ok (.iastore, 1) := by decide +kernel
theorem dc_M_reset_27 : decode cb_M_reset 27 = .ok (.aload_n 0, 1) := by decide +kernel
theorem dc_M_reset_28 : decode cb_M_reset 28 = .ok (.getfield 26, 3) := by decide +kernel
theorem dc_M_reset_31 : decode cb_M_reset 31 = .ok (.iload_n 1, 1) := by decide +kernel
theorem dc_M_reset_32 : decode cb_M_reset 32 = .ok (.iload_n 1, 1) := by decide +kernel
theorem dc_M_reset_33 : decode cb_M_reset 33 = .ok (.aload_n 0, 1) := by decide +kernel
theorem dc_M_reset_34 : decode cb_M_reset 34 = .ok (.getfield 7, 3) := by decide +kernel
theorem dc_M_reset_37 : decode cb_M_reset 37 = .ok (.if_icmp .ge 14, 3) := by decide +kernel
theorem dc_M_reset_40 : decode cb_M_reset 40 = .ok (.aload_n 0, 1) := by decide +kernel
theorem dc_M_reset_41 : decode cb_M_reset 41 = .ok (.getfield 7, 3) := by decide +kernel
theorem dc_M_reset_44 : decode cb_M_reset 44 = .ok (.iconst 1, 1) := by decide +kernel
theorem dc_M_reset_45 : decode cb_M_reset 45 = .ok (.isub, 1) := by decide +kernel
theorem dc_M_reset_46 : decode cb_M_reset 46 = .ok (.iload_n 1, 1) := by decide +kernel
theorem dc_M_reset_47 : decode cb_M_reset 47 = .ok (.isub, 1) := by decide +kernel
theorem dc_M_reset_48 : decode cb_M_reset 48 = .ok (.goto 4, 3) := by decide +kernel
theorem dc_M_reset_51 : decode cb_M_reset 51 = .ok (.iconst 0, 1) := by decide +kernel
theorem dc_M_reset_52 : decode cb_M_reset 52 = .ok (.iastore, 1) := by decide +kernel
theorem dc_M_reset_53 : decode cb_M_reset 53 = .ok (.iinc 1 1, 3) := by decide +kernel
theorem dc_M_reset_56 : decode cb_M_reset 56 = .ok (.goto (-49), 3) := by decide +kernel
theorem dc_M_reset_59 : decode cb_M_reset 59 = .ok (.return_, 1) := by decide +kernel
theorem dc_M_thrown_0 : decode cb_M_thrown 0 = .ok (.aload_n 0, 1) := by decide +kernel
theorem dc_M_thrown_1 : decode cb_M_thrown 1 = .ok (.getfield 79, 3) := by decide +kernel
theorem dc_M_thrown_4 : decode cb_M_thrown 4 = .ok (.ireturn, 1) := by decide +kernel
theorem dc_M_goes_0 : decode cb_M_goes 0 = .ok (.aload_n 0, 1) := by decide +kernel
theorem dc_M_goes_1 : decode cb_M_goes 1 = .ok (.iload_n 1, 1) := by decide +kernel
theorem dc_M_goes_2 : decode cb_M_goes 2 = .ok (.ifCond .ne 7, 3) := by decide +kernel
theorem dc_M_goes_5 : decode cb_M_goes 5 = .ok (.iconst 1, 1) := by decide +kernel
theorem dc_M_goes_6 : decode cb_M_goes 6 = .ok (.goto 12, 3) := by decide +kernel
theorem dc_M_goes_9 : decode cb_M_goes 9 = .ok (.iload_n 2, 1) := by decide +kernel
theorem dc_M_goes_10 : decode cb_M_goes 10 = .ok (.ifCond .ne 7, 3) := by decide +kernel
theorem dc_M_goes_13 : decode cb_M_goes 13 = .ok (.iconst 2, 1) := by decide +kernel
theorem dc_M_goes_14 : decode cb_M_goes 14 = .ok (.goto 4, 3) := by decide +kernel
theorem dc_M_goes_17 : decode cb_M_goes 17 = .ok (.iconst 0, 1) := by decide +kernel
theorem dc_M_goes_18 : decode cb_M_goes 18 = .ok (.putfield 79, 3) := by decide +kernel
theorem dc_M_goes_21 : decode cb_M_goes 21 = .ok (.aload_n 0, 1) := by decide +kernel
theorem dc_M_goes_22 : decode cb_M_goes 22 = .ok (.getfield 79, 3) := by decide +kernel
theorem dc_M_goes_25 : decode cb_M_goes 25 = .ok (.ifCond .ne 7, 3) := by decide +kernel
theorem dc_M_goes_28 : decode cb_M_goes 28 = .ok (.iconst 1, 1) := by decide +kernel
theorem dc_M_goes_29 : decode cb_M_goes 29 = .ok (.goto 4, 3) := by decide +kernel
theorem dc_M_goes_32 : decode cb_M_goes 32 = .ok (.iconst 0, 1) := by decide +kernel
theorem dc_M_goes_33 : decode cb_M_goes 33 = .ok (.ireturn, 1) := by decide +kernel
theorem dc_M_within_0 : decode cb_M_within 0 = .ok (.iload_n 0, 1) := by decide +kernel
theorem dc_M_within_1 : decode cb_M_within 1 = .ok (.iload_n 1, 1) := by decide +kernel
theorem dc_M_within_2 : decode cb_M_within 2 = .ok (.if_icmp .lt 12, 3) := by decide +kernel
theorem dc_M_within_5 : decode cb_M_within 5 = .ok (.iload_n 0, 1) := by decide +kernel
theorem dc_M_within_6 : decode cb_M_within 6 = .ok (.iload_n 2, 1) := by decide +kernel
theorem dc_M_within_7 : decode cb_M_within 7 = .ok (.if_icmp .gt 7, 3) := by decide +kernel
theorem dc_M_within_10 : decode cb_M_within 10 = .ok (.iconst 1, 1) := by decide +kernel
theorem dc_M_within_11 : decode cb_M_within 11 = .ok (.goto 4, 3) := by decide +kernel
theorem dc_M_within_14 : decode cb_M_within 14 = .ok (.iconst 0, 1) := by decide +kernel
theorem dc_M_within_15 : decode cb_M_within 15 = .ok (.ireturn, 1) := by decide +kernel
theorem dc_M_isOrder_0 : decode cb_M_isOrder 0 = .ok (.iconst 0, 1) := by decide +kernel
theorem dc_M_isOrder_1 : decode cb_M_isOrder 1 = .ok (.istore_n 2, 1) := by decide +kernel
theorem dc_M_isOrder_2 : decode cb_M_isOrder 2 = .ok (.iconst 0, 1) := by decide +kernel
theorem dc_M_isOrder_3 : decode cb_M_isOrder 3 = .ok (.istore_n 3, 1) := by decide +kernel
theorem dc_M_isOrder_4 : decode cb_M_isOrder 4 = .ok (.iload_n 3, 1) := by decide +kernel
theorem dc_M_isOrder_5 : decode cb_M_isOrder 5 = .ok (.aload_n 0, 1) := by decide +kernel
theorem dc_M_isOrder_6 : decode cb_M_isOrder 6 = .ok (.getfield 7, 3) := by decide +kernel
theorem dc_M_isOrder_9 : decode cb_M_isOrder 9 = .ok (.if_icmp .ge 22, 3) := by decide +kernel
theorem dc_M_isOrder_12 : decode cb_M_isOrder 12 = .ok (.iload_n 2, 1) := by decide +kernel
theorem dc_M_isOrder_13 : decode cb_M_isOrder 13 = .ok (.iconst 1, 1) := by decide +kernel
theorem dc_M_isOrder_14 : decode cb_M_isOrder 14 = .ok (.iload_n 1, 1) := by decide +kernel
theorem dc_M_isOrder_15 : decode cb_M_isOrder 15 = .ok (.iconst 3, 1) := by decide +kernel
theorem dc_M_isOrder_16 : decode cb_M_isOrder 16 = .ok (.iload_n 3, 1) := by decide +kernel
theorem dc_M_isOrder_17 : decode cb_M_isOrder 17 = .ok (.imul, 1) := by decide +kernel
theorem dc_M_isOrder_18 : decode cb_M_isOrder 18 = .ok (.ishr, 1) := by decide +kernel
theorem dc_M_isOrder_19 : decode cb_M_isOrder 19 = .ok (.bipush 7, 2) := by decide +kernel
theorem dc_M_isOrder_21 : decode cb_M_isOrder 21 = .ok (.iand, 1) := by decide +kernel
theorem dc_M_isOrder_22 : decode cb_M_isOrder 22 = .ok (.ishl, 1) := by decide +kernel
theorem dc_M_isOrder_23 : decode cb_M_isOrder 23 = .ok (.ior, 1) := by decide +kernel
theorem dc_M_isOrder_24 : decode cb_M_isOrder 24 = .ok (.istore_n 2, 1) := by decide +kernel
theorem dc_M_isOrder_25 : decode cb_M_isOrder 25 = .ok (.iinc 3 1, 3) := by decide +kernel
theorem dc_M_isOrder_28 : decode cb_M_isOrder 28 = .ok (.goto (-24), 3) := by decide +kernel
theorem dc_M_isOrder_31 : decode cb_M_isOrder 31 = .ok (.iload_n 1, 1) := by decide +kernel
theorem dc_M_isOrder_32 : decode cb_M_isOrder 32 = .ok (.ifCond .lt 30, 3) := by decide +kernel
theorem dc_M_isOrder_35 : decode cb_M_isOrder 35 = .ok (.iload_n 1, 1) := by decide +kernel
theorem dc_M_isOrder_36 : decode cb_M_isOrder 36 = .ok (.iconst 3, 1) := by decide +kernel
theorem dc_M_isOrder_37 : decode cb_M_isOrder 37 = .ok (.aload_n 0, 1) := by decide +kernel
theorem dc_M_isOrder_38 : decode cb_M_isOrder 38 = .ok (.getfield 7, 3) := by decide +kernel
theorem dc_M_isOrder_41 : decode cb_M_isOrder 41 = .ok (.imul, 1) := by decide +kernel
theorem dc_M_isOrder_42 : decode cb_M_isOrder 42 = .ok (.ishr, 1) := by decide +kernel
theorem dc_M_isOrder_43 : decode cb_M_isOrder 43 = .ok (.ifCond .ne 19, 3) := by decide +kernel
theorem dc_M_isOrder_46 : decode cb_M_isOrder 46 = .ok (.iload_n 2, 1) := by decide +kernel
theorem dc_M_isOrder_47 : decode cb_M_isOrder 47 = .ok (.iconst 1, 1) := by decide +kernel
theorem dc_M_isOrder_48 : decode cb_M_isOrder 48 = .ok (.aload_n 0, 1) := by decide +kernel
theorem dc_M_isOrder_49 : decode cb_M_isOrder 49 = .ok (.getfield 7, 3) := by decide +kernel
theorem dc_M_isOrder_52 : decode cb_M_isOrder 52 = .ok (.ishl, 1) := by decide +kernel
theorem dc_M_isOrder_53 : decode cb_M_isOrder 53 = .ok (.iconst 1, 1) := by decide +kernel
theorem dc_M_isOrder_54 : decode cb_M_isOrder 54 = .ok (.isub, 1) := by decide +kernel
theorem dc_M_isOrder_55 : decode cb_M_isOrder 55 = .ok (.if_icmp .ne 7, 3) := by decide +kernel
theorem dc_M_isOrder_58 : decode cb_M_isOrder 58 = .ok (.iconst 1, 1) := by decide +kernel
theorem dc_M_isOrder_59 : decode cb_M_isOrder 59 = .ok (.goto 4, 3) := by decide +kernel
theorem dc_M_isOrder_62 : decode cb_M_isOrder 62 = .ok (.iconst 0, 1) := by decide +kernel
theorem dc_M_isOrder_63 : decode cb_M_isOrder 63 = .ok (.ireturn, 1) := by decide +kernel
theorem dc_M_unpack_0 : decode cb_M_unpack 0 = .ok (.iconst 0, 1) := by decide +kernel
theorem dc_M_unpack_1 : decode cb_M_unpack 1 = .ok (.istore 4, 2) := by decide +kernel
theorem dc_M_unpack_3 : decode cb_M_unpack 3 = .ok (.iload 4, 2) := by decide +kernel
theorem dc_M_unpack_5 : decode cb_M_unpack 5 = .ok (.aload_n 0, 1) := by decide +kernel
theorem dc_M_unpack_6 : decode cb_M_unpack 6 = .ok (.getfield 7, 3) := by decide +kernel
theorem dc_M_unpack_9 : decode cb_M_unpack 9 = .ok (.if_icmp .ge 24, 3) := by decide +kernel
theorem dc_M_unpack_12 : decode cb_M_unpack 12 = .ok (.aload_n 2, 1) := by decide +kernel
theorem dc_M_unpack_13 : decode cb_M_unpack 13 = .ok (.iload_n 3, 1) := by decide +kernel
theorem dc_M_unpack_14 : decode cb_M_unpack 14 = .ok (.iload 4, 2) := by decide +kernel
theorem dc_M_unpack_16 : decode cb_M_unpack 16 = .ok (.iadd, 1) := by decide +kernel
theorem dc_M_unpack_17 : decode cb_M_unpack 17 = .ok (.iload_n 1, 1) := by decide +kernel
theorem dc_M_unpack_18 : decode cb_M_unpack 18 = .ok (.iconst 3, 1) := by decide +kernel
theorem dc_M_unpack_19 : decode cb_M_unpack 19 = .ok (.iload 4, 2) := by decide +kernel
theorem dc_M_unpack_21 : decode cb_M_unpack 21 = .ok (.imul, 1) := by decide +kernel
theorem dc_M_unpack_22 : decode cb_M_unpack 22 = .ok (.ishr, 1) := by decide +kernel
theorem dc_M_unpack_23 : decode cb_M_unpack 23 = .ok (.bipush 7, 2) := by decide +kernel
theorem dc_M_unpack_25 : decode cb_M_unpack 25 = .ok (.iand, 1) := by decide +kernel
theorem dc_M_unpack_26 : decode cb_M_unpack 26 = .ok (.iastore, 1) := by decide +kernel
theorem dc_M_unpack_27 : decode cb_M_unpack 27 = .ok (.iinc 4 1, 3) := by decide +kernel
theorem dc_M_unpack_30 : decode cb_M_unpack 30 = .ok (.goto (-27), 3) := by decide +kernel
theorem dc_M_unpack_33 : decode cb_M_unpack 33 = .ok (.return_, 1) := by decide +kernel
theorem dc_M_packed_0 : decode cb_M_packed 0 = .ok (.iconst 0, 1) := by decide +kernel
theorem dc_M_packed_1 : decode cb_M_packed 1 = .ok (.istore_n 3, 1) := by decide +kernel
theorem dc_M_packed_2 : decode cb_M_packed 2 = .ok (.iconst 0, 1) := by decide +kernel
theorem dc_M_packed_3 : decode cb_M_packed 3 = .ok (.istore 4, 2) := by decide +kernel
theorem dc_M_packed_5 : decode cb_M_packed 5 = .ok (.iload 4, 2) := by decide +kernel
theorem dc_M_packed_7 : decode cb_M_packed 7 = .ok (.aload_n 0, 1) := by decide +kernel
theorem dc_M_packed_8 : decode cb_M_packed 8 = .ok (.getfield 7, 3) := by decide +kernel
theorem dc_M_packed_11 : decode cb_M_packed 11 = .ok (.if_icmp .ge 23, 3) := by decide +kernel
theorem dc_M_packed_14 : decode cb_M_packed 14 = .ok (.iload_n 3, 1) := by decide +kernel
theorem dc_M_packed_15 : decode cb_M_packed 15 = .ok (.aload_n 1, 1) := by decide +kernel
theorem dc_M_packed_16 : decode cb_M_packed 16 = .ok (.iload_n 2, 1) := by decide +kernel
theorem dc_M_packed_17 : decode cb_M_packed 17 = .ok (.iload 4, 2) := by decide +kernel
theorem dc_M_packed_19 : decode cb_M_packed 19 = .ok (.iadd, 1) := by decide +kernel
theorem dc_M_packed_20 : decode cb_M_packed 20 = .ok (.iaload, 1) := by decide +kernel
theorem dc_M_packed_21 : decode cb_M_packed 21 = .ok (.iconst 3, 1) := by decide +kernel
theorem dc_M_packed_22 : decode cb_M_packed 22 = .ok (.iload 4, 2) := by decide +kernel
theorem dc_M_packed_24 : decode cb_M_packed 24 = .ok (.imul, 1) := by decide +kernel
theorem dc_M_packed_25 : decode cb_M_packed 25 = .ok (.ishl, 1) := by decide +kernel
theorem dc_M_packed_26 : decode cb_M_packed 26 = .ok (.ior, 1) := by decide +kernel
theorem dc_M_packed_27 : decode cb_M_packed 27 = .ok (.istore_n 3, 1) := by decide +kernel
theorem dc_M_packed_28 : decode cb_M_packed 28 = .ok (.iinc 4 1, 3) := by decide +kernel
theorem dc_M_packed_31 : decode cb_M_packed 31 = .ok (.goto (-26), 3) := by decide +kernel
theorem dc_M_packed_34 : decode cb_M_packed 34 = .ok (.iload_n 3, 1) := by decide +kernel
theorem dc_M_packed_35 : decode cb_M_packed 35 = .ok (.ireturn, 1) := by decide +kernel
theorem dc_M_candidates_0 : decode cb_M_candidates 0 = .ok (.aload_n 0, 1) := by decide +kernel
theorem dc_M_candidates_1 : decode cb_M_candidates 1 = .ok (.iload_n 1, 1) := by decide +kernel
theorem dc_M_candidates_2 : decode cb_M_candidates 2 = .ok (.iconst 2, 1) := by decide +kernel
theorem dc_M_candidates_3 : decode cb_M_candidates 3 = .ok (.bipush 7, 2) := by decide +kernel
theorem dc_M_candidates_5 : decode cb_M_candidates 5 = .ok (.invokestatic 82, 3) := by decide +kernel
theorem dc_M_candidates_8 : decode cb_M_candidates 8 = .ok (.iconst 1, 1) := by decide +kernel
theorem dc_M_candidates_9 : decode cb_M_candidates 9 = .ok (.invokevirtual 86, 3) := by decide +kernel
theorem dc_M_candidates_12 : decode cb_M_candidates 12 = .ok (.ifCond .ne 5, 3) := by decide +kernel
theorem dc_M_candidates_15 : decode cb_M_candidates 15 = .ok (.iconst 0, 1) := by decide +kernel
theorem dc_M_candidates_16 : decode cb_M_candidates 16 = .ok (.ireturn, 1) := by decide +kernel
theorem dc_M_candidates_17 : decode cb_M_candidates 17 = .ok (.aload_n 0, 1) := by decide +kernel
theorem dc_M_candidates_18 : decode cb_M_candidates 18 = .ok (.getfield 7, 3) := by decide +kernel
theorem dc_M_candidates_21 : decode cb_M_candidates 21 = .ok (.istore_n 2, 1) := by decide +kernel
theorem dc_M_candidates_22 : decode cb_M_candidates 22 = .ok (.aload_n 0, 1) := by decide +kernel
theorem dc_M_candidates_23 : decode cb_M_candidates 23 = .ok (.iload_n 1, 1) := by decide +kernel
theorem dc_M_candidates_24 : decode cb_M_candidates 24 = .ok (.putfield 7, 3) := by decide +kernel
theorem dc_M_candidates_27 : decode cb_M_candidates 27 = .ok (.aload_n 0, 1) := by decide +kernel
theorem dc_M_candidates_28 : decode cb_M_candidates 28 = .ok (.invokevirtual 73, 3) := by decide +kernel
theorem dc_M_candidates_31 : decode cb_M_candidates 31 = .ok (.iload_n 2, 1) := by decide +kernel
theorem dc_M_candidates_32 : decode cb_M_candidates 32 = .ok (.ireturn, 1) := by decide +kernel
theorem dc_M_ballot_0 : decode cb_M_ballot 0 = .ok (.aload_n 0, 1) := by decide +kernel
theorem dc_M_ballot_1 : decode cb_M_ballot 1 = .ok (.aload_n 0, 1) := by decide +kernel
theorem dc_M_ballot_2 : decode cb_M_ballot 2 = .ok (.iload_n 1, 1) := by decide +kernel
theorem dc_M_ballot_3 : decode cb_M_ballot 3 = .ok (.invokevirtual 90, 3) := by decide +kernel
theorem dc_M_ballot_6 : decode cb_M_ballot 6 = .ok (.ifCond .eq 17, 3) := by decide +kernel
theorem dc_M_ballot_9 : decode cb_M_ballot 9 = .ok (.iload_n 2, 1) := by decide +kernel
theorem dc_M_ballot_10 : decode cb_M_ballot 10 = .ok (.iconst 0, 1) := by decide +kernel
theorem dc_M_ballot_11 : decode cb_M_ballot 11 = .ok (.ldc 94, 2) := by decide +kernel
theorem dc_M_ballot_13 : decode cb_M_ballot 13 = .ok (.invokestatic 82, 3) := by decide +kernel
theorem dc_M_ballot_16 : decode cb_M_ballot 16 = .ok (.ifCond .eq 7, 3) := by decide +kernel
theorem dc_M_ballot_19 : decode cb_M_ballot 19 = .ok (.iconst 1, 1) := by decide +kernel
theorem dc_M_ballot_20 : decode cb_M_ballot 20 = .ok (.goto 4, 3) := by decide +kernel
theorem dc_M_ballot_23 : decode cb_M_ballot 23 = .ok (.iconst 0, 1) := by decide +kernel
theorem dc_M_ballot_24 : decode cb_M_ballot 24 = .ok (.aload_n 0, 1) := by decide +kernel
theorem dc_M_ballot_25 : decode cb_M_ballot 25 = .ok (.getfield 76, 3) := by decide +kernel
theorem dc_M_ballot_28 : decode cb_M_ballot 28 = .ok (.bipush 20, 2) := by decide +kernel
theorem dc_M_ballot_30 : decode cb_M_ballot 30 = .ok (.if_icmp .ge 7, 3) := by decide +kernel
theorem dc_M_ballot_33 : decode cb_M_ballot 33 = .ok (.iconst 1, 1) := by decide +kernel
theorem dc_M_ballot_34 : decode cb_M_ballot 34 = .ok (.goto 4, 3) := by decide +kernel
theorem dc_M_ballot_37 : decode cb_M_ballot 37 = .ok (.iconst 0, 1) := by decide +kernel
theorem dc_M_ballot_38 : decode cb_M_ballot 38 = .ok (.invokevirtual 86, 3) := by decide +kernel
theorem dc_M_ballot_41 : decode cb_M_ballot 41 = .ok (.ifCond .ne 5, 3) := by decide +kernel
theorem dc_M_ballot_44 : decode cb_M_ballot 44 = .ok (.iconst 0, 1) := by decide +kernel
theorem dc_M_ballot_45 : decode cb_M_ballot 45 = .ok (.ireturn, 1) := by decide +kernel
theorem dc_M_ballot_46 : decode cb_M_ballot 46 = .ok (.aload_n 0, 1) := by decide +kernel
theorem dc_M_ballot_47 : decode cb_M_ballot 47 = .ok (.iload_n 1, 1) := by decide +kernel
theorem dc_M_ballot_48 : decode cb_M_ballot 48 = .ok (.aload_n 0, 1) := by decide +kernel
theorem dc_M_ballot_49 : decode cb_M_ballot 49 = .ok (.getfield 13, 3) := by decide +kernel
theorem dc_M_ballot_52 : decode cb_M_ballot 52 = .ok (.bipush 7, 2) := by decide +kernel
theorem dc_M_ballot_54 : decode cb_M_ballot 54 = .ok (.aload_n 0, 1) := by decide +kernel
theorem dc_M_ballot_55 : decode cb_M_ballot 55 = .ok (.getfield 76, 3) := by decide +kernel
theorem dc_M_ballot_58 : decode cb_M_ballot 58 = .ok (.imul, 1) := by decide +kernel
theorem dc_M_ballot_59 : decode cb_M_ballot 59 = .ok (.invokevirtual 95, 3) := by decide +kernel
theorem dc_M_ballot_62 : decode cb_M_ballot 62 = .ok (.aload_n 0, 1) := by decide +kernel
theorem dc_M_ballot_63 : decode cb_M_ballot 63 = .ok (.getfield 17, 3) := by decide +kernel
theorem dc_M_ballot_66 : decode cb_M_ballot 66 = .ok (.aload_n 0, 1) := by decide +kernel
theorem dc_M_ballot_67 : decode cb_M_ballot 67 = .ok (.getfield 76, 3) := by decide +kernel
theorem dc_M_ballot_70 : decode cb_M_ballot 70 = .ok (.iload_n 2, 1) := by decide +kernel
theorem dc_M_ballot_71 : decode cb_M_ballot 71 = .ok (.iastore, 1) := by decide +kernel
theorem dc_M_ballot_72 : decode cb_M_ballot 72 = .ok (.aload_n 0, 1) := by decide +kernel
theorem dc_M_ballot_73 : decode cb_M_ballot 73 = .ok (.dup, 1) := by decide +kernel
theorem dc_M_ballot_74 : decode cb_M_ballot 74 = .ok (.getfield 76, 3) := by decide +kernel
theorem dc_M_ballot_77 : decode cb_M_ballot 77 = .ok (.iconst 1, 1) := by decide +kernel
theorem dc_M_ballot_78 : decode cb_M_ballot 78 = .ok (.iadd, 1) := by decide +kernel
theorem dc_M_ballot_79 : decode cb_M_ballot 79 = .ok (.putfield 76, 3) := by decide +kernel
theorem dc_M_ballot_82 : decode cb_M_ballot 82 = .ok (.aload_n 0, 1) := by decide +kernel
theorem dc_M_ballot_83 : decode cb_M_ballot 83 = .ok (.getfield 76, 3) := by decide +kernel
theorem dc_M_ballot_86 : decode cb_M_ballot 86 = .ok (.iconst 1, 1) := by decide +kernel
theorem dc_M_ballot_87 : decode cb_M_ballot 87 = .ok (.isub, 1) := by decide +kernel
theorem dc_M_ballot_88 : decode cb_M_ballot 88 = .ok (.ireturn, 1) := by decide +kernel
theorem dc_M_isType_0 : decode cb_M_isType 0 = .ok (.iload_n 1, 1) := by decide +kernel
theorem dc_M_isType_1 : decode cb_M_isType 1 = .ok (.ifCond .lt 15, 3) := by decide +kernel
theorem dc_M_isType_4 : decode cb_M_isType 4 = .ok (.iload_n 1, 1) := by decide +kernel
theorem dc_M_isType_5 : decode cb_M_isType 5 = .ok (.aload_n 0, 1) := by decide +kernel
theorem dc_M_isType_6 : decode cb_M_isType 6 = .ok (.getfield 76, 3) := by decide +kernel
theorem dc_M_isType_9 : decode cb_M_isType 9 = .ok (.if_icmp .ge 7, 3) := by decide +kernel
theorem dc_M_isType_12 : decode cb_M_isType 12 = .ok (.iconst 1, 1) := by decide +kernel
theorem dc_M_isType_13 : decode cb_M_isType 13 = .ok (.goto 4, 3) := by decide +kernel
theorem dc_M_isType_16 : decode cb_M_isType 16 = .ok (.iconst 0, 1) := by decide +kernel
theorem dc_M_isType_17 : decode cb_M_isType 17 = .ok (.ireturn, 1) := by decide +kernel
theorem dc_M_amount_0 : decode cb_M_amount 0 = .ok (.aload_n 0, 1) := by decide +kernel
theorem dc_M_amount_1 : decode cb_M_amount 1 = .ok (.aload_n 0, 1) := by decide +kernel
theorem dc_M_amount_2 : decode cb_M_amount 2 = .ok (.iload_n 1, 1) := by decide +kernel
theorem dc_M_amount_3 : decode cb_M_amount 3 = .ok (.invokevirtual 99, 3) := by decide +kernel
theorem dc_M_amount_6 : decode cb_M_amount 6 = .ok (.iload_n 2, 1) := by decide +kernel
theorem dc_M_amount_7 : decode cb_M_amount 7 = .ok (.iconst 0, 1) := by decide +kernel
theorem dc_M_amount_8 : decode cb_M_amount 8 = .ok (.ldc 94, 2) := by decide +kernel
theorem dc_M_amount_10 : decode cb_M_amount 10 = .ok (.invokestatic 82, 3) := by decide +kernel
theorem dc_M_amount_13 : decode cb_M_amount 13 = .ok (.invokevirtual 86, 3) := by decide +kernel
theorem dc_M_amount_16 : decode cb_M_amount 16 = .ok (.ifCond .ne 5, 3) := by decide +kernel
