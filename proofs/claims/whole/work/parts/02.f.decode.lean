theorem dc_O_placeOf_24 : decode cb_O_placeOf 24 = .ok (.iload_n 2, 1) := by decide +kernel
theorem dc_O_placeOf_25 : decode cb_O_placeOf 25 = .ok (.ireturn, 1) := by decide +kernel
theorem dc_O_raised_0 : decode cb_O_raised 0 = .ok (.iload_n 0, 1) := by decide +kernel
theorem dc_O_raised_1 : decode cb_O_raised 1 = .ok (.iload_n 1, 1) := by decide +kernel
theorem dc_O_raised_2 : decode cb_O_raised 2 = .ok (.iload_n 2, 1) := by decide +kernel
theorem dc_O_raised_3 : decode cb_O_raised 3 = .ok (.invokestatic 13, 3) := by decide +kernel
theorem dc_O_raised_6 : decode cb_O_raised 6 = .ok (.istore_n 3, 1) := by decide +kernel
theorem dc_O_raised_7 : decode cb_O_raised 7 = .ok (.iload_n 3, 1) := by decide +kernel
theorem dc_O_raised_8 : decode cb_O_raised 8 = .ok (.ifCond .eq 8, 3) := by decide +kernel
theorem dc_O_raised_11 : decode cb_O_raised 11 = .ok (.iload_n 3, 1) := by decide +kernel
theorem dc_O_raised_12 : decode cb_O_raised 12 = .ok (.iload_n 2, 1) := by decide +kernel
theorem dc_O_raised_13 : decode cb_O_raised 13 = .ok (.if_icmp .ne 5, 3) := by decide +kernel
theorem dc_O_raised_16 : decode cb_O_raised 16 = .ok (.iload_n 0, 1) := by decide +kernel
theorem dc_O_raised_17 : decode cb_O_raised 17 = .ok (.ireturn, 1) := by decide +kernel
theorem dc_O_raised_18 : decode cb_O_raised 18 = .ok (.iload_n 0, 1) := by decide +kernel
theorem dc_O_raised_19 : decode cb_O_raised 19 = .ok (.iload_n 3, 1) := by decide +kernel
theorem dc_O_raised_20 : decode cb_O_raised 20 = .ok (.invokestatic 7, 3) := by decide +kernel
theorem dc_O_raised_23 : decode cb_O_raised 23 = .ok (.iload_n 0, 1) := by decide +kernel
theorem dc_O_raised_24 : decode cb_O_raised 24 = .ok (.iload_n 3, 1) := by decide +kernel
theorem dc_O_raised_25 : decode cb_O_raised 25 = .ok (.iconst 1, 1) := by decide +kernel
theorem dc_O_raised_26 : decode cb_O_raised 26 = .ok (.isub, 1) := by decide +kernel
theorem dc_O_raised_27 : decode cb_O_raised 27 = .ok (.invokestatic 7, 3) := by decide +kernel
theorem dc_O_raised_30 : decode cb_O_raised 30 = .ok (.ixor, 1) := by decide +kernel
theorem dc_O_raised_31 : decode cb_O_raised 31 = .ok (.istore 4, 2) := by decide +kernel
theorem dc_O_raised_33 : decode cb_O_raised 33 = .ok (.iload_n 0, 1) := by decide +kernel
theorem dc_O_raised_34 : decode cb_O_raised 34 = .ok (.iload 4, 2) := by decide +kernel
theorem dc_O_raised_36 : decode cb_O_raised 36 = .ok (.iconst 3, 1) := by decide +kernel
theorem dc_O_raised_37 : decode cb_O_raised 37 = .ok (.iload_n 3, 1) := by decide +kernel
theorem dc_O_raised_38 : decode cb_O_raised 38 = .ok (.imul, 1) := by decide +kernel
theorem dc_O_raised_39 : decode cb_O_raised 39 = .ok (.ishl, 1) := by decide +kernel
theorem dc_O_raised_40 : decode cb_O_raised 40 = .ok (.ixor, 1) := by decide +kernel
theorem dc_O_raised_41 : decode cb_O_raised 41 = .ok (.iload 4, 2) := by decide +kernel
theorem dc_O_raised_43 : decode cb_O_raised 43 = .ok (.iconst 3, 1) := by decide +kernel
theorem dc_O_raised_44 : decode cb_O_raised 44 = .ok (.iload_n 3, 1) := by decide +kernel
theorem dc_O_raised_45 : decode cb_O_raised 45 = .ok (.iconst 1, 1) := by decide +kernel
theorem dc_O_raised_46 : decode cb_O_raised 46 = .ok (.isub, 1) := by decide +kernel
theorem dc_O_raised_47 : decode cb_O_raised 47 = .ok (.imul, 1) := by decide +kernel
theorem dc_O_raised_48 : decode cb_O_raised 48 = .ok (.ishl, 1) := by decide +kernel
theorem dc_O_raised_49 : decode cb_O_raised 49 = .ok (.ixor, 1) := by decide +kernel
theorem dc_O_raised_50 : decode cb_O_raised 50 = .ok (.ireturn, 1) := by decide +kernel
theorem dc_O_without_0 : decode cb_O_without 0 = .ok (.iconst 0, 1) := by decide +kernel
theorem dc_O_without_1 : decode cb_O_without 1 = .ok (.istore_n 3, 1) := by decide +kernel
theorem dc_O_without_2 : decode cb_O_without 2 = .ok (.iconst 0, 1) := by decide +kernel
theorem dc_O_without_3 : decode cb_O_without 3 = .ok (.istore 4, 2) := by decide +kernel
theorem dc_O_without_5 : decode cb_O_without 5 = .ok (.iconst 0, 1) := by decide +kernel
theorem dc_O_without_6 : decode cb_O_without 6 = .ok (.istore 5, 2) := by decide +kernel
theorem dc_O_without_8 : decode cb_O_without 8 = .ok (.iload 5, 2) := by decide +kernel
theorem dc_O_without_10 : decode cb_O_without 10 = .ok (.iload_n 2, 1) := by decide +kernel
theorem dc_O_without_11 : decode cb_O_without 11 = .ok (.if_icmp .ge 40, 3) := by decide +kernel
theorem dc_O_without_14 : decode cb_O_without 14 = .ok (.iload_n 0, 1) := by decide +kernel
theorem dc_O_without_15 : decode cb_O_without 15 = .ok (.iload 5, 2) := by decide +kernel
theorem dc_O_without_17 : decode cb_O_without 17 = .ok (.invokestatic 7, 3) := by decide +kernel
theorem dc_O_without_20 : decode cb_O_without 20 = .ok (.istore 6, 2) := by decide +kernel
theorem dc_O_without_22 : decode cb_O_without 22 = .ok (.iload 6, 2) := by decide +kernel
theorem dc_O_without_24 : decode cb_O_without 24 = .ok (.iload_n 1, 1) := by decide +kernel
theorem dc_O_without_25 : decode cb_O_without 25 = .ok (.if_icmp .eq 20, 3) := by decide +kernel
theorem dc_O_without_28 : decode cb_O_without 28 = .ok (.iload_n 3, 1) := by decide +kernel
theorem dc_O_without_29 : decode cb_O_without 29 = .ok (.iload 6, 2) := by decide +kernel
theorem dc_O_without_31 : decode cb_O_without 31 = .ok (.iload_n 1, 1) := by decide +kernel
theorem dc_O_without_32 : decode cb_O_without 32 = .ok (.invokestatic 17, 3) := by decide +kernel
theorem dc_O_without_35 : decode cb_O_without 35 = .ok (.iconst 3, 1) := by decide +kernel
theorem dc_O_without_36 : decode cb_O_without 36 = .ok (.iload 4, 2) := by decide +kernel
theorem dc_O_without_38 : decode cb_O_without 38 = .ok (.imul, 1) := by decide +kernel
theorem dc_O_without_39 : decode cb_O_without 39 = .ok (.ishl, 1) := by decide +kernel
theorem dc_O_without_40 : decode cb_O_without 40 = .ok (.ior, 1) := by decide +kernel
theorem dc_O_without_41 : decode cb_O_without 41 = .ok (.istore_n 3, 1) := by decide +kernel
theorem dc_O_without_42 : decode cb_O_without 42 = .ok (.iinc 4 1, 3) := by decide +kernel
theorem dc_O_without_45 : decode cb_O_without 45 = .ok (.iinc 5 1, 3) := by decide +kernel
theorem dc_O_without_48 : decode cb_O_without 48 = .ok (.goto (-40), 3) := by decide +kernel
theorem dc_O_without_51 : decode cb_O_without 51 = .ok (.iload_n 3, 1) := by decide +kernel
theorem dc_O_without_52 : decode cb_O_without 52 = .ok (.ireturn, 1) := by decide +kernel
theorem dc_O_numberWithout_0 : decode cb_O_numberWithout 0 = .ok (.iload_n 0, 1) := by decide +kernel
theorem dc_O_numberWithout_1 : decode cb_O_numberWithout 1 = .ok (.iload_n 1, 1) := by decide +kernel
theorem dc_O_numberWithout_2 : decode cb_O_numberWithout 2 = .ok (.if_icmp .le 9, 3) := by decide +kernel
theorem dc_O_numberWithout_5 : decode cb_O_numberWithout 5 = .ok (.iload_n 0, 1) := by decide +kernel
theorem dc_O_numberWithout_6 : decode cb_O_numberWithout 6 = .ok (.iconst 1, 1) := by decide +kernel
theorem dc_O_numberWithout_7 : decode cb_O_numberWithout 7 = .ok (.isub, 1) := by decide +kernel
theorem dc_O_numberWithout_8 : decode cb_O_numberWithout 8 = .ok (.goto 4, 3) := by decide +kernel
theorem dc_O_numberWithout_11 : decode cb_O_numberWithout 11 = .ok (.iload_n 0, 1) := by decide +kernel
theorem dc_O_numberWithout_12 : decode cb_O_numberWithout 12 = .ok (.ireturn, 1) := by decide +kernel
theorem dc_O_standTogether_0 : decode cb_O_standTogether 0 = .ok (.iload_n 2, 1) := by decide +kernel
theorem dc_O_standTogether_1 : decode cb_O_standTogether 1 = .ok (.istore_n 3, 1) := by decide +kernel
theorem dc_O_standTogether_2 : decode cb_O_standTogether 2 = .ok (.iconst 0, 1) := by decide +kernel
theorem dc_O_standTogether_3 : decode cb_O_standTogether 3 = .ok (.istore 4, 2) := by decide +kernel
theorem dc_O_standTogether_5 : decode cb_O_standTogether 5 = .ok (.iconst 0, 1) := by decide +kernel
theorem dc_O_standTogether_6 : decode cb_O_standTogether 6 = .ok (.istore 5, 2) := by decide +kernel
theorem dc_O_standTogether_8 : decode cb_O_standTogether 8 = .ok (.iload 5, 2) := by decide +kernel
theorem dc_O_standTogether_10 : decode cb_O_standTogether 10 = .ok (.iload_n 2, 1) := by decide +kernel
theorem dc_O_standTogether_11 : decode cb_O_standTogether 11 = .ok (.if_icmp .ge 33, 3) := by decide +kernel
theorem dc_O_standTogether_14 : decode cb_O_standTogether 14 = .ok (.iload_n 1, 1) := by decide +kernel
theorem dc_O_standTogether_15 : decode cb_O_standTogether 15 = .ok (.iload_n 0, 1) := by decide +kernel
theorem dc_O_standTogether_16 : decode cb_O_standTogether 16 = .ok (.iload 5, 2) := by decide +kernel
theorem dc_O_standTogether_18 : decode cb_O_standTogether 18 = .ok (.invokestatic 7, 3) := by decide +kernel
theorem dc_O_standTogether_21 : decode cb_O_standTogether 21 = .ok (.ishr, 1) := by decide +kernel
theorem dc_O_standTogether_22 : decode cb_O_standTogether 22 = .ok (.iconst 1, 1) := by decide +kernel
theorem dc_O_standTogether_23 : decode cb_O_standTogether 23 = .ok (.iand, 1) := by decide +kernel
theorem dc_O_standTogether_24 : decode cb_O_standTogether 24 = .ok (.ifCond .eq 14, 3) := by decide +kernel
theorem dc_O_standTogether_27 : decode cb_O_standTogether 27 = .ok (.iload_n 3, 1) := by decide +kernel
theorem dc_O_standTogether_28 : decode cb_O_standTogether 28 = .ok (.iload 5, 2) := by decide +kernel
theorem dc_O_standTogether_30 : decode cb_O_standTogether 30 = .ok (.invokestatic 20, 3) := by decide +kernel
theorem dc_O_standTogether_33 : decode cb_O_standTogether 33 = .ok (.istore_n 3, 1) := by decide +kernel
theorem dc_O_standTogether_34 : decode cb_O_standTogether 34 = .ok (.iload 5, 2) := by decide +kernel
theorem dc_O_standTogether_36 : decode cb_O_standTogether 36 = .ok (.istore 4, 2) := by decide +kernel
theorem dc_O_standTogether_38 : decode cb_O_standTogether 38 = .ok (.iinc 5 1, 3) := by decide +kernel
theorem dc_O_standTogether_41 : decode cb_O_standTogether 41 = .ok (.goto (-33), 3) := by decide +kernel
theorem dc_O_standTogether_44 : decode cb_O_standTogether 44 = .ok (.iload 4, 2) := by decide +kernel
theorem dc_O_standTogether_46 : decode cb_O_standTogether 46 = .ok (.iload_n 3, 1) := by decide +kernel
theorem dc_O_standTogether_47 : decode cb_O_standTogether 47 = .ok (.isub, 1) := by decide +kernel
theorem dc_O_standTogether_48 : decode cb_O_standTogether 48 = .ok (.iconst 1, 1) := by decide +kernel
theorem dc_O_standTogether_49 : decode cb_O_standTogether 49 = .ok (.iadd, 1) := by decide +kernel
theorem dc_O_standTogether_50 : decode cb_O_standTogether 50 = .ok (.iload_n 1, 1) := by decide +kernel
theorem dc_O_standTogether_51 : decode cb_O_standTogether 51 = .ok (.invokestatic 25, 3) := by decide +kernel
theorem dc_O_standTogether_54 : decode cb_O_standTogether 54 = .ok (.if_icmp .ne 7, 3) := by decide +kernel
theorem dc_O_standTogether_57 : decode cb_O_standTogether 57 = .ok (.iconst 1, 1) := by decide +kernel
theorem dc_O_standTogether_58 : decode cb_O_standTogether 58 = .ok (.goto 4, 3) := by decide +kernel
theorem dc_O_standTogether_61 : decode cb_O_standTogether 61 = .ok (.iconst 0, 1) := by decide +kernel
theorem dc_O_standTogether_62 : decode cb_O_standTogether 62 = .ok (.ireturn, 1) := by decide +kernel
theorem dc_S_init_0 : decode cb_S_init 0 = .ok (.aload_n 0, 1) := by decide +kernel
theorem dc_S_init_1 : decode cb_S_init 1 = .ok (.invokespecial 3, 3) := by decide +kernel
theorem dc_S_init_4 : decode cb_S_init 4 = .ok (.aload_n 0, 1) := by decide +kernel
theorem dc_S_init_5 : decode cb_S_init 5 = .ok (.bipush 7, 2) := by decide +kernel
theorem dc_S_init_7 : decode cb_S_init 7 = .ok (.newarray .int, 2) := by decide +kernel
theorem dc_S_init_9 : decode cb_S_init 9 = .ok (.putfield 9, 3) := by decide +kernel
theorem dc_S_init_12 : decode cb_S_init 12 = .ok (.return_, 1) := by decide +kernel
theorem dc_S_start_0 : decode cb_S_start 0 = .ok (.aload_n 0, 1) := by decide +kernel
theorem dc_S_start_1 : decode cb_S_start 1 = .ok (.iload_n 1, 1) := by decide +kernel
theorem dc_S_start_2 : decode cb_S_start 2 = .ok (.putfield 15, 3) := by decide +kernel
theorem dc_S_start_5 : decode cb_S_start 5 = .ok (.iconst 0, 1) := by decide +kernel
theorem dc_S_start_6 : decode cb_S_start 6 = .ok (.istore_n 2, 1) := by decide +kernel
theorem dc_S_start_7 : decode cb_S_start 7 = .ok (.iload_n 2, 1) := by decide +kernel
theorem dc_S_start_8 : decode cb_S_start 8 = .ok (.aload_n 0, 1) := by decide +kernel
theorem dc_S_start_9 : decode cb_S_start 9 = .ok (.getfield 15, 3) := by decide +kernel
theorem dc_S_start_12 : decode cb_S_start 12 = .ok (.if_icmp .ge 16, 3) := by decide +kernel
theorem dc_S_start_15 : decode cb_S_start 15 = .ok (.aload_n 0, 1) := by decide +kernel
theorem dc_S_start_16 : decode cb_S_start 16 = .ok (.getfield 9, 3) := by decide +kernel
theorem dc_S_start_19 : decode cb_S_start 19 = .ok (.iload_n 2, 1) := by decide +kernel
theorem dc_S_start_20 : decode cb_S_start 20 = .ok (.iload_n 2, 1) := by decide +kernel
theorem dc_S_start_21 : decode cb_S_start 21 = .ok (.iastore, 1) := by decide +kernel
theorem dc_S_start_22 : decode cb_S_start 22 = .ok (.iinc 2 1, 3) := by decide +kernel
theorem dc_S_start_25 : decode cb_S_start 25 = .ok (.goto (-18), 3) := by decide +kernel
theorem dc_S_start_28 : decode cb_S_start 28 = .ok (.return_, 1) := by decide +kernel
theorem dc_S_asNumber_0 : decode cb_S_asNumber 0 = .ok (.iconst 0, 1) := by decide +kernel
theorem dc_S_asNumber_1 : decode cb_S_asNumber 1 = .ok (.istore_n 1, 1) := by decide +kernel
theorem dc_S_asNumber_2 : decode cb_S_asNumber 2 = .ok (.iconst 0, 1) := by decide +kernel
theorem dc_S_asNumber_3 : decode cb_S_asNumber 3 = .ok (.istore_n 2, 1) := by decide +kernel
theorem dc_S_asNumber_4 : decode cb_S_asNumber 4 = .ok (.iload_n 2, 1) := by decide +kernel
theorem dc_S_asNumber_5 : decode cb_S_asNumber 5 = .ok (.aload_n 0, 1) := by decide +kernel
theorem dc_S_asNumber_6 : decode cb_S_asNumber 6 = .ok (.getfield 15, 3) := by decide +kernel
theorem dc_S_asNumber_9 : decode cb_S_asNumber 9 = .ok (.if_icmp .ge 22, 3) := by decide +kernel
theorem dc_S_asNumber_12 : decode cb_S_asNumber 12 = .ok (.iload_n 1, 1) := by decide +kernel
theorem dc_S_asNumber_13 : decode cb_S_asNumber 13 = .ok (.aload_n 0, 1) := by decide +kernel
theorem dc_S_asNumber_14 : decode cb_S_asNumber 14 = .ok (.getfield 9, 3) := by decide +kernel
theorem dc_S_asNumber_17 : decode cb_S_asNumber 17 = .ok (.iload_n 2, 1) := by decide +kernel
theorem dc_S_asNumber_18 : decode cb_S_asNumber 18 = .ok (.iaload, 1) := by decide +kernel
theorem dc_S_asNumber_19 : decode cb_S_asNumber 19 = .ok (.iconst 3, 1) := by decide +kernel
theorem dc_S_asNumber_20 : decode cb_S_asNumber 20 = .ok (.iload_n 2, 1) := by decide +kernel
theorem dc_S_asNumber_21 : decode cb_S_asNumber 21 = .ok (.imul, 1) := by decide +kernel
theorem dc_S_asNumber_22 : decode cb_S_asNumber 22 = .ok (.ishl, 1) := by decide +kernel
theorem dc_S_asNumber_23 : decode cb_S_asNumber 23 = .ok (.ior, 1) := by decide +kernel
theorem dc_S_asNumber_24 : decode cb_S_asNumber 24 = .ok (.istore_n 1, 1) := by decide +kernel
theorem dc_S_asNumber_25 : decode cb_S_asNumber 25 = .ok (.iinc 2 1, 3) := by decide +kernel
theorem dc_S_asNumber_28 : decode cb_S_asNumber 28 = .ok (.goto (-24), 3) := by decide +kernel
theorem dc_S_asNumber_31 : decode cb_S_asNumber 31 = .ok (.iload_n 1, 1) := by decide +kernel
theorem dc_S_asNumber_32 : decode cb_S_asNumber 32 = .ok (.ireturn, 1) := by decide +kernel
theorem dc_S_advance_0 : decode cb_S_advance 0 = .ok (.aload_n 0, 1) := by decide +kernel
theorem dc_S_advance_1 : decode cb_S_advance 1 = .ok (.getfield 15, 3) := by decide +kernel
theorem dc_S_advance_4 : decode cb_S_advance 4 = .ok (.iconst 2, 1) := by decide +kernel
theorem dc_S_advance_5 : decode cb_S_advance 5 = .ok (.isub, 1) := by decide +kernel
theorem dc_S_advance_6 : decode cb_S_advance 6 = .ok (.istore_n 1, 1) := by decide +kernel
theorem dc_S_advance_7 : decode cb_S_advance 7 = .ok (.iload_n 1, 1) := by decide +kernel
theorem dc_S_advance_8 : decode cb_S_advance 8 = .ok (.ifCond .lt 26, 3) := by decide +kernel
theorem dc_S_advance_11 : decode cb_S_advance 11 = .ok (.aload_n 0, 1) := by decide +kernel
theorem dc_S_advance_12 : decode cb_S_advance 12 = .ok (.getfield 9, 3) := by decide +kernel
theorem dc_S_advance_15 : decode cb_S_advance 15 = .ok (.iload_n 1, 1) := by decide +kernel
theorem dc_S_advance_16 : decode cb_S_advance 16 = .ok (.iaload, 1) := by decide +kernel
theorem dc_S_advance_17 : decode cb_S_advance 17 = .ok (.aload_n 0, 1) := by decide +kernel
theorem dc_S_advance_18 : decode cb_S_advance 18 = .ok (.getfield 9, 3) := by decide +kernel
theorem dc_S_advance_21 : decode cb_S_advance 21 = .ok (.iload_n 1, 1) := by decide +kernel
theorem dc_S_advance_22 : decode cb_S_advance 22 = .ok (.iconst 1, 1) := by decide +kernel
theorem dc_S_advance_23 : decode cb_S_advance 23 = .ok (.iadd, 1) := by decide +kernel
theorem dc_S_advance_24 : decode cb_S_advance 24 = .ok (.iaload, 1) := by decide +kernel
theorem dc_S_advance_25 : decode cb_S_advance 25 = .ok (.if_icmp .le 9, 3) := by decide +kernel
theorem dc_S_advance_28 : decode cb_S_advance 28 = .ok (.iinc 1 (-1), 3) := by decide +kernel
theorem dc_S_advance_31 : decode cb_S_advance 31 = .ok (.goto (-24), 3) := by decide +kernel
theorem dc_S_advance_34 : decode cb_S_advance 34 = .ok (.iload_n 1, 1) := by decide +kernel
theorem dc_S_advance_35 : decode cb_S_advance 35 = .ok (.ifCond .ge 5, 3) := by decide +kernel
theorem dc_S_advance_38 : decode cb_S_advance 38 = .ok (.iconst 0, 1) := by decide +kernel
theorem dc_S_advance_39 : decode cb_S_advance 39 = .ok (.ireturn, 1) := by decide +kernel
theorem dc_S_advance_40 : decode cb_S_advance 40 = .ok (.aload_n 0, 1) := by decide +kernel
theorem dc_S_advance_41 : decode cb_S_advance 41 = .ok (.getfield 15, 3) := by decide +kernel
theorem dc_S_advance_44 : decode cb_S_advance 44 = .ok (.iconst 1, 1) := by decide +kernel
theorem dc_S_advance_45 : decode cb_S_advance 45 = .ok (.isub, 1) := by decide +kernel
theorem dc_S_advance_46 : decode cb_S_advance 46 = .ok (.istore_n 2, 1) := by decide +kernel
theorem dc_S_advance_47 : decode cb_S_advance 47 = .ok (.iload_n 2, 1) := by decide +kernel
theorem dc_S_advance_48 : decode cb_S_advance 48 = .ok (.iload_n 1, 1) := by decide +kernel
theorem dc_S_advance_49 : decode cb_S_advance 49 = .ok (.iconst 1, 1) := by decide +kernel
theorem dc_S_advance_50 : decode cb_S_advance 50 = .ok (.iadd, 1) := by decide +kernel
theorem dc_S_advance_51 : decode cb_S_advance 51 = .ok (.if_icmp .le 24, 3) := by decide +kernel
theorem dc_S_advance_54 : decode cb_S_advance 54 = .ok (.aload_n 0, 1) := by decide +kernel
theorem dc_S_advance_55 : decode cb_S_advance 55 = .ok (.getfield 9, 3) := by decide +kernel
theorem dc_S_advance_58 : decode cb_S_advance 58 = .ok (.iload_n 2, 1) := by decide +kernel
theorem dc_S_advance_59 : decode cb_S_advance 59 = .ok (.iaload, 1) := by decide +kernel
theorem dc_S_advance_60 : decode cb_S_advance 60 = .ok (.aload_n 0, 1) := by decide +kernel
theorem dc_S_advance_61 : decode cb_S_advance 61 = .ok (.getfield 9, 3) := by decide +kernel
theorem dc_S_advance_64 : decode cb_S_advance 64 = .ok (.iload_n 1, 1) := by decide +kernel
theorem dc_S_advance_65 : decode cb_S_advance 65 = .ok (.iaload, 1) := by decide +kernel
theorem dc_S_advance_66 : decode cb_S_advance 66 = .ok (.if_icmp .ge 9, 3) := by decide +kernel
theorem dc_S_advance_69 : decode cb_S_advance 69 = .ok (.iinc 2 (-1), 3) := by decide +kernel
theorem dc_S_advance_72 : decode cb_S_advance 72 = .ok (.goto (-25), 3) := by decide +kernel
theorem dc_S_advance_75 : decode cb_S_advance 75 = .ok (.aload_n 0, 1) := by decide +kernel
theorem dc_S_advance_76 : decode cb_S_advance 76 = .ok (.iload_n 1, 1) := by decide +kernel
theorem dc_S_advance_77 : decode cb_S_advance 77 = .ok (.iload_n 2, 1) := by decide +kernel
theorem dc_S_advance_78 : decode cb_S_advance 78 = .ok (.invokevirtual 19, 3) := by decide +kernel
theorem dc_S_advance_81 : decode cb_S_advance 81 = .ok (.iload_n 1, 1) := by decide +kernel
theorem dc_S_advance_82 : decode cb_S_advance 82 = .ok (.iconst 1, 1) := by decide +kernel
theorem dc_S_advance_83 : decode cb_S_advance 83 = .ok (.iadd, 1) := by decide +kernel
theorem dc_S_advance_84 : decode cb_S_advance 84 = .ok (.istore_n 3, 1) := by decide +kernel
theorem dc_S_advance_85 : decode cb_S_advance 85 = .ok (.aload_n 0, 1) := by decide +kernel
theorem dc_S_advance_86 : decode cb_S_advance 86 = .ok (.getfield 15, 3) := by decide +kernel
theorem dc_S_advance_89 : decode cb_S_advance 89 = .ok (.iconst 1, 1) := by decide +kernel
theorem dc_S_advance_90 : decode cb_S_advance 90 = .ok (.isub, 1) := by decide +kernel
theorem dc_S_advance_91 : decode cb_S_advance 91 = .ok (.istore 4, 2) := by decide +kernel
theorem dc_S_advance_93 : decode cb_S_advance 93 = .ok (.iload_n 3, 1) := by decide +kernel
theorem dc_S_advance_94 : decode cb_S_advance 94 = .ok (.iload 4, 2) := by decide +kernel
theorem dc_S_advance_96 : decode cb_S_advance 96 = .ok (.if_icmp .ge 19, 3) := by decide +kernel
theorem dc_S_advance_99 : decode cb_S_advance 99 = .ok (.aload_n 0, 1) := by decide +kernel
theorem dc_S_advance_100 : decode cb_S_advance 100 = .ok (.iload_n 3, 1) := by decide +kernel
theorem dc_S_advance_101 : decode cb_S_advance 101 = .ok (.iload 4, 2) := by decide +kernel
theorem dc_S_advance_103 : decode cb_S_advance 103 = .ok (.invokevirtual 19, 3) := by decide +kernel
theorem dc_S_advance_106 : decode cb_S_advance 106 = .ok (.iinc 3 1, 3) := by decide +kernel
theorem dc_S_advance_109 : decode cb_S_advance 109 = .ok (.iinc 4 (-1), 3) := by decide +kernel
theorem dc_S_advance_112 : decode cb_S_advance 112 = .ok (.goto (-19), 3) := by decide +kernel
theorem dc_S_advance_115 : decode cb_S_advance 115 = .ok (.iconst 1, 1) := by decide +kernel
theorem dc_S_advance_116 : decode cb_S_advance 116 = .ok (.ireturn, 1) := by decide +kernel
theorem dc_S_swap_0 : decode cb_S_swap 0 = .ok (.aload_n 0, 1) := by decide +kernel
theorem dc_S_swap_1 : decode cb_S_swap 1 = .ok (.getfield 9, 3) := by decide +kernel
theorem dc_S_swap_4 : decode cb_S_swap 4 = .ok (.iload_n 1, 1) := by decide +kernel
theorem dc_S_swap_5 : decode cb_S_swap 5 = .ok (.iaload, 1) := by decide +kernel
theorem dc_S_swap_6 : decode cb_S_swap 6 = .ok (.istore_n 3, 1) := by decide +kernel
theorem dc_S_swap_7 : decode cb_S_swap 7 = .ok (.aload_n 0, 1) := by decide +kernel
theorem dc_S_swap_8 : decode cb_S_swap 8 = .ok (.getfield 9, 3) := by decide +kernel
theorem dc_S_swap_11 : decode cb_S_swap 11 = .ok (.iload_n 1, 1) := by decide +kernel
theorem dc_S_swap_12 : decode cb_S_swap 12 = .ok (.aload_n 0, 1) := by decide +kernel
theorem dc_S_swap_13 : decode cb_S_swap 13 = .ok (.getfield 9, 3) := by decide +kernel
theorem dc_S_swap_16 : decode cb_S_swap 16 = .ok (.iload_n 2, 1) := by decide +kernel
theorem dc_S_swap_17 : decode cb_S_swap 17 = .ok (.iaload, 1) := by decide +kernel
theorem dc_S_swap_18 : decode cb_S_swap 18 = .ok (.iastore, 1) := by decide +kernel
theorem dc_S_swap_19 : decode cb_S_swap 19 = .ok (.aload_n 0, 1) := by decide +kernel
theorem dc_S_swap_20 : decode cb_S_swap 20 = .ok (.getfield 9, 3) := by decide +kernel
theorem dc_S_swap_23 : decode cb_S_swap 23 = .ok (.iload_n 2, 1) := by decide +kernel
theorem dc_S_swap_24 : decode cb_S_swap 24 = .ok (.iload_n 3, 1) := by decide +kernel
theorem dc_S_swap_25 : decode cb_S_swap 25 = .ok (.iastore, 1) := by decide +kernel
theorem dc_S_swap_26 : decode cb_S_swap 26 = .ok (.return_, 1) := by decide +kernel
theorem dc_H_init_0 : decode cb_H_init 0 = .ok (.aload_n 0, 1) := by decide +kernel
theorem dc_H_init_1 : decode cb_H_init 1 = .ok (.invokespecial 3, 3) := by decide +kernel
theorem dc_H_init_4 : decode cb_H_init 4 = .ok (.aload_n 0, 1) := by decide +kernel
theorem dc_H_init_5 : decode cb_H_init 5 = .ok (.bipush 7, 2) := by decide +kernel
theorem dc_H_init_7 : decode cb_H_init 7 = .ok (.bipush 7, 2) := by decide +kernel
theorem dc_H_init_9 : decode cb_H_init 9 = .ok (.multianewarray 9 2, 4) := by decide +kernel
theorem dc_H_init_13 : decode cb_H_init 13 = .ok (.putfield 11, 3) := by decide +kernel
theorem dc_H_init_16 : decode cb_H_init 16 = .ok (.return_, 1) := by decide +kernel
theorem dc_H_measure_0 : decode cb_H_measure 0 = .ok (.iconst 0, 1) := by decide +kernel
theorem dc_H_measure_1 : decode cb_H_measure 1 = .ok (.istore_n 2, 1) := by decide +kernel
theorem dc_H_measure_2 : decode cb_H_measure 2 = .ok (.iload_n 2, 1) := by decide +kernel
theorem dc_H_measure_3 : decode cb_H_measure 3 = .ok (.aload_n 1, 1) := by decide +kernel
theorem dc_H_measure_4 : decode cb_H_measure 4 = .ok (.getfield 16, 3) := by decide +kernel
theorem dc_H_measure_7 : decode cb_H_measure 7 = .ok (.if_icmp .ge 54, 3) := by decide +kernel
theorem dc_H_measure_10 : decode cb_H_measure 10 = .ok (.iconst 0, 1) := by decide +kernel
theorem dc_H_measure_11 : decode cb_H_measure 11 = .ok (.istore_n 3, 1) := by decide +kernel
theorem dc_H_measure_12 : decode cb_H_measure 12 = .ok (.iload_n 3, 1) := by decide +kernel
theorem dc_H_measure_13 : decode cb_H_measure 13 = .ok (.aload_n 1, 1) := by decide +kernel
theorem dc_H_measure_14 : decode cb_H_measure 14 = .ok (.getfield 16, 3) := by decide +kernel
theorem dc_H_measure_17 : decode cb_H_measure 17 = .ok (.if_icmp .ge 38, 3) := by decide +kernel
theorem dc_H_measure_20 : decode cb_H_measure 20 = .ok (.aload_n 0, 1) := by decide +kernel
theorem dc_H_measure_21 : decode cb_H_measure 21 = .ok (.getfield 11, 3) := by decide +kernel
theorem dc_H_measure_24 : decode cb_H_measure 24 = .ok (.iload_n 2, 1) := by decide +kernel
theorem dc_H_measure_25 : decode cb_H_measure 25 = .ok (.aaload, 1) := by decide +kernel
theorem dc_H_measure_26 : decode cb_H_measure 26 = .ok (.iload_n 3, 1) := by decide +kernel
theorem dc_H_measure_27 : decode cb_H_measure 27 = .ok (.aload_n 1, 1) := by decide +kernel
theorem dc_H_measure_28 : decode cb_H_measure 28 = .ok (.iload_n 2, 1) := by decide +kernel
theorem dc_H_measure_29 : decode cb_H_measure 29 = .ok (.iload_n 3, 1) := by decide +kernel
theorem dc_H_measure_30 : decode cb_H_measure 30 = .ok (.invokevirtual 22, 3) := by decide +kernel
theorem dc_H_measure_33 : decode cb_H_measure 33 = .ok (.ifCond .eq 14, 3) := by decide +kernel
theorem dc_H_measure_36 : decode cb_H_measure 36 = .ok (.aload_n 1, 1) := by decide +kernel
theorem dc_H_measure_37 : decode cb_H_measure 37 = .ok (.getfield 26, 3) := by decide +kernel
theorem dc_H_measure_40 : decode cb_H_measure 40 = .ok (.iload_n 2, 1) := by decide +kernel
theorem dc_H_measure_41 : decode cb_H_measure 41 = .ok (.aaload, 1) := by decide +kernel
theorem dc_H_measure_42 : decode cb_H_measure 42 = .ok (.iload_n 3, 1) := by decide +kernel
theorem dc_H_measure_43 : decode cb_H_measure 43 = .ok (.iaload, 1) := by decide +kernel
theorem dc_H_measure_44 : decode cb_H_measure 44 = .ok (.goto 4, 3) := by decide +kernel
theorem dc_H_measure_47 : decode cb_H_measure 47 = .ok (.iconst 0, 1) := by decide +kernel
theorem dc_H_measure_48 : decode cb_H_measure 48 = .ok (.iastore, 1) := by decide +kernel
theorem dc_H_measure_49 : decode cb_H_measure 49 = .ok (.iinc 3 1, 3) := by decide +kernel
theorem dc_H_measure_52 : decode cb_H_measure 52 = .ok (.goto (-40), 3) := by decide +kernel
theorem dc_H_measure_55 : decode cb_H_measure 55 = .ok (.iinc 2 1, 3) := by decide +kernel
theorem dc_H_measure_58 : decode cb_H_measure 58 = .ok (.goto (-56), 3) := by decide +kernel
theorem dc_H_measure_61 : decode cb_H_measure 61 = .ok (.iconst 0, 1) := by decide +kernel
theorem dc_H_measure_62 : decode cb_H_measure 62 = .ok (.istore_n 2, 1) := by decide +kernel
theorem dc_H_measure_63 : decode cb_H_measure 63 = .ok (.iload_n 2, 1) := by decide +kernel
theorem dc_H_measure_64 : decode cb_H_measure 64 = .ok (.aload_n 1, 1) := by decide +kernel
theorem dc_H_measure_65 : decode cb_H_measure 65 = .ok (.getfield 16, 3) := by decide +kernel
theorem dc_H_measure_68 : decode cb_H_measure 68 = .ok (.if_icmp .ge 35, 3) := by decide +kernel
theorem dc_H_measure_71 : decode cb_H_measure 71 = .ok (.iconst 0, 1) := by decide +kernel
theorem dc_H_measure_72 : decode cb_H_measure 72 = .ok (.istore_n 3, 1) := by decide +kernel
theorem dc_H_measure_73 : decode cb_H_measure 73 = .ok (.iload_n 3, 1) := by decide +kernel
theorem dc_H_measure_74 : decode cb_H_measure 74 = .ok (.aload_n 1, 1) := by decide +kernel
theorem dc_H_measure_75 : decode cb_H_measure 75 = .ok (.getfield 16, 3) := by decide +kernel
theorem dc_H_measure_78 : decode cb_H_measure 78 = .ok (.if_icmp .ge 19, 3) := by decide +kernel
theorem dc_H_measure_81 : decode cb_H_measure 81 = .ok (.aload_n 0, 1) := by decide +kernel
theorem dc_H_measure_82 : decode cb_H_measure 82 = .ok (.iload_n 3, 1) := by decide +kernel
theorem dc_H_measure_83 : decode cb_H_measure 83 = .ok (.iload_n 2, 1) := by decide +kernel
theorem dc_H_measure_84 : decode cb_H_measure 84 = .ok (.aload_n 1, 1) := by decide +kernel
theorem dc_H_measure_85 : decode cb_H_measure 85 = .ok (.getfield 16, 3) := by decide +kernel
theorem dc_H_measure_88 : decode cb_H_measure 88 = .ok (.invokevirtual 29, 3) := by decide +kernel
theorem dc_H_measure_91 : decode cb_H_measure 91 = .ok (.iinc 3 1, 3) := by decide +kernel
theorem dc_H_measure_94 : decode cb_H_measure 94 = .ok (.goto (-21), 3) := by decide +kernel
theorem dc_H_measure_97 : decode cb_H_measure 97 = .ok (.iinc 2 1, 3) := by decide +kernel
theorem dc_H_measure_100 : decode cb_H_measure 100 = .ok (.goto (-37), 3) := by decide +kernel
theorem dc_H_measure_103 : decode cb_H_measure 103 = .ok (.return_, 1) := by decide +kernel
theorem dc_H_widen_0 : decode cb_H_widen 0 = .ok (.aload_n 0, 1) := by decide +kernel
theorem dc_H_widen_1 : decode cb_H_widen 1 = .ok (.getfield 11, 3) := by decide +kernel
theorem dc_H_widen_4 : decode cb_H_widen 4 = .ok (.iload_n 1, 1) := by decide +kernel
theorem dc_H_widen_5 : decode cb_H_widen 5 = .ok (.aaload, 1) := by decide +kernel
theorem dc_H_widen_6 : decode cb_H_widen 6 = .ok (.astore 4, 2) := by decide +kernel
theorem dc_H_widen_8 : decode cb_H_widen 8 = .ok (.iconst 0, 1) := by decide +kernel
theorem dc_H_widen_9 : decode cb_H_widen 9 = .ok (.istore 5, 2) := by decide +kernel
theorem dc_H_widen_11 : decode cb_H_widen 11 = .ok (.iload 5, 2) := by decide +kernel
theorem dc_H_widen_13 : decode cb_H_widen 13 = .ok (.iload_n 3, 1) := by decide +kernel
theorem dc_H_widen_14 : decode cb_H_widen 14 = .ok (.if_icmp .ge 44, 3) := by decide +kernel
theorem dc_H_widen_17 : decode cb_H_widen 17 = .ok (.iload 5, 2) := by decide +kernel
theorem dc_H_widen_19 : decode cb_H_widen 19 = .ok (.iload_n 1, 1) := by decide +kernel
theorem dc_H_widen_20 : decode cb_H_widen 20 = .ok (.if_icmp .eq 32, 3) := by decide +kernel
theorem dc_H_widen_23 : decode cb_H_widen 23 = .ok (.aload 4, 2) := by decide +kernel
theorem dc_H_widen_25 : decode cb_H_widen 25 = .ok (.iload 5, 2) := by decide +kernel
theorem dc_H_widen_27 : decode cb_H_widen 27 = .ok (.aload 4, 2) := by decide +kernel
theorem dc_H_widen_29 : decode cb_H_widen 29 = .ok (.iload 5, 2) := by decide +kernel
theorem dc_H_widen_31 : decode cb_H_widen 31 = .ok (.iaload, 1) := by decide +kernel
theorem dc_H_widen_32 : decode cb_H_widen 32 = .ok (.aload 4, 2) := by decide +kernel
theorem dc_H_widen_34 : decode cb_H_widen 34 = .ok (.iload_n 2, 1) := by decide +kernel
theorem dc_H_widen_35 : decode cb_H_widen 35 = .ok (.iaload, 1) := by decide +kernel
theorem dc_H_widen_36 : decode cb_H_widen 36 = .ok (.aload_n 0, 1) := by decide +kernel
theorem dc_H_widen_37 : decode cb_H_widen 37 = .ok (.getfield 11, 3) := by decide +kernel
theorem dc_H_widen_40 : decode cb_H_widen 40 = .ok (.iload_n 2, 1) := by decide +kernel
theorem dc_H_widen_41 : decode cb_H_widen 41 = .ok (.aaload, 1) := by decide +kernel
theorem dc_H_widen_42 : decode cb_H_widen 42 = .ok (.iload 5, 2) := by decide +kernel
theorem dc_H_widen_44 : decode cb_H_widen 44 = .ok (.iaload, 1) := by decide +kernel
theorem dc_H_widen_45 : decode cb_H_widen 45 = .ok (.invokestatic 33, 3) := by decide +kernel
theorem dc_H_widen_48 : decode cb_H_widen 48 = .ok (.invokestatic 39, 3) := by decide +kernel
theorem dc_H_widen_51 : decode cb_H_widen 51 = .ok (.iastore, 1) := by decide +kernel
theorem dc_H_widen_52 : decode cb_H_widen 52 = .ok (.iinc 5 1, 3) := by decide +kernel
theorem dc_H_widen_55 : decode cb_H_widen 55 = .ok (.goto (-44), 3) := by decide +kernel
theorem dc_H_widen_58 : decode cb_H_widen 58 = .ok (.return_, 1) := by decide +kernel
theorem dc_H_winnerSet_0 : decode cb_H_winnerSet 0 = .ok (.aload_n 0, 1) := by decide +kernel
theorem dc_H_winnerSet_1 : decode cb_H_winnerSet 1 = .ok (.aload_n 1, 1) := by decide +kernel
theorem dc_H_winnerSet_2 : decode cb_H_winnerSet 2 = .ok (.invokevirtual 42, 3) := by decide +kernel
theorem dc_H_winnerSet_5 : decode cb_H_winnerSet 5 = .ok (.aload_n 1, 1) := by decide +kernel
theorem dc_H_winnerSet_6 : decode cb_H_winnerSet 6 = .ok (.invokevirtual 46, 3) := by decide +kernel
theorem dc_H_winnerSet_9 : decode cb_H_winnerSet 9 = .ok (.istore_n 2, 1) := by decide +kernel
theorem dc_H_winnerSet_10 : decode cb_H_winnerSet 10 = .ok (.iconst 0, 1) := by decide +kernel
theorem dc_H_winnerSet_11 : decode cb_H_winnerSet 11 = .ok (.istore_n 3, 1) := by decide +kernel
theorem dc_H_winnerSet_12 : decode cb_H_winnerSet 12 = .ok (.iload_n 3, 1) := by decide +kernel
theorem dc_H_winnerSet_13 : decode cb_H_winnerSet 13 = .ok (.aload_n 1, 1) := by decide +kernel
theorem dc_H_winnerSet_14 : decode cb_H_winnerSet 14 = .ok (.getfield 16, 3) := by decide +kernel
theorem dc_H_winnerSet_17 : decode cb_H_winnerSet 17 = .ok (.if_icmp .ge 56, 3) := by decide +kernel
theorem dc_H_winnerSet_20 : decode cb_H_winnerSet 20 = .ok (.iconst 0, 1) := by decide +kernel
theorem dc_H_winnerSet_21 : decode cb_H_winnerSet 21 = .ok (.istore 4, 2) := by decide +kernel
theorem dc_H_winnerSet_23 : decode cb_H_winnerSet 23 = .ok (.iload 4, 2) := by decide +kernel
theorem dc_H_winnerSet_25 : decode cb_H_winnerSet 25 = .ok (.aload_n 1, 1) := by decide +kernel
theorem dc_H_winnerSet_26 : decode cb_H_winnerSet 26 = .ok (.getfield 16, 3) := by decide +kernel
theorem dc_H_winnerSet_29 : decode cb_H_winnerSet 29 = .ok (.if_icmp .ge 38, 3) := by decide +kernel
theorem dc_H_winnerSet_32 : decode cb_H_winnerSet 32 = .ok (.aload_n 0, 1) := by decide +kernel
theorem dc_H_winnerSet_33 : decode cb_H_winnerSet 33 = .ok (.getfield 11, 3) := by decide +kernel
theorem dc_H_winnerSet_36 : decode cb_H_winnerSet 36 = .ok (.iload_n 3, 1) := by decide +kernel
theorem dc_H_winnerSet_37 : decode cb_H_winnerSet 37 = .ok (.aaload, 1) := by decide +kernel
theorem dc_H_winnerSet_38 : decode cb_H_winnerSet 38 = .ok (.iload 4, 2) := by decide +kernel
theorem dc_H_winnerSet_40 : decode cb_H_winnerSet 40 = .ok (.iaload, 1) := by decide +kernel
theorem dc_H_winnerSet_41 : decode cb_H_winnerSet 41 = .ok (.aload_n 0, 1) := by decide +kernel
theorem dc_H_winnerSet_42 : decode cb_H_winnerSet 42 = .ok (.getfield 11, 3) := by decide +kernel
theorem dc_H_winnerSet_45 : decode cb_H_winnerSet 45 = .ok (.iload 4, 2) := by decide +kernel
theorem dc_H_winnerSet_47 : decode cb_H_winnerSet 47 = .ok (.aaload, 1) := by decide +kernel
theorem dc_H_winnerSet_48 : decode cb_H_winnerSet 48 = .ok (.iload_n 3, 1) := by decide +kernel
theorem dc_H_winnerSet_49 : decode cb_H_winnerSet 49 = .ok (.iaload, 1) := by decide +kernel
theorem dc_H_winnerSet_50 : decode cb_H_winnerSet 50 = .ok (.if_icmp .ge 11, 3) := by decide +kernel
theorem dc_H_winnerSet_53 : decode cb_H_winnerSet 53 = .ok (.iload_n 2, 1) := by decide +kernel
theorem dc_H_winnerSet_54 : decode cb_H_winnerSet 54 = .ok (.iconst 1, 1) := by decide +kernel
theorem dc_H_winnerSet_55 : decode cb_H_winnerSet 55 = .ok (.iload_n 3, 1) := by decide +kernel
theorem dc_H_winnerSet_56 : decode cb_H_winnerSet 56 = .ok (.ishl, 1) := by decide +kernel
theorem dc_H_winnerSet_57 : decode cb_H_winnerSet 57 = .ok (.iconst (-1), 1) := by decide +kernel
theorem dc_H_winnerSet_58 : decode cb_H_winnerSet 58 = .ok (.ixor, 1) := by decide +kernel
theorem dc_H_winnerSet_59 : decode cb_H_winnerSet 59 = .ok (.iand, 1) := by decide +kernel
theorem dc_H_winnerSet_60 : decode cb_H_winnerSet 60 = .ok (.istore_n 2, 1) := by decide +kernel
theorem dc_H_winnerSet_61 : decode cb_H_winnerSet 61 = .ok (.iinc 4 1, 3) := by decide +kernel
theorem dc_H_winnerSet_64 : decode cb_H_winnerSet 64 = .ok (.goto (-41), 3) := by decide +kernel
theorem dc_H_winnerSet_67 : decode cb_H_winnerSet 67 = .ok (.iinc 3 1, 3) := by decide +kernel
theorem dc_H_winnerSet_70 : decode cb_H_winnerSet 70 = .ok (.goto (-58), 3) := by decide +kernel
theorem dc_H_winnerSet_73 : decode cb_H_winnerSet 73 = .ok (.iload_n 2, 1) := by decide +kernel
theorem dc_H_winnerSet_74 : decode cb_H_winnerSet 74 = .ok (.ireturn, 1) := by decide +kernel
theorem dc_P_init_0 : decode cb_P_init 0 = .ok (.aload_n 0, 1) := by decide +kernel
theorem dc_P_init_1 : decode cb_P_init 1 = .ok (.invokespecial 3, 3) := by decide +kernel
theorem dc_P_init_4 : decode cb_P_init 4 = .ok (.aload_n 0, 1) := by decide +kernel
theorem dc_P_init_5 : decode cb_P_init 5 = .ok (.bipush 21, 2) := by decide +kernel
theorem dc_P_init_7 : decode cb_P_init 7 = .ok (.newarray .int, 2) := by decide +kernel
theorem dc_P_init_9 : decode cb_P_init 9 = .ok (.putfield 9, 3) := by decide +kernel
theorem dc_P_init_12 : decode cb_P_init 12 = .ok (.aload_n 0, 1) := by decide +kernel
theorem dc_P_init_13 : decode cb_P_init 13 = .ok (.bipush 21, 2) := by decide +kernel
theorem dc_P_init_15 : decode cb_P_init 15 = .ok (.newarray .int, 2) := by decide +kernel
theorem dc_P_init_17 : decode cb_P_init 17 = .ok (.putfield 15, 3) := by decide +kernel
theorem dc_P_init_20 : decode cb_P_init 20 = .ok (.aload_n 0, 1) := by decide +kernel
theorem dc_P_init_21 : decode cb_P_init 21 = .ok (.bipush 7, 2) := by decide +kernel
theorem dc_P_init_23 : decode cb_P_init 23 = .ok (.newarray .int, 2) := by decide +kernel
theorem dc_P_init_25 : decode cb_P_init 25 = .ok (.putfield 18, 3) := by decide +kernel
theorem dc_P_init_28 : decode cb_P_init 28 = .ok (.aload_n 0, 1) := by decide +kernel
theorem dc_P_init_29 : decode cb_P_init 29 = .ok (.bipush 7, 2) := by decide +kernel
theorem dc_P_init_31 : decode cb_P_init 31 = .ok (.bipush 7, 2) := by decide +kernel
theorem dc_P_init_33 : decode cb_P_init 33 = .ok (.multianewarray 21 2, 4) := by decide +kernel
theorem dc_P_init_37 : decode cb_P_init 37 = .ok (.putfield 23, 3) := by decide +kernel
theorem dc_P_init_40 : decode cb_P_init 40 = .ok (.aload_n 0, 1) := by decide +kernel
theorem dc_P_init_41 : decode cb_P_init 41 = .ok (.bipush 7, 2) := by decide +kernel
theorem dc_P_init_43 : decode cb_P_init 43 = .ok (.bipush 7, 2) := by decide +kernel
theorem dc_P_init_45 : decode cb_P_init 45 = .ok (.multianewarray 21 2, 4) := by decide +kernel
theorem dc_P_init_49 : decode cb_P_init 49 = .ok (.putfield 26, 3) := by decide +kernel
theorem dc_P_init_52 : decode cb_P_init 52 = .ok (.return_, 1) := by decide +kernel
theorem dc_P_open_0 : decode cb_P_open 0 = .ok (.aload_n 0, 1) := by decide +kernel
theorem dc_P_open_1 : decode cb_P_open 1 = .ok (.iload_n 1, 1) := by decide +kernel
theorem dc_P_open_2 : decode cb_P_open 2 = .ok (.putfield 29, 3) := by decide +kernel
theorem dc_P_open_5 : decode cb_P_open 5 = .ok (.aload_n 0, 1) := by decide +kernel
theorem dc_P_open_6 : decode cb_P_open 6 = .ok (.aload_n 0, 1) := by decide +kernel
theorem dc_P_open_7 : decode cb_P_open 7 = .ok (.getfield 29, 3) := by decide +kernel
theorem dc_P_open_10 : decode cb_P_open 10 = .ok (.invokestatic 33, 3) := by decide +kernel
theorem dc_P_open_13 : decode cb_P_open 13 = .ok (.putfield 39, 3) := by decide +kernel
theorem dc_P_open_16 : decode cb_P_open 16 = .ok (.aload_n 0, 1) := by decide +kernel
theorem dc_P_open_17 : decode cb_P_open 17 = .ok (.aload_n 0, 1) := by decide +kernel
theorem dc_P_open_18 : decode cb_P_open 18 = .ok (.getfield 39, 3) := by decide +kernel
theorem dc_P_open_21 : decode cb_P_open 21 = .ok (.putfield 42, 3) := by decide +kernel
theorem dc_P_open_24 : decode cb_P_open 24 = .ok (.iconst 0, 1) := by decide +kernel
theorem dc_P_open_25 : decode cb_P_open 25 = .ok (.istore_n 2, 1) := by decide +kernel
theorem dc_P_open_26 : decode cb_P_open 26 = .ok (.iload_n 2, 1) := by decide +kernel
theorem dc_P_open_27 : decode cb_P_open 27 = .ok (.aload_n 0, 1) := by decide +kernel
theorem dc_P_open_28 : decode cb_P_open 28 = .ok (.getfield 29, 3) := by decide +kernel
theorem dc_P_open_31 : decode cb_P_open 31 = .ok (.if_icmp .ge 23, 3) := by decide +kernel
theorem dc_P_open_34 : decode cb_P_open 34 = .ok (.aload_n 0, 1) := by decide +kernel
theorem dc_P_open_35 : decode cb_P_open 35 = .ok (.getfield 18, 3) := by decide +kernel
theorem dc_P_open_38 : decode cb_P_open 38 = .ok (.iload_n 2, 1) := by decide +kernel
theorem dc_P_open_39 : decode cb_P_open 39 = .ok (.aload_n 0, 1) := by decide +kernel
theorem dc_P_open_40 : decode cb_P_open 40 = .ok (.getfield 29, 3) := by decide +kernel
theorem dc_P_open_43 : decode cb_P_open 43 = .ok (.iconst 1, 1) := by decide +kernel
theorem dc_P_open_44 : decode cb_P_open 44 = .ok (.isub, 1) := by decide +kernel
theorem dc_P_open_45 : decode cb_P_open 45 = .ok (.iload_n 2, 1) := by decide +kernel
theorem dc_P_open_46 : decode cb_P_open 46 = .ok (.isub, 1) := by decide +kernel
theorem dc_P_open_47 : decode cb_P_open 47 = .ok (.iastore, 1) := by decide +kernel
theorem dc_P_open_48 : decode cb_P_open 48 = .ok (.iinc 2 1, 3) := by decide +kernel
theorem dc_P_open_51 : decode cb_P_open 51 = .ok (.goto (-25), 3) := by decide +kernel
theorem dc_P_open_54 : decode cb_P_open 54 = .ok (.aload_n 0, 1) := by decide +kernel
theorem dc_P_open_55 : decode cb_P_open 55 = .ok (.invokevirtual 45, 3) := by decide +kernel
theorem dc_P_open_58 : decode cb_P_open 58 = .ok (.return_, 1) := by decide +kernel
theorem dc_P_empty_0 : decode cb_P_empty 0 = .ok (.aload_n 0, 1) := by decide +kernel
theorem dc_P_empty_1 : decode cb_P_empty 1 = .ok (.iconst 0, 1) := by decide +kernel
theorem dc_P_empty_2 : decode cb_P_empty 2 = .ok (.putfield 48, 3) := by decide +kernel
theorem dc_P_empty_5 : decode cb_P_empty 5 = .ok (.iconst 0, 1) := by decide +kernel
theorem dc_P_empty_6 : decode cb_P_empty 6 = .ok (.istore_n 1, 1) := by decide +kernel
theorem dc_P_empty_7 : decode cb_P_empty 7 = .ok (.iload_n 1, 1) := by decide +kernel
theorem dc_P_empty_8 : decode cb_P_empty 8 = .ok (.bipush 7, 2) := by decide +kernel
theorem dc_P_empty_10 : decode cb_P_empty 10 = .ok (.if_icmp .ge 29, 3) := by decide +kernel
theorem dc_P_empty_13 : decode cb_P_empty 13 = .ok (.aload_n 0, 1) := by decide +kernel
theorem dc_P_empty_14 : decode cb_P_empty 14 = .ok (.getfield 23, 3) := by decide +kernel
theorem dc_P_empty_17 : decode cb_P_empty 17 = .ok (.iload_n 1, 1) := by decide +kernel
theorem dc_P_empty_18 : decode cb_P_empty 18 = .ok (.aaload, 1) := by decide +kernel
theorem dc_P_empty_19 : decode cb_P_empty 19 = .ok (.iconst 0, 1) := by decide +kernel
theorem dc_P_empty_20 : decode cb_P_empty 20 = .ok (.invokestatic 51, 3) := by decide +kernel
theorem dc_P_empty_23 : decode cb_P_empty 23 = .ok (.aload_n 0, 1) := by decide +kernel
theorem dc_P_empty_24 : decode cb_P_empty 24 = .ok (.getfield 26, 3) := by decide +kernel
theorem dc_P_empty_27 : decode cb_P_empty 27 = .ok (.iload_n 1, 1) := by decide +kernel
theorem dc_P_empty_28 : decode cb_P_empty 28 = .ok (.aaload, 1) := by decide +kernel
theorem dc_P_empty_29 : decode cb_P_empty 29 = .ok (.iconst 0, 1) := by decide +kernel
theorem dc_P_empty_30 : decode cb_P_empty 30 = .ok (.invokestatic 51, 3) := by decide +kernel
theorem dc_P_empty_33 : decode cb_P_empty 33 = .ok (.iinc 1 1, 3) := by decide +kernel
theorem dc_P_empty_36 : decode cb_P_empty 36 = .ok (.goto (-29), 3) := by decide +kernel
theorem dc_P_empty_39 : decode cb_P_empty 39 = .ok (.return_, 1) := by decide +kernel
theorem dc_P_copy_0 : decode cb_P_copy 0 = .ok (.aload_n 0, 1) := by decide +kernel
theorem dc_P_copy_1 : decode cb_P_copy 1 = .ok (.aload_n 1, 1) := by decide +kernel
theorem dc_P_copy_2 : decode cb_P_copy 2 = .ok (.getfield 29, 3) := by decide +kernel
theorem dc_P_copy_5 : decode cb_P_copy 5 = .ok (.putfield 29, 3) := by decide +kernel
theorem dc_P_copy_8 : decode cb_P_copy 8 = .ok (.aload_n 0, 1) := by decide +kernel
theorem dc_P_copy_9 : decode cb_P_copy 9 = .ok (.aload_n 1, 1) := by decide +kernel
theorem dc_P_copy_10 : decode cb_P_copy 10 = .ok (.getfield 39, 3) := by decide +kernel
theorem dc_P_copy_13 : decode cb_P_copy 13 = .ok (.putfield 39, 3) := by decide +kernel
theorem dc_P_copy_16 : decode cb_P_copy 16 = .ok (.aload_n 0, 1) := by decide +kernel
theorem dc_P_copy_17 : decode cb_P_copy 17 = .ok (.aload_n 1, 1) := by decide +kernel
theorem dc_P_copy_18 : decode cb_P_copy 18 = .ok (.getfield 42, 3) := by decide +kernel
theorem dc_P_copy_21 : decode cb_P_copy 21 = .ok (.putfield 42, 3) := by decide +kernel
theorem dc_P_copy_24 : decode cb_P_copy 24 = .ok (.aload_n 1, 1) := by decide +kernel
theorem dc_P_copy_25 : decode cb_P_copy 25 = .ok (.getfield 18, 3) := by decide +kernel
theorem dc_P_copy_28 : decode cb_P_copy 28 = .ok (.iconst 0, 1) := by decide +kernel
theorem dc_P_copy_29 : decode cb_P_copy 29 = .ok (.aload_n 0, 1) := by decide +kernel
theorem dc_P_copy_30 : decode cb_P_copy 30 = .ok (.getfield 18, 3) := by decide +kernel
theorem dc_P_copy_33 : decode cb_P_copy 33 = .ok (.iconst 0, 1) := by decide +kernel
theorem dc_P_copy_34 : decode cb_P_copy 34 = .ok (.aload_n 0, 1) := by decide +kernel
theorem dc_P_copy_35 : decode cb_P_copy 35 = .ok (.getfield 29, 3) := by decide +kernel
theorem dc_P_copy_38 : decode cb_P_copy 38 = .ok (.invokestatic 57, 3) := by decide +kernel
theorem dc_P_copy_41 : decode cb_P_copy 41 = .ok (.aload_n 0, 1) := by decide +kernel
theorem dc_P_copy_42 : decode cb_P_copy 42 = .ok (.invokevirtual 45, 3) := by decide +kernel
theorem dc_P_copy_45 : decode cb_P_copy 45 = .ok (.iconst 0, 1) := by decide +kernel
theorem dc_P_copy_46 : decode cb_P_copy 46 = .ok (.istore_n 2, 1) := by decide +kernel
theorem dc_P_copy_47 : decode cb_P_copy 47 = .ok (.iload_n 2, 1) := by decide +kernel
theorem dc_P_copy_48 : decode cb_P_copy 48 = .ok (.aload_n 1, 1) := by decide +kernel
theorem dc_P_copy_49 : decode cb_P_copy 49 = .ok (.getfield 48, 3) := by decide +kernel
theorem dc_P_copy_52 : decode cb_P_copy 52 = .ok (.if_icmp .ge 26, 3) := by decide +kernel
theorem dc_P_copy_55 : decode cb_P_copy 55 = .ok (.aload_n 0, 1) := by decide +kernel
theorem dc_P_copy_56 : decode cb_P_copy 56 = .ok (.aload_n 1, 1) := by decide +kernel
theorem dc_P_copy_57 : decode cb_P_copy 57 = .ok (.getfield 9, 3) := by decide +kernel
theorem dc_P_copy_60 : decode cb_P_copy 60 = .ok (.iload_n 2, 1) := by decide +kernel
theorem dc_P_copy_61 : decode cb_P_copy 61 = .ok (.iaload, 1) := by decide +kernel
theorem dc_P_copy_62 : decode cb_P_copy 62 = .ok (.aload_n 1, 1) := by decide +kernel
theorem dc_P_copy_63 : decode cb_P_copy 63 = .ok (.getfield 15, 3) := by decide +kernel
theorem dc_P_copy_66 : decode cb_P_copy 66 = .ok (.iload_n 2, 1) := by decide +kernel
theorem dc_P_copy_67 : decode cb_P_copy 67 = .ok (.iaload, 1) := by decide +kernel
theorem dc_P_copy_68 : decode cb_P_copy 68 = .ok (.invokevirtual 63, 3) := by decide +kernel
theorem dc_P_copy_71 : decode cb_P_copy 71 = .ok (.pop, 1) := by decide +kernel
theorem dc_P_copy_72 : decode cb_P_copy 72 = .ok (.iinc 2 1, 3) := by decide +kernel
theorem dc_P_copy_75 : decode cb_P_copy 75 = .ok (.goto (-28), 3) := by decide +kernel
theorem dc_P_copy_78 : decode cb_P_copy 78 = .ok (.return_, 1) := by decide +kernel
theorem dc_P_copyWithout_0 : decode cb_P_copyWithout 0 = .ok (.aload_n 0, 1) := by decide +kernel
theorem dc_P_copyWithout_1 : decode cb_P_copyWithout 1 = .ok (.aload_n 1, 1) := by decide +kernel
theorem dc_P_copyWithout_2 : decode cb_P_copyWithout 2 = .ok (.getfield 29, 3) := by decide +kernel
theorem dc_P_copyWithout_5 : decode cb_P_copyWithout 5 = .ok (.iconst 1, 1) := by decide +kernel
theorem dc_P_copyWithout_6 : decode cb_P_copyWithout 6 = .ok (.isub, 1) := by decide +kernel
theorem dc_P_copyWithout_7 : decode cb_P_copyWithout 7 = .ok (.putfield 29, 3) := by decide +kernel
theorem dc_P_copyWithout_10 : decode cb_P_copyWithout 10 = .ok (.aload_n 0, 1) := by decide +kernel
theorem dc_P_copyWithout_11 : decode cb_P_copyWithout 11 = .ok (.aload_n 1, 1) := by decide +kernel
theorem dc_P_copyWithout_12 : decode cb_P_copyWithout 12 = .ok (.getfield 39, 3) := by decide +kernel
theorem dc_P_copyWithout_15 : decode cb_P_copyWithout 15 = .ok (.iload_n 2, 1) := by decide +kernel
theorem dc_P_copyWithout_16 : decode cb_P_copyWithout 16 = .ok (.aload_n 1, 1) := by decide +kernel
theorem dc_P_copyWithout_17 : decode cb_P_copyWithout 17 = .ok (.getfield 29, 3) := by decide +kernel
theorem dc_P_copyWithout_20 : decode cb_P_copyWithout 20 = .ok (.invokestatic 67, 3) := by decide +kernel
theorem dc_P_copyWithout_23 : decode cb_P_copyWithout 23 = .ok (.putfield 39, 3) := by decide +kernel
theorem dc_P_copyWithout_26 : decode cb_P_copyWithout 26 = .ok (.aload_n 0, 1) := by decide +kernel
theorem dc_P_copyWithout_27 : decode cb_P_copyWithout 27 = .ok (.aload_n 1, 1) := by decide +kernel
theorem dc_P_copyWithout_28 : decode cb_P_copyWithout 28 = .ok (.getfield 42, 3) := by decide +kernel
theorem dc_P_copyWithout_31 : decode cb_P_copyWithout 31 = .ok (.iload_n 2, 1) := by decide +kernel
theorem dc_P_copyWithout_32 : decode cb_P_copyWithout 32 = .ok (.aload_n 1, 1) := by decide +kernel
theorem dc_P_copyWithout_33 : decode cb_P_copyWithout 33 = .ok (.getfield 29, 3) := by decide +kernel
theorem dc_P_copyWithout_36 : decode cb_P_copyWithout 36 = .ok (.invokestatic 67, 3) := by decide +kernel
theorem dc_P_copyWithout_39 : decode cb_P_copyWithout 39 = .ok (.putfield 42, 3) := by decide +kernel
theorem dc_P_copyWithout_42 : decode cb_P_copyWithout 42 = .ok (.aload_n 1, 1) := by decide +kernel
theorem dc_P_copyWithout_43 : decode cb_P_copyWithout 43 = .ok (.getfield 18, 3) := by decide +kernel
theorem dc_P_copyWithout_46 : decode cb_P_copyWithout 46 = .ok (.iconst 0, 1) := by decide +kernel
theorem dc_P_copyWithout_47 : decode cb_P_copyWithout 47 = .ok (.aload_n 0, 1) := by decide +kernel
theorem dc_P_copyWithout_48 : decode cb_P_copyWithout 48 = .ok (.getfield 18, 3) := by decide +kernel
theorem dc_P_copyWithout_51 : decode cb_P_copyWithout 51 = .ok (.iconst 0, 1) := by decide +kernel
theorem dc_P_copyWithout_52 : decode cb_P_copyWithout 52 = .ok (.aload_n 0, 1) := by decide +kernel
theorem dc_P_copyWithout_53 : decode cb_P_copyWithout 53 = .ok (.getfield 29, 3) := by decide +kernel
theorem dc_P_copyWithout_56 : decode cb_P_copyWithout 56 = .ok (.invokestatic 57, 3) := by decide +kernel
theorem dc_P_copyWithout_59 : decode cb_P_copyWithout 59 = .ok (.aload_n 0, 1) := by decide +kernel
theorem dc_P_copyWithout_60 : decode cb_P_copyWithout 60 = .ok (.invokevirtual 45, 3) := by decide +kernel
theorem dc_P_copyWithout_63 : decode cb_P_copyWithout 63 = .ok (.iconst 0, 1) := by decide +kernel
theorem dc_P_copyWithout_64 : decode cb_P_copyWithout 64 = .ok (.istore_n 3, 1) := by decide +kernel
theorem dc_P_copyWithout_65 : decode cb_P_copyWithout 65 = .ok (.iload_n 3, 1) := by decide +kernel
theorem dc_P_copyWithout_66 : decode cb_P_copyWithout 66 = .ok (.aload_n 1, 1) := by decide +kernel
theorem dc_P_copyWithout_67 : decode cb_P_copyWithout 67 = .ok (.getfield 48, 3) := by decide +kernel
theorem dc_P_copyWithout_70 : decode cb_P_copyWithout 70 = .ok (.if_icmp .ge 34, 3) := by decide +kernel
theorem dc_P_copyWithout_73 : decode cb_P_copyWithout 73 = .ok (.aload_n 0, 1) := by decide +kernel
theorem dc_P_copyWithout_74 : decode cb_P_copyWithout 74 = .ok (.aload_n 1, 1) := by decide +kernel
theorem dc_P_copyWithout_75 : decode cb_P_copyWithout 75 = .ok (.getfield 9, 3) := by decide +kernel
theorem dc_P_copyWithout_78 : decode cb_P_copyWithout 78 = .ok (.iload_n 3, 1) := by decide +kernel
theorem dc_P_copyWithout_79 : decode cb_P_copyWithout 79 = .ok (.iaload, 1) := by decide +kernel
theorem dc_P_copyWithout_80 : decode cb_P_copyWithout 80 = .ok (.iload_n 2, 1) := by decide +kernel
theorem dc_P_copyWithout_81 : decode cb_P_copyWithout 81 = .ok (.aload_n 1, 1) := by decide +kernel
theorem dc_P_copyWithout_82 : decode cb_P_copyWithout 82 = .ok (.getfield 29, 3) := by decide +kernel
theorem dc_P_copyWithout_85 : decode cb_P_copyWithout 85 = .ok (.invokestatic 67, 3) := by decide +kernel
theorem dc_P_copyWithout_88 : decode cb_P_copyWithout 88 = .ok (.aload_n 1, 1) := by decide +kernel
theorem dc_P_copyWithout_89 : decode cb_P_copyWithout 89 = .ok (.getfield 15, 3) := by decide +kernel
theorem dc_P_copyWithout_92 : decode cb_P_copyWithout 92 = .ok (.iload_n 3, 1) := by decide +kernel
theorem dc_P_copyWithout_93 : decode cb_P_copyWithout 93 = .ok (.iaload, 1) := by decide +kernel
theorem dc_P_copyWithout_94 : decode cb_P_copyWithout 94 = .ok (.invokevirtual 63, 3) := by decide +kernel
theorem dc_P_copyWithout_97 : decode cb_P_copyWithout 97 = .ok (.pop, 1) := by decide +kernel
theorem dc_P_copyWithout_98 : decode cb_P_copyWithout 98 = .ok (.iinc 3 1, 3) := by decide +kernel
theorem dc_P_copyWithout_101 : decode cb_P_copyWithout 101 = .ok (.goto (-36), 3) := by decide +kernel
theorem dc_P_copyWithout_104 : decode cb_P_copyWithout 104 = .ok (.return_, 1) := by decide +kernel
theorem dc_P_append_0 : decode cb_P_append 0 = .ok (.aload_n 0, 1) := by decide +kernel
theorem dc_P_append_1 : decode cb_P_append 1 = .ok (.getfield 48, 3) := by decide +kernel
theorem dc_P_append_4 : decode cb_P_append 4 = .ok (.istore_n 3, 1) := by decide +kernel
theorem dc_P_append_5 : decode cb_P_append 5 = .ok (.iload_n 3, 1) := by decide +kernel
theorem dc_P_append_6 : decode cb_P_append 6 = .ok (.aload_n 0, 1) := by decide +kernel
theorem dc_P_append_7 : decode cb_P_append 7 = .ok (.getfield 9, 3) := by decide +kernel
theorem dc_P_append_10 : decode cb_P_append 10 = .ok (.arraylength, 1) := by decide +kernel
theorem dc_P_append_11 : decode cb_P_append 11 = .ok (.if_icmp .ge 33, 3) := by decide +kernel
theorem dc_P_append_14 : decode cb_P_append 14 = .ok (.aload_n 0, 1) := by decide +kernel
theorem dc_P_append_15 : decode cb_P_append 15 = .ok (.getfield 9, 3) := by decide +kernel
theorem dc_P_append_18 : decode cb_P_append 18 = .ok (.iload_n 3, 1) := by decide +kernel
theorem dc_P_append_19 : decode cb_P_append 19 = .ok (.iload_n 1, 1) := by decide +kernel
theorem dc_P_append_20 : decode cb_P_append 20 = .ok (.iastore, 1) := by decide +kernel
theorem dc_P_append_21 : decode cb_P_append 21 = .ok (.aload_n 0, 1) := by decide +kernel
theorem dc_P_append_22 : decode cb_P_append 22 = .ok (.getfield 15, 3) := by decide +kernel
theorem dc_P_append_25 : decode cb_P_append 25 = .ok (.iload_n 3, 1) := by decide +kernel
theorem dc_P_append_26 : decode cb_P_append 26 = .ok (.iload_n 2, 1) := by decide +kernel
theorem dc_P_append_27 : decode cb_P_append 27 = .ok (.iastore, 1) := by decide +kernel
theorem dc_P_append_28 : decode cb_P_append 28 = .ok (.aload_n 0, 1) := by decide +kernel
theorem dc_P_append_29 : decode cb_P_append 29 = .ok (.dup, 1) := by decide +kernel
theorem dc_P_append_30 : decode cb_P_append 30 = .ok (.getfield 48, 3) := by decide +kernel
theorem dc_P_append_33 : decode cb_P_append 33 = .ok (.iconst 1, 1) := by decide +kernel
theorem dc_P_append_34 : decode cb_P_append 34 = .ok (.iadd, 1) := by decide +kernel
theorem dc_P_append_35 : decode cb_P_append 35 = .ok (.putfield 48, 3) := by decide +kernel
theorem dc_P_append_38 : decode cb_P_append 38 = .ok (.aload_n 0, 1) := by decide +kernel
theorem dc_P_append_39 : decode cb_P_append 39 = .ok (.iload_n 1, 1) := by decide +kernel
theorem dc_P_append_40 : decode cb_P_append 40 = .ok (.iload_n 2, 1) := by decide +kernel
theorem dc_P_append_41 : decode cb_P_append 41 = .ok (.invokevirtual 71, 3) := by decide +kernel
theorem dc_P_append_44 : decode cb_P_append 44 = .ok (.iload_n 3, 1) := by decide +kernel
theorem dc_P_append_45 : decode cb_P_append 45 = .ok (.ireturn, 1) := by decide +kernel
theorem dc_P_replace_0 : decode cb_P_replace 0 = .ok (.aload_n 0, 1) := by decide +kernel
theorem dc_P_replace_1 : decode cb_P_replace 1 = .ok (.aload_n 0, 1) := by decide +kernel
theorem dc_P_replace_2 : decode cb_P_replace 2 = .ok (.getfield 9, 3) := by decide +kernel
theorem dc_P_replace_5 : decode cb_P_replace 5 = .ok (.iload_n 1, 1) := by decide +kernel
theorem dc_P_replace_6 : decode cb_P_replace 6 = .ok (.iaload, 1) := by decide +kernel
theorem dc_P_replace_7 : decode cb_P_replace 7 = .ok (.aload_n 0, 1) := by decide +kernel
theorem dc_P_replace_8 : decode cb_P_replace 8 = .ok (.getfield 15, 3) := by decide +kernel
theorem dc_P_replace_11 : decode cb_P_replace 11 = .ok (.iload_n 1, 1) := by decide +kernel
theorem dc_P_replace_12 : decode cb_P_replace 12 = .ok (.iaload, 1) := by decide +kernel
theorem dc_P_replace_13 : decode cb_P_replace 13 = .ok (.ineg, 1) := by decide +kernel
theorem dc_P_replace_14 : decode cb_P_replace 14 = .ok (.invokevirtual 71, 3) := by decide +kernel
theorem dc_P_replace_17 : decode cb_P_replace 17 = .ok (.aload_n 0, 1) := by decide +kernel
theorem dc_P_replace_18 : decode cb_P_replace 18 = .ok (.getfield 9, 3) := by decide +kernel
theorem dc_P_replace_21 : decode cb_P_replace 21 = .ok (.iload_n 1, 1) := by decide +kernel
theorem dc_P_replace_22 : decode cb_P_replace 22 = .ok (.iload_n 2, 1) := by decide +kernel
theorem dc_P_replace_23 : decode cb_P_replace 23 = .ok (.iastore, 1) := by decide +kernel
theorem dc_P_replace_24 : decode cb_P_replace 24 = .ok (.aload_n 0, 1) := by decide +kernel
theorem dc_P_replace_25 : decode cb_P_replace 25 = .ok (.getfield 15, 3) := by decide +kernel
theorem dc_P_replace_28 : decode cb_P_replace 28 = .ok (.iload_n 1, 1) := by decide +kernel
theorem dc_P_replace_29 : decode cb_P_replace 29 = .ok (.iload_n 3, 1) := by decide +kernel
theorem dc_P_replace_30 : decode cb_P_replace 30 = .ok (.iastore, 1) := by decide +kernel
theorem dc_P_replace_31 : decode cb_P_replace 31 = .ok (.aload_n 0, 1) := by decide +kernel
theorem dc_P_replace_32 : decode cb_P_replace 32 = .ok (.iload_n 2, 1) := by decide +kernel
theorem dc_P_replace_33 : decode cb_P_replace 33 = .ok (.iload_n 3, 1) := by decide +kernel
theorem dc_P_replace_34 : decode cb_P_replace 34 = .ok (.invokevirtual 71, 3) := by decide +kernel
theorem dc_P_replace_37 : decode cb_P_replace 37 = .ok (.return_, 1) := by decide +kernel
theorem dc_P_remove_0 : decode cb_P_remove 0 = .ok (.aload_n 0, 1) := by decide +kernel
theorem dc_P_remove_1 : decode cb_P_remove 1 = .ok (.aload_n 0, 1) := by decide +kernel
theorem dc_P_remove_2 : decode cb_P_remove 2 = .ok (.getfield 9, 3) := by decide +kernel
theorem dc_P_remove_5 : decode cb_P_remove 5 = .ok (.iload_n 1, 1) := by decide +kernel
theorem dc_P_remove_6 : decode cb_P_remove 6 = .ok (.iaload, 1) := by decide +kernel
theorem dc_P_remove_7 : decode cb_P_remove 7 = .ok (.aload_n 0, 1) := by decide +kernel
theorem dc_P_remove_8 : decode cb_P_remove 8 = .ok (.getfield 15, 3) := by decide +kernel
theorem dc_P_remove_11 : decode cb_P_remove 11 = .ok (.iload_n 1, 1) := by decide +kernel
theorem dc_P_remove_12 : decode cb_P_remove 12 = .ok (.iaload, 1) := by decide +kernel
theorem dc_P_remove_13 : decode cb_P_remove 13 = .ok (.ineg, 1) := by decide +kernel
theorem dc_P_remove_14 : decode cb_P_remove 14 = .ok (.invokevirtual 71, 3) := by decide +kernel
theorem dc_P_remove_17 : decode cb_P_remove 17 = .ok (.aload_n 0, 1) := by decide +kernel
theorem dc_P_remove_18 : decode cb_P_remove 18 = .ok (.dup, 1) := by decide +kernel
theorem dc_P_remove_19 : decode cb_P_remove 19 = .ok (.getfield 48, 3) := by decide +kernel
theorem dc_P_remove_22 : decode cb_P_remove 22 = .ok (.iconst 1, 1) := by decide +kernel
theorem dc_P_remove_23 : decode cb_P_remove 23 = .ok (.isub, 1) := by decide +kernel
theorem dc_P_remove_24 : decode cb_P_remove 24 = .ok (.putfield 48, 3) := by decide +kernel
theorem dc_P_remove_27 : decode cb_P_remove 27 = .ok (.iload_n 1, 1) := by decide +kernel
theorem dc_P_remove_28 : decode cb_P_remove 28 = .ok (.istore_n 2, 1) := by decide +kernel
theorem dc_P_remove_29 : decode cb_P_remove 29 = .ok (.iload_n 2, 1) := by decide +kernel
theorem dc_P_remove_30 : decode cb_P_remove 30 = .ok (.aload_n 0, 1) := by decide +kernel
theorem dc_P_remove_31 : decode cb_P_remove 31 = .ok (.getfield 48, 3) := by decide +kernel
theorem dc_P_remove_34 : decode cb_P_remove 34 = .ok (.if_icmp .ge 37, 3) := by decide +kernel
theorem dc_P_remove_37 : decode cb_P_remove 37 = .ok (.aload_n 0, 1) := by decide +kernel
theorem dc_P_remove_38 : decode cb_P_remove 38 = .ok (.getfield 9, 3) := by decide +kernel
theorem dc_P_remove_41 : decode cb_P_remove 41 = .ok (.iload_n 2, 1) := by decide +kernel
theorem dc_P_remove_42 : decode cb_P_remove 42 = .ok (.aload_n 0, 1) := by decide +kernel
theorem dc_P_remove_43 : decode cb_P_remove 43 = .ok (.getfield 9, 3) := by decide +kernel
theorem dc_P_remove_46 : decode cb_P_remove 46 = .ok (.iload_n 2, 1) := by decide +kernel
theorem dc_P_remove_47 : decode cb_P_remove 47 = .ok (.iconst 1, 1) := by decide +kernel
theorem dc_P_remove_48 : decode cb_P_remove 48 = .ok (.iadd, 1) := by decide +kernel
theorem dc_P_remove_49 : decode cb_P_remove 49 = .ok (.iaload, 1) := by decide +kernel
theorem dc_P_remove_50 : decode cb_P_remove 50 = .ok (.iastore, 1) := by decide +kernel
theorem dc_P_remove_51 : decode cb_P_remove 51 = .ok (.aload_n 0, 1) := by decide +kernel
theorem dc_P_remove_52 : decode cb_P_remove 52 = .ok (.getfield 15, 3) := by decide +kernel
theorem dc_P_remove_55 : decode cb_P_remove 55 = .ok (.iload_n 2, 1) := by decide +kernel
theorem dc_P_remove_56 : decode cb_P_remove 56 = .ok (.aload_n 0, 1) := by decide +kernel
theorem dc_P_remove_57 : decode cb_P_remove 57 = .ok (.getfield 15, 3) := by decide +kernel
theorem dc_P_remove_60 : decode cb_P_remove 60 = .ok (.iload_n 2, 1) := by decide +kernel
theorem dc_P_remove_61 : decode cb_P_remove 61 = .ok (.iconst 1, 1) := by decide +kernel
theorem dc_P_remove_62 : decode cb_P_remove 62 = .ok (.iadd, 1) := by decide +kernel
theorem dc_P_remove_63 : decode cb_P_remove 63 = .ok (.iaload, 1) := by decide +kernel
theorem dc_P_remove_64 : decode cb_P_remove 64 = .ok (.iastore, 1) := by decide +kernel
theorem dc_P_remove_65 : decode cb_P_remove 65 = .ok (.iinc 2 1, 3) := by decide +kernel
theorem dc_P_remove_68 : decode cb_P_remove 68 = .ok (.goto (-39), 3) := by decide +kernel
theorem dc_P_remove_71 : decode cb_P_remove 71 = .ok (.return_, 1) := by decide +kernel
theorem dc_P_tally_0 : decode cb_P_tally 0 = .ok (.iconst 0, 1) := by decide +kernel
theorem dc_P_tally_1 : decode cb_P_tally 1 = .ok (.istore_n 3, 1) := by decide +kernel
theorem dc_P_tally_2 : decode cb_P_tally 2 = .ok (.iload_n 3, 1) := by decide +kernel
theorem dc_P_tally_3 : decode cb_P_tally 3 = .ok (.aload_n 0, 1) := by decide +kernel
theorem dc_P_tally_4 : decode cb_P_tally 4 = .ok (.getfield 29, 3) := by decide +kernel
theorem dc_P_tally_7 : decode cb_P_tally 7 = .ok (.if_icmp .ge 71, 3) := by decide +kernel
theorem dc_P_tally_10 : decode cb_P_tally 10 = .ok (.iload_n 1, 1) := by decide +kernel
theorem dc_P_tally_11 : decode cb_P_tally 11 = .ok (.iload_n 3, 1) := by decide +kernel
theorem dc_P_tally_12 : decode cb_P_tally 12 = .ok (.invokestatic 75, 3) := by decide +kernel
theorem dc_P_tally_15 : decode cb_P_tally 15 = .ok (.istore 4, 2) := by decide +kernel
theorem dc_P_tally_17 : decode cb_P_tally 17 = .ok (.aload_n 0, 1) := by decide +kernel
theorem dc_P_tally_18 : decode cb_P_tally 18 = .ok (.getfield 23, 3) := by decide +kernel
theorem dc_P_tally_21 : decode cb_P_tally 21 = .ok (.iload 4, 2) := by decide +kernel
theorem dc_P_tally_23 : decode cb_P_tally 23 = .ok (.aaload, 1) := by decide +kernel
theorem dc_P_tally_24 : decode cb_P_tally 24 = .ok (.iload_n 3, 1) := by decide +kernel
theorem dc_P_tally_25 : decode cb_P_tally 25 = .ok (.dup2, 1) := by decide +kernel
theorem dc_P_tally_26 : decode cb_P_tally 26 = .ok (.iaload, 1) := by decide +kernel
theorem dc_P_tally_27 : decode cb_P_tally 27 = .ok (.iload_n 2, 1) := by decide +kernel
theorem dc_P_tally_28 : decode cb_P_tally 28 = .ok (.iadd, 1) := by decide +kernel
theorem dc_P_tally_29 : decode cb_P_tally 29 = .ok (.iastore, 1) := by decide +kernel
theorem dc_P_tally_30 : decode cb_P_tally 30 = .ok (.aload_n 0, 1) := by decide +kernel
theorem dc_P_tally_31 : decode cb_P_tally 31 = .ok (.getfield 26, 3) := by decide +kernel
theorem dc_P_tally_34 : decode cb_P_tally 34 = .ok (.iload 4, 2) := by decide +kernel
theorem dc_P_tally_36 : decode cb_P_tally 36 = .ok (.aaload, 1) := by decide +kernel
theorem dc_P_tally_37 : decode cb_P_tally 37 = .ok (.astore 5, 2) := by decide +kernel
theorem dc_P_tally_39 : decode cb_P_tally 39 = .ok (.iload_n 3, 1) := by decide +kernel
theorem dc_P_tally_40 : decode cb_P_tally 40 = .ok (.iconst 1, 1) := by decide +kernel
theorem dc_P_tally_41 : decode cb_P_tally 41 = .ok (.iadd, 1) := by decide +kernel
theorem dc_P_tally_42 : decode cb_P_tally 42 = .ok (.istore 6, 2) := by decide +kernel
theorem dc_P_tally_44 : decode cb_P_tally 44 = .ok (.iload 6, 2) := by decide +kernel
theorem dc_P_tally_46 : decode cb_P_tally 46 = .ok (.aload_n 0, 1) := by decide +kernel
theorem dc_P_tally_47 : decode cb_P_tally 47 = .ok (.getfield 29, 3) := by decide +kernel
theorem dc_P_tally_50 : decode cb_P_tally 50 = .ok (.if_icmp .ge 22, 3) := by decide +kernel
theorem dc_P_tally_53 : decode cb_P_tally 53 = .ok (.aload 5, 2) := by decide +kernel
theorem dc_P_tally_55 : decode cb_P_tally 55 = .ok (.iload_n 1, 1) := by decide +kernel
theorem dc_P_tally_56 : decode cb_P_tally 56 = .ok (.iload 6, 2) := by decide +kernel
theorem dc_P_tally_58 : decode cb_P_tally 58 = .ok (.invokestatic 75, 3) := by decide +kernel
theorem dc_P_tally_61 : decode cb_P_tally 61 = .ok (.dup2, 1) := by decide +kernel
theorem dc_P_tally_62 : decode cb_P_tally 62 = .ok (.iaload, 1) := by decide +kernel
theorem dc_P_tally_63 : decode cb_P_tally 63 = .ok (.iload_n 2, 1) := by decide +kernel
theorem dc_P_tally_64 : decode cb_P_tally 64 = .ok (.iadd, 1) := by decide +kernel
theorem dc_P_tally_65 : decode cb_P_tally 65 = .ok (.iastore, 1) := by decide +kernel
theorem dc_P_tally_66 : decode cb_P_tally 66 = .ok (.iinc 6 1, 3) := by decide +kernel
theorem dc_P_tally_69 : decode cb_P_tally 69 = .ok (.goto (-25), 3) := by decide +kernel
theorem dc_P_tally_72 : decode cb_P_tally 72 = .ok (.iinc 3 1, 3) := by decide +kernel
theorem dc_P_tally_75 : decode cb_P_tally 75 = .ok (.goto (-73), 3) := by decide +kernel
theorem dc_P_tally_78 : decode cb_P_tally 78 = .ok (.return_, 1) := by decide +kernel
theorem dc_P_beats_0 : decode cb_P_beats 0 = .ok (.aload_n 0, 1) := by decide +kernel
theorem dc_P_beats_1 : decode cb_P_beats 1 = .ok (.getfield 26, 3) := by decide +kernel
theorem dc_P_beats_4 : decode cb_P_beats 4 = .ok (.iload_n 1, 1) := by decide +kernel
theorem dc_P_beats_5 : decode cb_P_beats 5 = .ok (.aaload, 1) := by decide +kernel
theorem dc_P_beats_6 : decode cb_P_beats 6 = .ok (.iload_n 2, 1) := by decide +kernel
theorem dc_P_beats_7 : decode cb_P_beats 7 = .ok (.iaload, 1) := by decide +kernel
theorem dc_P_beats_8 : decode cb_P_beats 8 = .ok (.aload_n 0, 1) := by decide +kernel
theorem dc_P_beats_9 : decode cb_P_beats 9 = .ok (.getfield 26, 3) := by decide +kernel
theorem dc_P_beats_12 : decode cb_P_beats 12 = .ok (.iload_n 2, 1) := by decide +kernel
theorem dc_P_beats_13 : decode cb_P_beats 13 = .ok (.aaload, 1) := by decide +kernel
theorem dc_P_beats_14 : decode cb_P_beats 14 = .ok (.iload_n 1, 1) := by decide +kernel
theorem dc_P_beats_15 : decode cb_P_beats 15 = .ok (.iaload, 1) := by decide +kernel
theorem dc_P_beats_16 : decode cb_P_beats 16 = .ok (.if_icmp .le 7, 3) := by decide +kernel
theorem dc_P_beats_19 : decode cb_P_beats 19 = .ok (.iconst 1, 1) := by decide +kernel
theorem dc_P_beats_20 : decode cb_P_beats 20 = .ok (.goto 4, 3) := by decide +kernel
theorem dc_P_beats_23 : decode cb_P_beats 23 = .ok (.iconst 0, 1) := by decide +kernel
theorem dc_P_beats_24 : decode cb_P_beats 24 = .ok (.ireturn, 1) := by decide +kernel
theorem dc_P_beatenBy_0 : decode cb_P_beatenBy 0 = .ok (.iconst 0, 1) := by decide +kernel
theorem dc_P_beatenBy_1 : decode cb_P_beatenBy 1 = .ok (.istore_n 2, 1) := by decide +kernel
theorem dc_P_beatenBy_2 : decode cb_P_beatenBy 2 = .ok (.iconst 0, 1) := by decide +kernel
theorem dc_P_beatenBy_3 : decode cb_P_beatenBy 3 = .ok (.istore_n 3, 1) := by decide +kernel
theorem dc_P_beatenBy_4 : decode cb_P_beatenBy 4 = .ok (.iload_n 3, 1) := by decide +kernel
theorem dc_P_beatenBy_5 : decode cb_P_beatenBy 5 = .ok (.aload_n 0, 1) := by decide +kernel
theorem dc_P_beatenBy_6 : decode cb_P_beatenBy 6 = .ok (.getfield 29, 3) := by decide +kernel
theorem dc_P_beatenBy_9 : decode cb_P_beatenBy 9 = .ok (.if_icmp .ge 24, 3) := by decide +kernel
theorem dc_P_beatenBy_12 : decode cb_P_beatenBy 12 = .ok (.aload_n 0, 1) := by decide +kernel
theorem dc_P_beatenBy_13 : decode cb_P_beatenBy 13 = .ok (.iload_n 1, 1) := by decide +kernel
theorem dc_P_beatenBy_14 : decode cb_P_beatenBy 14 = .ok (.iload_n 3, 1) := by decide +kernel
theorem dc_P_beatenBy_15 : decode cb_P_beatenBy 15 = .ok (.invokevirtual 78, 3) := by decide +kernel
theorem dc_P_beatenBy_18 : decode cb_P_beatenBy 18 = .ok (.ifCond .eq 9, 3) := by decide +kernel
theorem dc_P_beatenBy_21 : decode cb_P_beatenBy 21 = .ok (.iload_n 2, 1) := by decide +kernel
theorem dc_P_beatenBy_22 : decode cb_P_beatenBy 22 = .ok (.iconst 1, 1) := by decide +kernel
theorem dc_P_beatenBy_23 : decode cb_P_beatenBy 23 = .ok (.iload_n 3, 1) := by decide +kernel
theorem dc_P_beatenBy_24 : decode cb_P_beatenBy 24 = .ok (.ishl, 1) := by decide +kernel
theorem dc_P_beatenBy_25 : decode cb_P_beatenBy 25 = .ok (.ior, 1) := by decide +kernel
theorem dc_P_beatenBy_26 : decode cb_P_beatenBy 26 = .ok (.istore_n 2, 1) := by decide +kernel
theorem dc_P_beatenBy_27 : decode cb_P_beatenBy 27 = .ok (.iinc 3 1, 3) := by decide +kernel
theorem dc_P_beatenBy_30 : decode cb_P_beatenBy 30 = .ok (.goto (-26), 3) := by decide +kernel
theorem dc_P_beatenBy_33 : decode cb_P_beatenBy 33 = .ok (.iload_n 2, 1) := by decide +kernel
theorem dc_P_beatenBy_34 : decode cb_P_beatenBy 34 = .ok (.ireturn, 1) := by decide +kernel
theorem dc_P_everyone_0 : decode cb_P_everyone 0 = .ok (.iconst 1, 1) := by decide +kernel
theorem dc_P_everyone_1 : decode cb_P_everyone 1 = .ok (.aload_n 0, 1) := by decide +kernel
theorem dc_P_everyone_2 : decode cb_P_everyone 2 = .ok (.getfield 29, 3) := by decide +kernel
theorem dc_P_everyone_5 : decode cb_P_everyone 5 = .ok (.ishl, 1) := by decide +kernel
theorem dc_P_everyone_6 : decode cb_P_everyone 6 = .ok (.iconst 1, 1) := by decide +kernel
theorem dc_P_everyone_7 : decode cb_P_everyone 7 = .ok (.isub, 1) := by decide +kernel
theorem dc_P_everyone_8 : decode cb_P_everyone 8 = .ok (.ireturn, 1) := by decide +kernel
theorem dc_P_allVoters_0 : decode cb_P_allVoters 0 = .ok (.iconst 0, 1) := by decide +kernel
theorem dc_P_allVoters_1 : decode cb_P_allVoters 1 = .ok (.istore_n 1, 1) := by decide +kernel
theorem dc_P_allVoters_2 : decode cb_P_allVoters 2 = .ok (.iconst 0, 1) := by decide +kernel
theorem dc_P_allVoters_3 : decode cb_P_allVoters 3 = .ok (.istore_n 2, 1) := by decide +kernel
theorem dc_P_allVoters_4 : decode cb_P_allVoters 4 = .ok (.iload_n 2, 1) := by decide +kernel
theorem dc_P_allVoters_5 : decode cb_P_allVoters 5 = .ok (.aload_n 0, 1) := by decide +kernel
theorem dc_P_allVoters_6 : decode cb_P_allVoters 6 = .ok (.getfield 48, 3) := by decide +kernel
theorem dc_P_allVoters_9 : decode cb_P_allVoters 9 = .ok (.if_icmp .ge 18, 3) := by decide +kernel
theorem dc_P_allVoters_12 : decode cb_P_allVoters 12 = .ok (.iload_n 1, 1) := by decide +kernel
theorem dc_P_allVoters_13 : decode cb_P_allVoters 13 = .ok (.aload_n 0, 1) := by decide +kernel
theorem dc_P_allVoters_14 : decode cb_P_allVoters 14 = .ok (.getfield 15, 3) := by decide +kernel
theorem dc_P_allVoters_17 : decode cb_P_allVoters 17 = .ok (.iload_n 2, 1) := by decide +kernel
theorem dc_P_allVoters_18 : decode cb_P_allVoters 18 = .ok (.iaload, 1) := by decide +kernel
theorem dc_P_allVoters_19 : decode cb_P_allVoters 19 = .ok (.iadd, 1) := by decide +kernel
theorem dc_P_allVoters_20 : decode cb_P_allVoters 20 = .ok (.istore_n 1, 1) := by decide +kernel
theorem dc_P_allVoters_21 : decode cb_P_allVoters 21 = .ok (.iinc 2 1, 3) := by decide +kernel
theorem dc_P_allVoters_24 : decode cb_P_allVoters 24 = .ok (.goto (-20), 3) := by decide +kernel
theorem dc_P_allVoters_27 : decode cb_P_allVoters 27 = .ok (.iload_n 1, 1) := by decide +kernel
theorem dc_P_allVoters_28 : decode cb_P_allVoters 28 = .ok (.ireturn, 1) := by decide +kernel
theorem dc_P_firstInTie_0 : decode cb_P_firstInTie 0 = .ok (.iconst 0, 1) := by decide +kernel
theorem dc_P_firstInTie_1 : decode cb_P_firstInTie 1 = .ok (.istore_n 2, 1) := by decide +kernel
theorem dc_P_firstInTie_2 : decode cb_P_firstInTie 2 = .ok (.iload_n 2, 1) := by decide +kernel
theorem dc_P_firstInTie_3 : decode cb_P_firstInTie 3 = .ok (.aload_n 0, 1) := by decide +kernel
theorem dc_P_firstInTie_4 : decode cb_P_firstInTie 4 = .ok (.getfield 29, 3) := by decide +kernel
theorem dc_P_firstInTie_7 : decode cb_P_firstInTie 7 = .ok (.if_icmp .ge 28, 3) := by decide +kernel
theorem dc_P_firstInTie_10 : decode cb_P_firstInTie 10 = .ok (.aload_n 0, 1) := by decide +kernel
theorem dc_P_firstInTie_11 : decode cb_P_firstInTie 11 = .ok (.getfield 39, 3) := by decide +kernel
theorem dc_P_firstInTie_14 : decode cb_P_firstInTie 14 = .ok (.iload_n 2, 1) := by decide +kernel
theorem dc_P_firstInTie_15 : decode cb_P_firstInTie 15 = .ok (.invokestatic 75, 3) := by decide +kernel
theorem dc_P_firstInTie_18 : decode cb_P_firstInTie 18 = .ok (.istore_n 3, 1) := by decide +kernel
theorem dc_P_firstInTie_19 : decode cb_P_firstInTie 19 = .ok (.iload_n 1, 1) := by decide +kernel
theorem dc_P_firstInTie_20 : decode cb_P_firstInTie 20 = .ok (.iload_n 3, 1) := by decide +kernel
theorem dc_P_firstInTie_21 : decode cb_P_firstInTie 21 = .ok (.ishr, 1) := by decide +kernel
theorem dc_P_firstInTie_22 : decode cb_P_firstInTie 22 = .ok (.iconst 1, 1) := by decide +kernel
theorem dc_P_firstInTie_23 : decode cb_P_firstInTie 23 = .ok (.iand, 1) := by decide +kernel
theorem dc_P_firstInTie_24 : decode cb_P_firstInTie 24 = .ok (.ifCond .eq 5, 3) := by decide +kernel
theorem dc_P_firstInTie_27 : decode cb_P_firstInTie 27 = .ok (.iload_n 3, 1) := by decide +kernel
theorem dc_P_firstInTie_28 : decode cb_P_firstInTie 28 = .ok (.ireturn, 1) := by decide +kernel
theorem dc_P_firstInTie_29 : decode cb_P_firstInTie 29 = .ok (.iinc 2 1, 3) := by decide +kernel
theorem dc_P_firstInTie_32 : decode cb_P_firstInTie 32 = .ok (.goto (-30), 3) := by decide +kernel
theorem dc_P_firstInTie_35 : decode cb_P_firstInTie 35 = .ok (.iconst (-1), 1) := by decide +kernel
theorem dc_P_firstInTie_36 : decode cb_P_firstInTie 36 = .ok (.ireturn, 1) := by decide +kernel
theorem dc_P_lastInTie_0 : decode cb_P_lastInTie 0 = .ok (.aload_n 0, 1) := by decide +kernel
theorem dc_P_lastInTie_1 : decode cb_P_lastInTie 1 = .ok (.getfield 29, 3) := by decide +kernel
theorem dc_P_lastInTie_4 : decode cb_P_lastInTie 4 = .ok (.iconst 1, 1) := by decide +kernel
theorem dc_P_lastInTie_5 : decode cb_P_lastInTie 5 = .ok (.isub, 1) := by decide +kernel
theorem dc_P_lastInTie_6 : decode cb_P_lastInTie 6 = .ok (.istore_n 2, 1) := by decide +kernel
theorem dc_P_lastInTie_7 : decode cb_P_lastInTie 7 = .ok (.iload_n 2, 1) := by decide +kernel
theorem dc_P_lastInTie_8 : decode cb_P_lastInTie 8 = .ok (.ifCond .lt 28, 3) := by decide +kernel
theorem dc_P_lastInTie_11 : decode cb_P_lastInTie 11 = .ok (.aload_n 0, 1) := by decide +kernel
theorem dc_P_lastInTie_12 : decode cb_P_lastInTie 12 = .ok (.getfield 39, 3) := by decide +kernel
theorem dc_P_lastInTie_15 : decode cb_P_lastInTie 15 = .ok (.iload_n 2, 1) := by decide +kernel
theorem dc_P_lastInTie_16 : decode cb_P_lastInTie 16 = .ok (.invokestatic 75, 3) := by decide +kernel
theorem dc_P_lastInTie_19 : decode cb_P_lastInTie 19 = .ok (.istore_n 3, 1) := by decide +kernel
theorem dc_P_lastInTie_20 : decode cb_P_lastInTie 20 = .ok (.iload_n 1, 1) := by decide +kernel
theorem dc_P_lastInTie_21 : decode cb_P_lastInTie 21 = .ok (.iload_n 3, 1) := by decide +kernel
theorem dc_P_lastInTie_22 : decode cb_P_lastInTie 22 = .ok (.ishr, 1) := by decide +kernel
theorem dc_P_lastInTie_23 : decode cb_P_lastInTie 23 = .ok (.iconst 1, 1) := by decide +kernel
theorem dc_P_lastInTie_24 : decode cb_P_lastInTie 24 = .ok (.iand, 1) := by decide +kernel
theorem dc_P_lastInTie_25 : decode cb_P_lastInTie 25 = .ok (.ifCond .eq 5, 3) := by decide +kernel
theorem dc_P_lastInTie_28 : decode cb_P_lastInTie 28 = .ok (.iload_n 3, 1) := by decide +kernel
theorem dc_P_lastInTie_29 : decode cb_P_lastInTie 29 = .ok (.ireturn, 1) := by decide +kernel
theorem dc_P_lastInTie_30 : decode cb_P_lastInTie 30 = .ok (.iinc 2 (-1), 3) := by decide +kernel
theorem dc_P_lastInTie_33 : decode cb_P_lastInTie 33 = .ok (.goto (-26), 3) := by decide +kernel
theorem dc_P_lastInTie_36 : decode cb_P_lastInTie 36 = .ok (.iconst (-1), 1) := by decide +kernel
theorem dc_P_lastInTie_37 : decode cb_P_lastInTie 37 = .ok (.ireturn, 1) := by decide +kernel
theorem dc_P_leastCircle_0 : decode cb_P_leastCircle 0 = .ok (.iconst 0, 1) := by decide +kernel
theorem dc_P_leastCircle_1 : decode cb_P_leastCircle 1 = .ok (.istore_n 1, 1) := by decide +kernel
theorem dc_P_leastCircle_2 : decode cb_P_leastCircle 2 = .ok (.iload_n 1, 1) := by decide +kernel
theorem dc_P_leastCircle_3 : decode cb_P_leastCircle 3 = .ok (.aload_n 0, 1) := by decide +kernel
theorem dc_P_leastCircle_4 : decode cb_P_leastCircle 4 = .ok (.getfield 29, 3) := by decide +kernel
theorem dc_P_leastCircle_7 : decode cb_P_leastCircle 7 = .ok (.if_icmp .ge 79, 3) := by decide +kernel
theorem dc_P_leastCircle_10 : decode cb_P_leastCircle 10 = .ok (.iconst 0, 1) := by decide +kernel
theorem dc_P_leastCircle_11 : decode cb_P_leastCircle 11 = .ok (.istore_n 2, 1) := by decide +kernel
theorem dc_P_leastCircle_12 : decode cb_P_leastCircle 12 = .ok (.iload_n 2, 1) := by decide +kernel
theorem dc_P_leastCircle_13 : decode cb_P_leastCircle 13 = .ok (.aload_n 0, 1) := by decide +kernel
theorem dc_P_leastCircle_14 : decode cb_P_leastCircle 14 = .ok (.getfield 29, 3) := by decide +kernel
theorem dc_P_leastCircle_17 : decode cb_P_leastCircle 17 = .ok (.if_icmp .ge 63, 3) := by decide +kernel
theorem dc_P_leastCircle_20 : decode cb_P_leastCircle 20 = .ok (.iconst 0, 1) := by decide +kernel
theorem dc_P_leastCircle_21 : decode cb_P_leastCircle 21 = .ok (.istore_n 3, 1) := by decide +kernel
theorem dc_P_leastCircle_22 : decode cb_P_leastCircle 22 = .ok (.iload_n 3, 1) := by decide +kernel
theorem dc_P_leastCircle_23 : decode cb_P_leastCircle 23 = .ok (.aload_n 0, 1) := by decide +kernel
theorem dc_P_leastCircle_24 : decode cb_P_leastCircle 24 = .ok (.getfield 29, 3) := by decide +kernel
theorem dc_P_leastCircle_27 : decode cb_P_leastCircle 27 = .ok (.if_icmp .ge 47, 3) := by decide +kernel
theorem dc_P_leastCircle_30 : decode cb_P_leastCircle 30 = .ok (.aload_n 0, 1) := by decide +kernel
theorem dc_P_leastCircle_31 : decode cb_P_leastCircle 31 = .ok (.iload_n 1, 1) := by decide +kernel
theorem dc_P_leastCircle_32 : decode cb_P_leastCircle 32 = .ok (.iload_n 2, 1) := by decide +kernel
theorem dc_P_leastCircle_33 : decode cb_P_leastCircle 33 = .ok (.invokevirtual 78, 3) := by decide +kernel
theorem dc_P_leastCircle_36 : decode cb_P_leastCircle 36 = .ok (.ifCond .eq 32, 3) := by decide +kernel
theorem dc_P_leastCircle_39 : decode cb_P_leastCircle 39 = .ok (.aload_n 0, 1) := by decide +kernel
theorem dc_P_leastCircle_40 : decode cb_P_leastCircle 40 = .ok (.iload_n 2, 1) := by decide +kernel
theorem dc_P_leastCircle_41 : decode cb_P_leastCircle 41 = .ok (.iload_n 3, 1) := by decide +kernel
theorem dc_P_leastCircle_42 : decode cb_P_leastCircle 42 = .ok (.invokevirtual 78, 3) := by decide +kernel
theorem dc_P_leastCircle_45 : decode cb_P_leastCircle 45 = .ok (.ifCond .eq 23, 3) := by decide +kernel
theorem dc_P_leastCircle_48 : decode cb_P_leastCircle 48 = .ok (.aload_n 0, 1) := by decide +kernel
theorem dc_P_leastCircle_49 : decode cb_P_leastCircle 49 = .ok (.iload_n 3, 1) := by decide +kernel
theorem dc_P_leastCircle_50 : decode cb_P_leastCircle 50 = .ok (.iload_n 1, 1) := by decide +kernel
theorem dc_P_leastCircle_51 : decode cb_P_leastCircle 51 = .ok (.invokevirtual 78, 3) := by decide +kernel
theorem dc_P_leastCircle_54 : decode cb_P_leastCircle 54 = .ok (.ifCond .eq 14, 3) := by decide +kernel
theorem dc_P_leastCircle_57 : decode cb_P_leastCircle 57 = .ok (.iload_n 1, 1) := by decide +kernel
theorem dc_P_leastCircle_58 : decode cb_P_leastCircle 58 = .ok (.iload_n 2, 1) := by decide +kernel
theorem dc_P_leastCircle_59 : decode cb_P_leastCircle 59 = .ok (.iconst 3, 1) := by decide +kernel
theorem dc_P_leastCircle_60 : decode cb_P_leastCircle 60 = .ok (.ishl, 1) := by decide +kernel
theorem dc_P_leastCircle_61 : decode cb_P_leastCircle 61 = .ok (.ior, 1) := by decide +kernel
theorem dc_P_leastCircle_62 : decode cb_P_leastCircle 62 = .ok (.iload_n 3, 1) := by decide +kernel
theorem dc_P_leastCircle_63 : decode cb_P_leastCircle 63 = .ok (.bipush 6, 2) := by decide +kernel
theorem dc_P_leastCircle_65 : decode cb_P_leastCircle 65 = .ok (.ishl, 1) := by decide +kernel
theorem dc_P_leastCircle_66 : decode cb_P_leastCircle 66 = .ok (.ior, 1) := by decide +kernel
theorem dc_P_leastCircle_67 : decode cb_P_leastCircle 67 = .ok (.ireturn, 1) := by decide +kernel
theorem dc_P_leastCircle_68 : decode cb_P_leastCircle 68 = .ok (.iinc 3 1, 3) := by decide +kernel
theorem dc_P_leastCircle_71 : decode cb_P_leastCircle 71 = .ok (.goto (-49), 3) := by decide +kernel
theorem dc_P_leastCircle_74 : decode cb_P_leastCircle 74 = .ok (.iinc 2 1, 3) := by decide +kernel
theorem dc_P_leastCircle_77 : decode cb_P_leastCircle 77 = .ok (.goto (-65), 3) := by decide +kernel
theorem dc_P_leastCircle_80 : decode cb_P_leastCircle 80 = .ok (.iinc 1 1, 3) := by decide +kernel
theorem dc_P_leastCircle_83 : decode cb_P_leastCircle 83 = .ok (.goto (-81), 3) := by decide +kernel
theorem dc_P_leastCircle_86 : decode cb_P_leastCircle 86 = .ok (.iconst (-1), 1) := by decide +kernel
theorem dc_P_leastCircle_87 : decode cb_P_leastCircle 87 = .ok (.ireturn, 1) := by decide +kernel
theorem dc_R_init_0 : decode cb_R_init 0 = .ok (.aload_n 0, 1) := by decide +kernel
theorem dc_R_init_1 : decode cb_R_init 1 = .ok (.invokespecial 3, 3) := by decide +kernel
theorem dc_R_init_4 : decode cb_R_init 4 = .ok (.aload_n 0, 1) := by decide +kernel
theorem dc_R_init_5 : decode cb_R_init 5 = .ok (.new 9, 3) := by decide +kernel
theorem dc_R_init_8 : decode cb_R_init 8 = .ok (.dup, 1) := by decide +kernel
theorem dc_R_init_9 : decode cb_R_init 9 = .ok (.invokespecial 11, 3) := by decide +kernel
theorem dc_R_init_12 : decode cb_R_init 12 = .ok (.putfield 12, 3) := by decide +kernel
theorem dc_R_init_15 : decode cb_R_init 15 = .ok (.aload_n 0, 1) := by decide +kernel
theorem dc_R_init_16 : decode cb_R_init 16 = .ok (.new 18, 3) := by decide +kernel
