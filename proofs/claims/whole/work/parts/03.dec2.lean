theorem dX4_thingOf_51 : decode cX4_thingOf 51 = .ok (.iload_n 1, 1) := by decide +kernel
theorem dX4_thingOf_52 : decode cX4_thingOf 52 = .ok (.iaload, 1) := by decide +kernel
theorem dX4_thingOf_53 : decode cX4_thingOf 53 = .ok (.ireturn, 1) := by decide +kernel
theorem dX4_thingOf_54 : decode cX4_thingOf 54 = .ok (.aload_n 0, 1) := by decide +kernel
theorem dX4_thingOf_55 : decode cX4_thingOf 55 = .ok (.getfield 10, 3) := by decide +kernel
theorem dX4_thingOf_58 : decode cX4_thingOf 58 = .ok (.getfield 131, 3) := by decide +kernel
theorem dX4_thingOf_61 : decode cX4_thingOf 61 = .ok (.iload_n 1, 1) := by decide +kernel
theorem dX4_thingOf_62 : decode cX4_thingOf 62 = .ok (.iaload, 1) := by decide +kernel
theorem dX4_thingOf_63 : decode cX4_thingOf 63 = .ok (.ireturn, 1) := by decide +kernel
theorem dX4_thingOf_64 : decode cX4_thingOf 64 = .ok (.aload_n 0, 1) := by decide +kernel
theorem dX4_thingOf_65 : decode cX4_thingOf 65 = .ok (.getfield 10, 3) := by decide +kernel
theorem dX4_thingOf_68 : decode cX4_thingOf 68 = .ok (.getfield 84, 3) := by decide +kernel
theorem dX4_thingOf_71 : decode cX4_thingOf 71 = .ok (.iload_n 1, 1) := by decide +kernel
theorem dX4_thingOf_72 : decode cX4_thingOf 72 = .ok (.iaload, 1) := by decide +kernel
theorem dX4_thingOf_73 : decode cX4_thingOf 73 = .ok (.ireturn, 1) := by decide +kernel
theorem dX4_thingOf_74 : decode cX4_thingOf 74 = .ok (.aload_n 0, 1) := by decide +kernel
theorem dX4_thingOf_75 : decode cX4_thingOf 75 = .ok (.getfield 10, 3) := by decide +kernel
theorem dX4_thingOf_78 : decode cX4_thingOf 78 = .ok (.iload_n 1, 1) := by decide +kernel
theorem dX4_thingOf_79 : decode cX4_thingOf 79 = .ok (.invokevirtual 134, 3) := by decide +kernel
theorem dX4_thingOf_82 : decode cX4_thingOf 82 = .ok (.ireturn, 1) := by decide +kernel
theorem dX4_thingOf_83 : decode cX4_thingOf 83 = .ok (.iconst (-1), 1) := by decide +kernel
theorem dX4_thingOf_84 : decode cX4_thingOf 84 = .ok (.ireturn, 1) := by decide +kernel
theorem dX4_ahead_0 : decode cX4_ahead 0 = .ok (.aload_n 0, 1) := by decide +kernel
theorem dX4_ahead_1 : decode cX4_ahead 1 = .ok (.getfield 10, 3) := by decide +kernel
theorem dX4_ahead_4 : decode cX4_ahead 4 = .ok (.iload_n 1, 1) := by decide +kernel
theorem dX4_ahead_5 : decode cX4_ahead 5 = .ok (.invokevirtual 56, 3) := by decide +kernel
theorem dX4_ahead_8 : decode cX4_ahead 8 = .ok (.ifCond .eq 14, 3) := by decide +kernel
theorem dX4_ahead_11 : decode cX4_ahead 11 = .ok (.aload_n 0, 1) := by decide +kernel
theorem dX4_ahead_12 : decode cX4_ahead 12 = .ok (.getfield 10, 3) := by decide +kernel
theorem dX4_ahead_15 : decode cX4_ahead 15 = .ok (.iload_n 2, 1) := by decide +kernel
theorem dX4_ahead_16 : decode cX4_ahead 16 = .ok (.invokevirtual 56, 3) := by decide +kernel
theorem dX4_ahead_19 : decode cX4_ahead 19 = .ok (.ifCond .ne 5, 3) := by decide +kernel
theorem dX4_ahead_22 : decode cX4_ahead 22 = .ok (.iconst (-1), 1) := by decide +kernel
theorem dX4_ahead_23 : decode cX4_ahead 23 = .ok (.ireturn, 1) := by decide +kernel
theorem dX4_ahead_24 : decode cX4_ahead 24 = .ok (.aload_n 0, 1) := by decide +kernel
theorem dX4_ahead_25 : decode cX4_ahead 25 = .ok (.getfield 10, 3) := by decide +kernel
theorem dX4_ahead_28 : decode cX4_ahead 28 = .ok (.iload_n 1, 1) := by decide +kernel
theorem dX4_ahead_29 : decode cX4_ahead 29 = .ok (.iload_n 2, 1) := by decide +kernel
theorem dX4_ahead_30 : decode cX4_ahead 30 = .ok (.invokevirtual 137, 3) := by decide +kernel
theorem dX4_ahead_33 : decode cX4_ahead 33 = .ok (.ireturn, 1) := by decide +kernel
theorem dX4_clash_0 : decode cX4_clash 0 = .ok (.aload_n 0, 1) := by decide +kernel
theorem dX4_clash_1 : decode cX4_clash 1 = .ok (.getfield 10, 3) := by decide +kernel
theorem dX4_clash_4 : decode cX4_clash 4 = .ok (.iload_n 1, 1) := by decide +kernel
theorem dX4_clash_5 : decode cX4_clash 5 = .ok (.invokevirtual 97, 3) := by decide +kernel
theorem dX4_clash_8 : decode cX4_clash 8 = .ok (.ifCond .eq 25, 3) := by decide +kernel
theorem dX4_clash_11 : decode cX4_clash 11 = .ok (.aload_n 0, 1) := by decide +kernel
theorem dX4_clash_12 : decode cX4_clash 12 = .ok (.getfield 10, 3) := by decide +kernel
theorem dX4_clash_15 : decode cX4_clash 15 = .ok (.iload_n 2, 1) := by decide +kernel
theorem dX4_clash_16 : decode cX4_clash 16 = .ok (.invokevirtual 97, 3) := by decide +kernel
theorem dX4_clash_19 : decode cX4_clash 19 = .ok (.ifCond .eq 14, 3) := by decide +kernel
theorem dX4_clash_22 : decode cX4_clash 22 = .ok (.aload_n 0, 1) := by decide +kernel
theorem dX4_clash_23 : decode cX4_clash 23 = .ok (.getfield 10, 3) := by decide +kernel
theorem dX4_clash_26 : decode cX4_clash 26 = .ok (.iload_n 3, 1) := by decide +kernel
theorem dX4_clash_27 : decode cX4_clash 27 = .ok (.invokevirtual 81, 3) := by decide +kernel
theorem dX4_clash_30 : decode cX4_clash 30 = .ok (.ifCond .ne 5, 3) := by decide +kernel
theorem dX4_clash_33 : decode cX4_clash 33 = .ok (.iconst (-1), 1) := by decide +kernel
theorem dX4_clash_34 : decode cX4_clash 34 = .ok (.ireturn, 1) := by decide +kernel
theorem dX4_clash_35 : decode cX4_clash 35 = .ok (.aload_n 0, 1) := by decide +kernel
theorem dX4_clash_36 : decode cX4_clash 36 = .ok (.getfield 10, 3) := by decide +kernel
theorem dX4_clash_39 : decode cX4_clash 39 = .ok (.iload_n 1, 1) := by decide +kernel
theorem dX4_clash_40 : decode cX4_clash 40 = .ok (.iload_n 2, 1) := by decide +kernel
theorem dX4_clash_41 : decode cX4_clash 41 = .ok (.iload_n 3, 1) := by decide +kernel
theorem dX4_clash_42 : decode cX4_clash 42 = .ok (.invokevirtual 140, 3) := by decide +kernel
theorem dX4_clash_45 : decode cX4_clash 45 = .ok (.ifCond .eq 7, 3) := by decide +kernel
theorem dX4_clash_48 : decode cX4_clash 48 = .ok (.iconst 1, 1) := by decide +kernel
theorem dX4_clash_49 : decode cX4_clash 49 = .ok (.goto 4, 3) := by decide +kernel
theorem dX4_clash_52 : decode cX4_clash 52 = .ok (.iconst 0, 1) := by decide +kernel
theorem dX4_clash_53 : decode cX4_clash 53 = .ok (.ireturn, 1) := by decide +kernel
theorem dX4_noise_0 : decode cX4_noise 0 = .ok (.aload_n 0, 1) := by decide +kernel
theorem dX4_noise_1 : decode cX4_noise 1 = .ok (.getfield 10, 3) := by decide +kernel
theorem dX4_noise_4 : decode cX4_noise 4 = .ok (.iload_n 1, 1) := by decide +kernel
theorem dX4_noise_5 : decode cX4_noise 5 = .ok (.invokevirtual 97, 3) := by decide +kernel
theorem dX4_noise_8 : decode cX4_noise 8 = .ok (.ifCond .eq 14, 3) := by decide +kernel
theorem dX4_noise_11 : decode cX4_noise 11 = .ok (.aload_n 0, 1) := by decide +kernel
theorem dX4_noise_12 : decode cX4_noise 12 = .ok (.getfield 10, 3) := by decide +kernel
theorem dX4_noise_15 : decode cX4_noise 15 = .ok (.iload_n 2, 1) := by decide +kernel
theorem dX4_noise_16 : decode cX4_noise 16 = .ok (.invokevirtual 97, 3) := by decide +kernel
theorem dX4_noise_19 : decode cX4_noise 19 = .ok (.ifCond .ne 5, 3) := by decide +kernel
theorem dX4_noise_22 : decode cX4_noise 22 = .ok (.iconst (-1), 1) := by decide +kernel
theorem dX4_noise_23 : decode cX4_noise 23 = .ok (.ireturn, 1) := by decide +kernel
theorem dX4_noise_24 : decode cX4_noise 24 = .ok (.aload_n 0, 1) := by decide +kernel
theorem dX4_noise_25 : decode cX4_noise 25 = .ok (.getfield 10, 3) := by decide +kernel
theorem dX4_noise_28 : decode cX4_noise 28 = .ok (.iload_n 1, 1) := by decide +kernel
theorem dX4_noise_29 : decode cX4_noise 29 = .ok (.iload_n 2, 1) := by decide +kernel
theorem dX4_noise_30 : decode cX4_noise 30 = .ok (.invokevirtual 143, 3) := by decide +kernel
theorem dX4_noise_33 : decode cX4_noise 33 = .ok (.ireturn, 1) := by decide +kernel
theorem dX4_cost_0 : decode cX4_cost 0 = .ok (.aload_n 0, 1) := by decide +kernel
theorem dX4_cost_1 : decode cX4_cost 1 = .ok (.getfield 26, 3) := by decide +kernel
theorem dX4_cost_4 : decode cX4_cost 4 = .ok (.aload_n 0, 1) := by decide +kernel
theorem dX4_cost_5 : decode cX4_cost 5 = .ok (.getfield 10, 3) := by decide +kernel
theorem dX4_cost_8 : decode cX4_cost 8 = .ok (.invokevirtual 146, 3) := by decide +kernel
theorem dX4_cost_11 : decode cX4_cost 11 = .ok (.aload_n 0, 1) := by decide +kernel
theorem dX4_cost_12 : decode cX4_cost 12 = .ok (.getfield 26, 3) := by decide +kernel
theorem dX4_cost_15 : decode cX4_cost 15 = .ok (.getfield 150, 3) := by decide +kernel
theorem dX4_cost_18 : decode cX4_cost 18 = .ok (.ireturn, 1) := by decide +kernel
theorem dX4_cut_0 : decode cX4_cut 0 = .ok (.aload_n 0, 1) := by decide +kernel
theorem dX4_cut_1 : decode cX4_cut 1 = .ok (.getfield 10, 3) := by decide +kernel
theorem dX4_cut_4 : decode cX4_cut 4 = .ok (.iload_n 1, 1) := by decide +kernel
theorem dX4_cut_5 : decode cX4_cut 5 = .ok (.invokevirtual 56, 3) := by decide +kernel
theorem dX4_cut_8 : decode cX4_cut 8 = .ok (.ifCond .ne 5, 3) := by decide +kernel
theorem dX4_cut_11 : decode cX4_cut 11 = .ok (.iconst (-1), 1) := by decide +kernel
theorem dX4_cut_12 : decode cX4_cut 12 = .ok (.ireturn, 1) := by decide +kernel
theorem dX4_cut_13 : decode cX4_cut 13 = .ok (.aload_n 0, 1) := by decide +kernel
theorem dX4_cut_14 : decode cX4_cut 14 = .ok (.getfield 26, 3) := by decide +kernel
theorem dX4_cut_17 : decode cX4_cut 17 = .ok (.aload_n 0, 1) := by decide +kernel
theorem dX4_cut_18 : decode cX4_cut 18 = .ok (.getfield 10, 3) := by decide +kernel
theorem dX4_cut_21 : decode cX4_cut 21 = .ok (.invokevirtual 146, 3) := by decide +kernel
theorem dX4_cut_24 : decode cX4_cut 24 = .ok (.aload_n 0, 1) := by decide +kernel
theorem dX4_cut_25 : decode cX4_cut 25 = .ok (.getfield 26, 3) := by decide +kernel
theorem dX4_cut_28 : decode cX4_cut 28 = .ok (.getfield 153, 3) := by decide +kernel
theorem dX4_cut_31 : decode cX4_cut 31 = .ok (.iload_n 1, 1) := by decide +kernel
theorem dX4_cut_32 : decode cX4_cut 32 = .ok (.iaload, 1) := by decide +kernel
theorem dX4_cut_33 : decode cX4_cut 33 = .ok (.invokestatic 113, 3) := by decide +kernel
theorem dX4_cut_36 : decode cX4_cut 36 = .ok (.ireturn, 1) := by decide +kernel
theorem dX4_choose_0 : decode cX4_choose 0 = .ok (.iload_n 2, 1) := by decide +kernel
theorem dX4_choose_1 : decode cX4_choose 1 = .ok (.iconst (-1), 1) := by decide +kernel
theorem dX4_choose_2 : decode cX4_choose 2 = .ok (.if_icmp .eq 14, 3) := by decide +kernel
theorem dX4_choose_5 : decode cX4_choose 5 = .ok (.aload_n 0, 1) := by decide +kernel
theorem dX4_choose_6 : decode cX4_choose 6 = .ok (.getfield 10, 3) := by decide +kernel
theorem dX4_choose_9 : decode cX4_choose 9 = .ok (.iload_n 2, 1) := by decide +kernel
theorem dX4_choose_10 : decode cX4_choose 10 = .ok (.invokevirtual 97, 3) := by decide +kernel
theorem dX4_choose_13 : decode cX4_choose 13 = .ok (.ifCond .eq 7, 3) := by decide +kernel
theorem dX4_choose_16 : decode cX4_choose 16 = .ok (.iconst 1, 1) := by decide +kernel
theorem dX4_choose_17 : decode cX4_choose 17 = .ok (.goto 4, 3) := by decide +kernel
theorem dX4_choose_20 : decode cX4_choose 20 = .ok (.iconst 0, 1) := by decide +kernel
theorem dX4_choose_21 : decode cX4_choose 21 = .ok (.istore_n 3, 1) := by decide +kernel
theorem dX4_choose_22 : decode cX4_choose 22 = .ok (.aload_n 0, 1) := by decide +kernel
theorem dX4_choose_23 : decode cX4_choose 23 = .ok (.getfield 10, 3) := by decide +kernel
theorem dX4_choose_26 : decode cX4_choose 26 = .ok (.iload_n 1, 1) := by decide +kernel
theorem dX4_choose_27 : decode cX4_choose 27 = .ok (.invokevirtual 56, 3) := by decide +kernel
theorem dX4_choose_30 : decode cX4_choose 30 = .ok (.ifCond .eq 7, 3) := by decide +kernel
theorem dX4_choose_33 : decode cX4_choose 33 = .ok (.iload_n 3, 1) := by decide +kernel
theorem dX4_choose_34 : decode cX4_choose 34 = .ok (.ifCond .ne 6, 3) := by decide +kernel
theorem dX4_choose_37 : decode cX4_choose 37 = .ok (.bipush (-5), 2) := by decide +kernel
theorem dX4_choose_39 : decode cX4_choose 39 = .ok (.ireturn, 1) := by decide +kernel
theorem dX4_choose_40 : decode cX4_choose 40 = .ok (.iload_n 2, 1) := by decide +kernel
theorem dX4_choose_41 : decode cX4_choose 41 = .ok (.iconst (-1), 1) := by decide +kernel
theorem dX4_choose_42 : decode cX4_choose 42 = .ok (.if_icmp .eq 19, 3) := by decide +kernel
theorem dX4_choose_45 : decode cX4_choose 45 = .ok (.aload_n 0, 1) := by decide +kernel
theorem dX4_choose_46 : decode cX4_choose 46 = .ok (.getfield 10, 3) := by decide +kernel
theorem dX4_choose_49 : decode cX4_choose 49 = .ok (.getfield 116, 3) := by decide +kernel
theorem dX4_choose_52 : decode cX4_choose 52 = .ok (.iload_n 2, 1) := by decide +kernel
theorem dX4_choose_53 : decode cX4_choose 53 = .ok (.iaload, 1) := by decide +kernel
theorem dX4_choose_54 : decode cX4_choose 54 = .ok (.iload_n 1, 1) := by decide +kernel
theorem dX4_choose_55 : decode cX4_choose 55 = .ok (.if_icmp .eq 6, 3) := by decide +kernel
theorem dX4_choose_58 : decode cX4_choose 58 = .ok (.bipush (-3), 2) := by decide +kernel
theorem dX4_choose_60 : decode cX4_choose 60 = .ok (.ireturn, 1) := by decide +kernel
theorem dX4_choose_61 : decode cX4_choose 61 = .ok (.aload_n 0, 1) := by decide +kernel
theorem dX4_choose_62 : decode cX4_choose 62 = .ok (.getfield 10, 3) := by decide +kernel
theorem dX4_choose_65 : decode cX4_choose 65 = .ok (.getfield 110, 3) := by decide +kernel
theorem dX4_choose_68 : decode cX4_choose 68 = .ok (.iload_n 1, 1) := by decide +kernel
theorem dX4_choose_69 : decode cX4_choose 69 = .ok (.iaload, 1) := by decide +kernel
theorem dX4_choose_70 : decode cX4_choose 70 = .ok (.istore 4, 2) := by decide +kernel
theorem dX4_choose_72 : decode cX4_choose 72 = .ok (.aload_n 0, 1) := by decide +kernel
theorem dX4_choose_73 : decode cX4_choose 73 = .ok (.getfield 10, 3) := by decide +kernel
theorem dX4_choose_76 : decode cX4_choose 76 = .ok (.getfield 110, 3) := by decide +kernel
theorem dX4_choose_79 : decode cX4_choose 79 = .ok (.iload_n 1, 1) := by decide +kernel
theorem dX4_choose_80 : decode cX4_choose 80 = .ok (.iload_n 2, 1) := by decide +kernel
theorem dX4_choose_81 : decode cX4_choose 81 = .ok (.iastore, 1) := by decide +kernel
theorem dX4_choose_82 : decode cX4_choose 82 = .ok (.iload 4, 2) := by decide +kernel
theorem dX4_choose_84 : decode cX4_choose 84 = .ok (.ireturn, 1) := by decide +kernel
theorem dX4_adopt_0 : decode cX4_adopt 0 = .ok (.aload_n 0, 1) := by decide +kernel
theorem dX4_adopt_1 : decode cX4_adopt 1 = .ok (.getfield 26, 3) := by decide +kernel
theorem dX4_adopt_4 : decode cX4_adopt 4 = .ok (.aload_n 0, 1) := by decide +kernel
theorem dX4_adopt_5 : decode cX4_adopt 5 = .ok (.getfield 10, 3) := by decide +kernel
theorem dX4_adopt_8 : decode cX4_adopt 8 = .ok (.invokevirtual 146, 3) := by decide +kernel
theorem dX4_adopt_11 : decode cX4_adopt 11 = .ok (.iconst 0, 1) := by decide +kernel
theorem dX4_adopt_12 : decode cX4_adopt 12 = .ok (.istore_n 1, 1) := by decide +kernel
theorem dX4_adopt_13 : decode cX4_adopt 13 = .ok (.iconst 0, 1) := by decide +kernel
theorem dX4_adopt_14 : decode cX4_adopt 14 = .ok (.istore_n 2, 1) := by decide +kernel
theorem dX4_adopt_15 : decode cX4_adopt 15 = .ok (.iload_n 2, 1) := by decide +kernel
theorem dX4_adopt_16 : decode cX4_adopt 16 = .ok (.aload_n 0, 1) := by decide +kernel
theorem dX4_adopt_17 : decode cX4_adopt 17 = .ok (.getfield 10, 3) := by decide +kernel
theorem dX4_adopt_20 : decode cX4_adopt 20 = .ok (.getfield 48, 3) := by decide +kernel
theorem dX4_adopt_23 : decode cX4_adopt 23 = .ok (.if_icmp .ge 51, 3) := by decide +kernel
theorem dX4_adopt_26 : decode cX4_adopt 26 = .ok (.aload_n 0, 1) := by decide +kernel
theorem dX4_adopt_27 : decode cX4_adopt 27 = .ok (.getfield 10, 3) := by decide +kernel
theorem dX4_adopt_30 : decode cX4_adopt 30 = .ok (.getfield 110, 3) := by decide +kernel
theorem dX4_adopt_33 : decode cX4_adopt 33 = .ok (.iload_n 2, 1) := by decide +kernel
theorem dX4_adopt_34 : decode cX4_adopt 34 = .ok (.iaload, 1) := by decide +kernel
theorem dX4_adopt_35 : decode cX4_adopt 35 = .ok (.aload_n 0, 1) := by decide +kernel
theorem dX4_adopt_36 : decode cX4_adopt 36 = .ok (.getfield 26, 3) := by decide +kernel
theorem dX4_adopt_39 : decode cX4_adopt 39 = .ok (.getfield 153, 3) := by decide +kernel
theorem dX4_adopt_42 : decode cX4_adopt 42 = .ok (.iload_n 2, 1) := by decide +kernel
theorem dX4_adopt_43 : decode cX4_adopt 43 = .ok (.iaload, 1) := by decide +kernel
theorem dX4_adopt_44 : decode cX4_adopt 44 = .ok (.if_icmp .eq 6, 3) := by decide +kernel
theorem dX4_adopt_47 : decode cX4_adopt 47 = .ok (.iinc 1 1, 3) := by decide +kernel
theorem dX4_adopt_50 : decode cX4_adopt 50 = .ok (.aload_n 0, 1) := by decide +kernel
theorem dX4_adopt_51 : decode cX4_adopt 51 = .ok (.getfield 10, 3) := by decide +kernel
theorem dX4_adopt_54 : decode cX4_adopt 54 = .ok (.getfield 110, 3) := by decide +kernel
theorem dX4_adopt_57 : decode cX4_adopt 57 = .ok (.iload_n 2, 1) := by decide +kernel
theorem dX4_adopt_58 : decode cX4_adopt 58 = .ok (.aload_n 0, 1) := by decide +kernel
theorem dX4_adopt_59 : decode cX4_adopt 59 = .ok (.getfield 26, 3) := by decide +kernel
theorem dX4_adopt_62 : decode cX4_adopt 62 = .ok (.getfield 153, 3) := by decide +kernel
theorem dX4_adopt_65 : decode cX4_adopt 65 = .ok (.iload_n 2, 1) := by decide +kernel
theorem dX4_adopt_66 : decode cX4_adopt 66 = .ok (.iaload, 1) := by decide +kernel
theorem dX4_adopt_67 : decode cX4_adopt 67 = .ok (.iastore, 1) := by decide +kernel
theorem dX4_adopt_68 : decode cX4_adopt 68 = .ok (.iinc 2 1, 3) := by decide +kernel
theorem dX4_adopt_71 : decode cX4_adopt 71 = .ok (.goto (-56), 3) := by decide +kernel
theorem dX4_adopt_74 : decode cX4_adopt 74 = .ok (.iload_n 1, 1) := by decide +kernel
theorem dX4_adopt_75 : decode cX4_adopt 75 = .ok (.ireturn, 1) := by decide +kernel
theorem dX4_chosen_0 : decode cX4_chosen 0 = .ok (.aload_n 0, 1) := by decide +kernel
theorem dX4_chosen_1 : decode cX4_chosen 1 = .ok (.getfield 10, 3) := by decide +kernel
theorem dX4_chosen_4 : decode cX4_chosen 4 = .ok (.invokevirtual 156, 3) := by decide +kernel
theorem dX4_chosen_7 : decode cX4_chosen 7 = .ok (.ireturn, 1) := by decide +kernel
theorem dX4_span_0 : decode cX4_span 0 = .ok (.aload_n 0, 1) := by decide +kernel
theorem dX4_span_1 : decode cX4_span 1 = .ok (.getfield 10, 3) := by decide +kernel
theorem dX4_span_4 : decode cX4_span 4 = .ok (.iload_n 1, 1) := by decide +kernel
theorem dX4_span_5 : decode cX4_span 5 = .ok (.invokevirtual 56, 3) := by decide +kernel
theorem dX4_span_8 : decode cX4_span 8 = .ok (.ifCond .eq 23, 3) := by decide +kernel
theorem dX4_span_11 : decode cX4_span 11 = .ok (.aload_n 0, 1) := by decide +kernel
theorem dX4_span_12 : decode cX4_span 12 = .ok (.getfield 10, 3) := by decide +kernel
theorem dX4_span_15 : decode cX4_span 15 = .ok (.iload_n 2, 1) := by decide +kernel
theorem dX4_span_16 : decode cX4_span 16 = .ok (.invokevirtual 81, 3) := by decide +kernel
theorem dX4_span_19 : decode cX4_span 19 = .ok (.ifCond .eq 12, 3) := by decide +kernel
theorem dX4_span_22 : decode cX4_span 22 = .ok (.iload_n 3, 1) := by decide +kernel
theorem dX4_span_23 : decode cX4_span 23 = .ok (.iconst 0, 1) := by decide +kernel
theorem dX4_span_24 : decode cX4_span 24 = .ok (.iconst 2, 1) := by decide +kernel
theorem dX4_span_25 : decode cX4_span 25 = .ok (.invokestatic 70, 3) := by decide +kernel
theorem dX4_span_28 : decode cX4_span 28 = .ok (.ifCond .ne 5, 3) := by decide +kernel
theorem dX4_span_31 : decode cX4_span 31 = .ok (.iconst (-1), 1) := by decide +kernel
theorem dX4_span_32 : decode cX4_span 32 = .ok (.ireturn, 1) := by decide +kernel
theorem dX4_span_33 : decode cX4_span 33 = .ok (.aload_n 0, 1) := by decide +kernel
theorem dX4_span_34 : decode cX4_span 34 = .ok (.getfield 33, 3) := by decide +kernel
theorem dX4_span_37 : decode cX4_span 37 = .ok (.aload_n 0, 1) := by decide +kernel
theorem dX4_span_38 : decode cX4_span 38 = .ok (.getfield 10, 3) := by decide +kernel
theorem dX4_span_41 : decode cX4_span 41 = .ok (.iload_n 1, 1) := by decide +kernel
theorem dX4_span_42 : decode cX4_span 42 = .ok (.iload_n 2, 1) := by decide +kernel
theorem dX4_span_43 : decode cX4_span 43 = .ok (.invokevirtual 160, 3) := by decide +kernel
theorem dX4_span_46 : decode cX4_span 46 = .ok (.aload_n 0, 1) := by decide +kernel
theorem dX4_span_47 : decode cX4_span 47 = .ok (.getfield 33, 3) := by decide +kernel
theorem dX4_span_50 : decode cX4_span 50 = .ok (.iload_n 1, 1) := by decide +kernel
theorem dX4_span_51 : decode cX4_span 51 = .ok (.invokevirtual 163, 3) := by decide +kernel
theorem dX4_span_54 : decode cX4_span 54 = .ok (.istore 4, 2) := by decide +kernel
theorem dX4_span_56 : decode cX4_span 56 = .ok (.iload_n 3, 1) := by decide +kernel
theorem dX4_span_57 : decode cX4_span 57 = .ok (.iconst 2, 1) := by decide +kernel
theorem dX4_span_58 : decode cX4_span 58 = .ok (.if_icmp .ne 6, 3) := by decide +kernel
theorem dX4_span_61 : decode cX4_span 61 = .ok (.iload 4, 2) := by decide +kernel
theorem dX4_span_63 : decode cX4_span 63 = .ok (.ireturn, 1) := by decide +kernel
theorem dX4_span_64 : decode cX4_span 64 = .ok (.iload 4, 2) := by decide +kernel
theorem dX4_span_66 : decode cX4_span 66 = .ok (.ifCond .ne 6, 3) := by decide +kernel
theorem dX4_span_69 : decode cX4_span 69 = .ok (.bipush (-4), 2) := by decide +kernel
theorem dX4_span_71 : decode cX4_span 71 = .ok (.ireturn, 1) := by decide +kernel
theorem dX4_span_72 : decode cX4_span 72 = .ok (.iload_n 3, 1) := by decide +kernel
theorem dX4_span_73 : decode cX4_span 73 = .ok (.ifCond .ne 15, 3) := by decide +kernel
theorem dX4_span_76 : decode cX4_span 76 = .ok (.aload_n 0, 1) := by decide +kernel
theorem dX4_span_77 : decode cX4_span 77 = .ok (.getfield 33, 3) := by decide +kernel
theorem dX4_span_80 : decode cX4_span 80 = .ok (.getfield 166, 3) := by decide +kernel
theorem dX4_span_83 : decode cX4_span 83 = .ok (.iload_n 1, 1) := by decide +kernel
theorem dX4_span_84 : decode cX4_span 84 = .ok (.iaload, 1) := by decide +kernel
theorem dX4_span_85 : decode cX4_span 85 = .ok (.goto 12, 3) := by decide +kernel
theorem dX4_span_88 : decode cX4_span 88 = .ok (.aload_n 0, 1) := by decide +kernel
theorem dX4_span_89 : decode cX4_span 89 = .ok (.getfield 33, 3) := by decide +kernel
theorem dX4_span_92 : decode cX4_span 92 = .ok (.getfield 169, 3) := by decide +kernel
theorem dX4_span_95 : decode cX4_span 95 = .ok (.iload_n 1, 1) := by decide +kernel
theorem dX4_span_96 : decode cX4_span 96 = .ok (.iaload, 1) := by decide +kernel
theorem dX4_span_97 : decode cX4_span 97 = .ok (.ireturn, 1) := by decide +kernel
theorem dX4_twin_0 : decode cX4_twin 0 = .ok (.aload_n 0, 1) := by decide +kernel
theorem dX4_twin_1 : decode cX4_twin 1 = .ok (.getfield 10, 3) := by decide +kernel
theorem dX4_twin_4 : decode cX4_twin 4 = .ok (.iload_n 1, 1) := by decide +kernel
theorem dX4_twin_5 : decode cX4_twin 5 = .ok (.invokevirtual 81, 3) := by decide +kernel
theorem dX4_twin_8 : decode cX4_twin 8 = .ok (.ifCond .eq 14, 3) := by decide +kernel
theorem dX4_twin_11 : decode cX4_twin 11 = .ok (.aload_n 0, 1) := by decide +kernel
theorem dX4_twin_12 : decode cX4_twin 12 = .ok (.getfield 10, 3) := by decide +kernel
theorem dX4_twin_15 : decode cX4_twin 15 = .ok (.iload_n 2, 1) := by decide +kernel
theorem dX4_twin_16 : decode cX4_twin 16 = .ok (.invokevirtual 172, 3) := by decide +kernel
theorem dX4_twin_19 : decode cX4_twin 19 = .ok (.ifCond .ne 5, 3) := by decide +kernel
theorem dX4_twin_22 : decode cX4_twin 22 = .ok (.iconst (-1), 1) := by decide +kernel
theorem dX4_twin_23 : decode cX4_twin 23 = .ok (.ireturn, 1) := by decide +kernel
theorem dX4_twin_24 : decode cX4_twin 24 = .ok (.aload_n 0, 1) := by decide +kernel
theorem dX4_twin_25 : decode cX4_twin 25 = .ok (.getfield 33, 3) := by decide +kernel
theorem dX4_twin_28 : decode cX4_twin 28 = .ok (.aload_n 0, 1) := by decide +kernel
theorem dX4_twin_29 : decode cX4_twin 29 = .ok (.getfield 10, 3) := by decide +kernel
theorem dX4_twin_32 : decode cX4_twin 32 = .ok (.iload_n 1, 1) := by decide +kernel
theorem dX4_twin_33 : decode cX4_twin 33 = .ok (.iload_n 2, 1) := by decide +kernel
theorem dX4_twin_34 : decode cX4_twin 34 = .ok (.invokevirtual 175, 3) := by decide +kernel
theorem dX4_twin_37 : decode cX4_twin 37 = .ok (.istore 4, 2) := by decide +kernel
theorem dX4_twin_39 : decode cX4_twin 39 = .ok (.iload_n 3, 1) := by decide +kernel
theorem dX4_twin_40 : decode cX4_twin 40 = .ok (.ifCond .lt 9, 3) := by decide +kernel
theorem dX4_twin_43 : decode cX4_twin 43 = .ok (.iload_n 3, 1) := by decide +kernel
theorem dX4_twin_44 : decode cX4_twin 44 = .ok (.iload 4, 2) := by decide +kernel
theorem dX4_twin_46 : decode cX4_twin 46 = .ok (.if_icmp .lt 6, 3) := by decide +kernel
theorem dX4_twin_49 : decode cX4_twin 49 = .ok (.bipush (-4), 2) := by decide +kernel
theorem dX4_twin_51 : decode cX4_twin 51 = .ok (.ireturn, 1) := by decide +kernel
theorem dX4_twin_52 : decode cX4_twin 52 = .ok (.aload_n 0, 1) := by decide +kernel
theorem dX4_twin_53 : decode cX4_twin 53 = .ok (.getfield 33, 3) := by decide +kernel
theorem dX4_twin_56 : decode cX4_twin 56 = .ok (.getfield 179, 3) := by decide +kernel
theorem dX4_twin_59 : decode cX4_twin 59 = .ok (.iload_n 3, 1) := by decide +kernel
theorem dX4_twin_60 : decode cX4_twin 60 = .ok (.iaload, 1) := by decide +kernel
theorem dX4_twin_61 : decode cX4_twin 61 = .ok (.ireturn, 1) := by decide +kernel
theorem dX4_doubles_0 : decode cX4_doubles 0 = .ok (.aload_n 0, 1) := by decide +kernel
theorem dX4_doubles_1 : decode cX4_doubles 1 = .ok (.getfield 10, 3) := by decide +kernel
theorem dX4_doubles_4 : decode cX4_doubles 4 = .ok (.iload_n 1, 1) := by decide +kernel
theorem dX4_doubles_5 : decode cX4_doubles 5 = .ok (.invokevirtual 81, 3) := by decide +kernel
theorem dX4_doubles_8 : decode cX4_doubles 8 = .ok (.ifCond .eq 14, 3) := by decide +kernel
theorem dX4_doubles_11 : decode cX4_doubles 11 = .ok (.aload_n 0, 1) := by decide +kernel
theorem dX4_doubles_12 : decode cX4_doubles 12 = .ok (.getfield 10, 3) := by decide +kernel
theorem dX4_doubles_15 : decode cX4_doubles 15 = .ok (.iload_n 2, 1) := by decide +kernel
theorem dX4_doubles_16 : decode cX4_doubles 16 = .ok (.invokevirtual 172, 3) := by decide +kernel
theorem dX4_doubles_19 : decode cX4_doubles 19 = .ok (.ifCond .ne 5, 3) := by decide +kernel
theorem dX4_doubles_22 : decode cX4_doubles 22 = .ok (.iconst (-1), 1) := by decide +kernel
theorem dX4_doubles_23 : decode cX4_doubles 23 = .ok (.ireturn, 1) := by decide +kernel
theorem dX4_doubles_24 : decode cX4_doubles 24 = .ok (.aload_n 0, 1) := by decide +kernel
theorem dX4_doubles_25 : decode cX4_doubles 25 = .ok (.getfield 33, 3) := by decide +kernel
theorem dX4_doubles_28 : decode cX4_doubles 28 = .ok (.aload_n 0, 1) := by decide +kernel
theorem dX4_doubles_29 : decode cX4_doubles 29 = .ok (.getfield 10, 3) := by decide +kernel
theorem dX4_doubles_32 : decode cX4_doubles 32 = .ok (.iload_n 1, 1) := by decide +kernel
theorem dX4_doubles_33 : decode cX4_doubles 33 = .ok (.iload_n 2, 1) := by decide +kernel
theorem dX4_doubles_34 : decode cX4_doubles 34 = .ok (.invokevirtual 175, 3) := by decide +kernel
theorem dX4_doubles_37 : decode cX4_doubles 37 = .ok (.ireturn, 1) := by decide +kernel
theorem dX4_reshoot_0 : decode cX4_reshoot 0 = .ok (.aload_n 0, 1) := by decide +kernel
theorem dX4_reshoot_1 : decode cX4_reshoot 1 = .ok (.getfield 40, 3) := by decide +kernel
theorem dX4_reshoot_4 : decode cX4_reshoot 4 = .ok (.aload_n 0, 1) := by decide +kernel
theorem dX4_reshoot_5 : decode cX4_reshoot 5 = .ok (.getfield 10, 3) := by decide +kernel
theorem dX4_reshoot_8 : decode cX4_reshoot 8 = .ok (.invokevirtual 182, 3) := by decide +kernel
theorem dX4_reshoot_11 : decode cX4_reshoot 11 = .ok (.aload_n 0, 1) := by decide +kernel
theorem dX4_reshoot_12 : decode cX4_reshoot 12 = .ok (.getfield 40, 3) := by decide +kernel
theorem dX4_reshoot_15 : decode cX4_reshoot 15 = .ok (.aload_n 0, 1) := by decide +kernel
theorem dX4_reshoot_16 : decode cX4_reshoot 16 = .ok (.getfield 10, 3) := by decide +kernel
theorem dX4_reshoot_19 : decode cX4_reshoot 19 = .ok (.getfield 48, 3) := by decide +kernel
theorem dX4_reshoot_22 : decode cX4_reshoot 22 = .ok (.invokevirtual 183, 3) := by decide +kernel
theorem dX4_reshoot_25 : decode cX4_reshoot 25 = .ok (.ireturn, 1) := by decide +kernel
theorem dX4_clashes_0 : decode cX4_clashes 0 = .ok (.aload_n 0, 1) := by decide +kernel
theorem dX4_clashes_1 : decode cX4_clashes 1 = .ok (.getfield 10, 3) := by decide +kernel
theorem dX4_clashes_4 : decode cX4_clashes 4 = .ok (.iload_n 1, 1) := by decide +kernel
theorem dX4_clashes_5 : decode cX4_clashes 5 = .ok (.invokevirtual 81, 3) := by decide +kernel
theorem dX4_clashes_8 : decode cX4_clashes 8 = .ok (.ifCond .ne 5, 3) := by decide +kernel
theorem dX4_clashes_11 : decode cX4_clashes 11 = .ok (.iconst (-1), 1) := by decide +kernel
theorem dX4_clashes_12 : decode cX4_clashes 12 = .ok (.ireturn, 1) := by decide +kernel
theorem dX4_clashes_13 : decode cX4_clashes 13 = .ok (.aload_n 0, 1) := by decide +kernel
theorem dX4_clashes_14 : decode cX4_clashes 14 = .ok (.getfield 10, 3) := by decide +kernel
theorem dX4_clashes_17 : decode cX4_clashes 17 = .ok (.iload_n 1, 1) := by decide +kernel
theorem dX4_clashes_18 : decode cX4_clashes 18 = .ok (.invokevirtual 186, 3) := by decide +kernel
theorem dX4_clashes_21 : decode cX4_clashes 21 = .ok (.ireturn, 1) := by decide +kernel
theorem dX4_many_0 : decode cX4_many 0 = .ok (.iload_n 1, 1) := by decide +kernel
theorem dX4_many_1 : decode cX4_many 1 = .ok (.tableswitch 75 0 4 #[35, 43, 51, 59, 67], 35) := by decide +kernel
theorem dX4_many_36 : decode cX4_many 36 = .ok (.aload_n 0, 1) := by decide +kernel
theorem dX4_many_37 : decode cX4_many 37 = .ok (.getfield 10, 3) := by decide +kernel
theorem dX4_many_40 : decode cX4_many 40 = .ok (.getfield 48, 3) := by decide +kernel
theorem dX4_many_43 : decode cX4_many 43 = .ok (.ireturn, 1) := by decide +kernel
theorem dX4_many_44 : decode cX4_many 44 = .ok (.aload_n 0, 1) := by decide +kernel
theorem dX4_many_45 : decode cX4_many 45 = .ok (.getfield 10, 3) := by decide +kernel
theorem dX4_many_48 : decode cX4_many 48 = .ok (.getfield 74, 3) := by decide +kernel
theorem dX4_many_51 : decode cX4_many 51 = .ok (.ireturn, 1) := by decide +kernel
theorem dX4_many_52 : decode cX4_many 52 = .ok (.aload_n 0, 1) := by decide +kernel
theorem dX4_many_53 : decode cX4_many 53 = .ok (.getfield 10, 3) := by decide +kernel
theorem dX4_many_56 : decode cX4_many 56 = .ok (.getfield 87, 3) := by decide +kernel
theorem dX4_many_59 : decode cX4_many 59 = .ok (.ireturn, 1) := by decide +kernel
theorem dX4_many_60 : decode cX4_many 60 = .ok (.aload_n 0, 1) := by decide +kernel
theorem dX4_many_61 : decode cX4_many 61 = .ok (.getfield 10, 3) := by decide +kernel
theorem dX4_many_64 : decode cX4_many 64 = .ok (.invokevirtual 189, 3) := by decide +kernel
theorem dX4_many_67 : decode cX4_many 67 = .ok (.ireturn, 1) := by decide +kernel
theorem dX4_many_68 : decode cX4_many 68 = .ok (.aload_n 0, 1) := by decide +kernel
theorem dX4_many_69 : decode cX4_many 69 = .ok (.getfield 10, 3) := by decide +kernel
theorem dX4_many_72 : decode cX4_many 72 = .ok (.invokevirtual 192, 3) := by decide +kernel
theorem dX4_many_75 : decode cX4_many 75 = .ok (.ireturn, 1) := by decide +kernel
theorem dX4_many_76 : decode cX4_many 76 = .ok (.iconst (-1), 1) := by decide +kernel
theorem dX4_many_77 : decode cX4_many 77 = .ok (.ireturn, 1) := by decide +kernel
theorem dX4_keep_0 : decode cX4_keep 0 = .ok (.aload_n 0, 1) := by decide +kernel
theorem dX4_keep_1 : decode cX4_keep 1 = .ok (.getfield 16, 3) := by decide +kernel
theorem dX4_keep_4 : decode cX4_keep 4 = .ok (.aload_n 0, 1) := by decide +kernel
theorem dX4_keep_5 : decode cX4_keep 5 = .ok (.getfield 10, 3) := by decide +kernel
theorem dX4_keep_8 : decode cX4_keep 8 = .ok (.invokevirtual 195, 3) := by decide +kernel
theorem dX4_keep_11 : decode cX4_keep 11 = .ok (.aload_n 0, 1) := by decide +kernel
theorem dX4_keep_12 : decode cX4_keep 12 = .ok (.iconst 1, 1) := by decide +kernel
theorem dX4_keep_13 : decode cX4_keep 13 = .ok (.putfield 19, 3) := by decide +kernel
theorem dX4_keep_16 : decode cX4_keep 16 = .ok (.iconst 1, 1) := by decide +kernel
theorem dX4_keep_17 : decode cX4_keep 17 = .ok (.ireturn, 1) := by decide +kernel
theorem dX4_back_0 : decode cX4_back 0 = .ok (.aload_n 0, 1) := by decide +kernel
theorem dX4_back_1 : decode cX4_back 1 = .ok (.getfield 19, 3) := by decide +kernel
theorem dX4_back_4 : decode cX4_back 4 = .ok (.ifCond .ne 6, 3) := by decide +kernel
theorem dX4_back_7 : decode cX4_back 7 = .ok (.bipush (-4), 2) := by decide +kernel
theorem dX4_back_9 : decode cX4_back 9 = .ok (.ireturn, 1) := by decide +kernel
theorem dX4_back_10 : decode cX4_back 10 = .ok (.aload_n 0, 1) := by decide +kernel
theorem dX4_back_11 : decode cX4_back 11 = .ok (.getfield 10, 3) := by decide +kernel
theorem dX4_back_14 : decode cX4_back 14 = .ok (.aload_n 0, 1) := by decide +kernel
theorem dX4_back_15 : decode cX4_back 15 = .ok (.getfield 16, 3) := by decide +kernel
theorem dX4_back_18 : decode cX4_back 18 = .ok (.invokevirtual 195, 3) := by decide +kernel
theorem dX4_back_21 : decode cX4_back 21 = .ok (.iconst 1, 1) := by decide +kernel
theorem dX4_back_22 : decode cX4_back 22 = .ok (.ireturn, 1) := by decide +kernel
theorem dX4_isBetween_0 : decode cX4_isBetween 0 = .ok (.iload_n 0, 1) := by decide +kernel
theorem dX4_isBetween_1 : decode cX4_isBetween 1 = .ok (.iload_n 1, 1) := by decide +kernel
theorem dX4_isBetween_2 : decode cX4_isBetween 2 = .ok (.if_icmp .lt 12, 3) := by decide +kernel
theorem dX4_isBetween_5 : decode cX4_isBetween 5 = .ok (.iload_n 0, 1) := by decide +kernel
theorem dX4_isBetween_6 : decode cX4_isBetween 6 = .ok (.iload_n 2, 1) := by decide +kernel
theorem dX4_isBetween_7 : decode cX4_isBetween 7 = .ok (.if_icmp .gt 7, 3) := by decide +kernel
theorem dX4_isBetween_10 : decode cX4_isBetween 10 = .ok (.iconst 1, 1) := by decide +kernel
theorem dX4_isBetween_11 : decode cX4_isBetween 11 = .ok (.goto 4, 3) := by decide +kernel
theorem dX4_isBetween_14 : decode cX4_isBetween 14 = .ok (.iconst 0, 1) := by decide +kernel
theorem dX4_isBetween_15 : decode cX4_isBetween 15 = .ok (.ireturn, 1) := by decide +kernel
theorem dX4_isDayAndPlace_0 : decode cX4_isDayAndPlace 0 = .ok (.iload_n 0, 1) := by decide +kernel
theorem dX4_isDayAndPlace_1 : decode cX4_isDayAndPlace 1 = .ok (.iconst 0, 1) := by decide +kernel
theorem dX4_isDayAndPlace_2 : decode cX4_isDayAndPlace 2 = .ok (.bipush 99, 2) := by decide +kernel
theorem dX4_isDayAndPlace_4 : decode cX4_isDayAndPlace 4 = .ok (.invokestatic 70, 3) := by decide +kernel
theorem dX4_isDayAndPlace_7 : decode cX4_isDayAndPlace 7 = .ok (.ifCond .eq 17, 3) := by decide +kernel
theorem dX4_isDayAndPlace_10 : decode cX4_isDayAndPlace 10 = .ok (.iload_n 1, 1) := by decide +kernel
theorem dX4_isDayAndPlace_11 : decode cX4_isDayAndPlace 11 = .ok (.iconst 0, 1) := by decide +kernel
theorem dX4_isDayAndPlace_12 : decode cX4_isDayAndPlace 12 = .ok (.bipush 99, 2) := by decide +kernel
theorem dX4_isDayAndPlace_14 : decode cX4_isDayAndPlace 14 = .ok (.invokestatic 70, 3) := by decide +kernel
theorem dX4_isDayAndPlace_17 : decode cX4_isDayAndPlace 17 = .ok (.ifCond .eq 7, 3) := by decide +kernel
theorem dX4_isDayAndPlace_20 : decode cX4_isDayAndPlace 20 = .ok (.iconst 1, 1) := by decide +kernel
theorem dX4_isDayAndPlace_21 : decode cX4_isDayAndPlace 21 = .ok (.goto 4, 3) := by decide +kernel
theorem dX4_isDayAndPlace_24 : decode cX4_isDayAndPlace 24 = .ok (.iconst 0, 1) := by decide +kernel
theorem dX4_isDayAndPlace_25 : decode cX4_isDayAndPlace 25 = .ok (.ireturn, 1) := by decide +kernel
theorem dX4_isLawWithRate_0 : decode cX4_isLawWithRate 0 = .ok (.iload_n 0, 1) := by decide +kernel
theorem dX4_isLawWithRate_1 : decode cX4_isLawWithRate 1 = .ok (.iconst 3, 1) := by decide +kernel
theorem dX4_isLawWithRate_2 : decode cX4_isLawWithRate 2 = .ok (.if_icmp .ne 11, 3) := by decide +kernel
theorem dX4_isLawWithRate_5 : decode cX4_isLawWithRate 5 = .ok (.iload_n 1, 1) := by decide +kernel
theorem dX4_isLawWithRate_6 : decode cX4_isLawWithRate 6 = .ok (.iconst 1, 1) := by decide +kernel
theorem dX4_isLawWithRate_7 : decode cX4_isLawWithRate 7 = .ok (.bipush 9, 2) := by decide +kernel
theorem dX4_isLawWithRate_9 : decode cX4_isLawWithRate 9 = .ok (.invokestatic 70, 3) := by decide +kernel
theorem dX4_isLawWithRate_12 : decode cX4_isLawWithRate 12 = .ok (.ireturn, 1) := by decide +kernel
theorem dX4_isLawWithRate_13 : decode cX4_isLawWithRate 13 = .ok (.iload_n 0, 1) := by decide +kernel
theorem dX4_isLawWithRate_14 : decode cX4_isLawWithRate 14 = .ok (.iconst 0, 1) := by decide +kernel
theorem dX4_isLawWithRate_15 : decode cX4_isLawWithRate 15 = .ok (.iconst 2, 1) := by decide +kernel
theorem dX4_isLawWithRate_16 : decode cX4_isLawWithRate 16 = .ok (.invokestatic 70, 3) := by decide +kernel
theorem dX4_isLawWithRate_19 : decode cX4_isLawWithRate 19 = .ok (.ifCond .eq 11, 3) := by decide +kernel
theorem dX4_isLawWithRate_22 : decode cX4_isLawWithRate 22 = .ok (.iload_n 1, 1) := by decide +kernel
theorem dX4_isLawWithRate_23 : decode cX4_isLawWithRate 23 = .ok (.ifCond .ne 7, 3) := by decide +kernel
theorem dX4_isLawWithRate_26 : decode cX4_isLawWithRate 26 = .ok (.iconst 1, 1) := by decide +kernel
theorem dX4_isLawWithRate_27 : decode cX4_isLawWithRate 27 = .ok (.goto 4, 3) := by decide +kernel
theorem dX4_isLawWithRate_30 : decode cX4_isLawWithRate 30 = .ok (.iconst 0, 1) := by decide +kernel
theorem dX4_isLawWithRate_31 : decode cX4_isLawWithRate 31 = .ok (.ireturn, 1) := by decide +kernel
theorem dX4_isIn_0 : decode cX4_isIn 0 = .ok (.iload_n 0, 1) := by decide +kernel
theorem dX4_isIn_1 : decode cX4_isIn 1 = .ok (.iload_n 1, 1) := by decide +kernel
theorem dX4_isIn_2 : decode cX4_isIn 2 = .ok (.ishr, 1) := by decide +kernel
theorem dX4_isIn_3 : decode cX4_isIn 3 = .ok (.iconst 1, 1) := by decide +kernel
theorem dX4_isIn_4 : decode cX4_isIn 4 = .ok (.iand, 1) := by decide +kernel
theorem dX4_isIn_5 : decode cX4_isIn 5 = .ok (.ifCond .eq 7, 3) := by decide +kernel
theorem dX4_isIn_8 : decode cX4_isIn 8 = .ok (.iconst 1, 1) := by decide +kernel
theorem dX4_isIn_9 : decode cX4_isIn 9 = .ok (.goto 4, 3) := by decide +kernel
theorem dX4_isIn_12 : decode cX4_isIn 12 = .ok (.iconst 0, 1) := by decide +kernel
theorem dX4_isIn_13 : decode cX4_isIn 13 = .ok (.ireturn, 1) := by decide +kernel
theorem dX4_orNone_0 : decode cX4_orNone 0 = .ok (.iload_n 0, 1) := by decide +kernel
theorem dX4_orNone_1 : decode cX4_orNone 1 = .ok (.iconst (-1), 1) := by decide +kernel
theorem dX4_orNone_2 : decode cX4_orNone 2 = .ok (.if_icmp .ne 8, 3) := by decide +kernel
theorem dX4_orNone_5 : decode cX4_orNone 5 = .ok (.bipush (-4), 2) := by decide +kernel
theorem dX4_orNone_7 : decode cX4_orNone 7 = .ok (.goto 4, 3) := by decide +kernel
theorem dX4_orNone_10 : decode cX4_orNone 10 = .ok (.iload_n 0, 1) := by decide +kernel
theorem dX4_orNone_11 : decode cX4_orNone 11 = .ok (.ireturn, 1) := by decide +kernel
theorem dX4_measureAsked_0 : decode cX4_measureAsked 0 = .ok (.iload_n 2, 1) := by decide +kernel
theorem dX4_measureAsked_1 : decode cX4_measureAsked 1 = .ok (.bipush 10, 2) := by decide +kernel
theorem dX4_measureAsked_3 : decode cX4_measureAsked 3 = .ok (.if_icmp .ge 5, 3) := by decide +kernel
theorem dX4_measureAsked_6 : decode cX4_measureAsked 6 = .ok (.iconst (-1), 1) := by decide +kernel
theorem dX4_measureAsked_7 : decode cX4_measureAsked 7 = .ok (.ireturn, 1) := by decide +kernel
theorem dX4_measureAsked_8 : decode cX4_measureAsked 8 = .ok (.iload_n 2, 1) := by decide +kernel
theorem dX4_measureAsked_9 : decode cX4_measureAsked 9 = .ok (.bipush 10, 2) := by decide +kernel
theorem dX4_measureAsked_11 : decode cX4_measureAsked 11 = .ok (.isub, 1) := by decide +kernel
theorem dX4_measureAsked_12 : decode cX4_measureAsked 12 = .ok (.istore_n 3, 1) := by decide +kernel
theorem dX4_measureAsked_13 : decode cX4_measureAsked 13 = .ok (.aload_n 0, 1) := by decide +kernel
theorem dX4_measureAsked_14 : decode cX4_measureAsked 14 = .ok (.getfield 10, 3) := by decide +kernel
theorem dX4_measureAsked_17 : decode cX4_measureAsked 17 = .ok (.iload_n 3, 1) := by decide +kernel
theorem dX4_measureAsked_18 : decode cX4_measureAsked 18 = .ok (.invokevirtual 81, 3) := by decide +kernel
theorem dX4_measureAsked_21 : decode cX4_measureAsked 21 = .ok (.ifCond .eq 18, 3) := by decide +kernel
theorem dX4_measureAsked_24 : decode cX4_measureAsked 24 = .ok (.aload_n 0, 1) := by decide +kernel
theorem dX4_measureAsked_25 : decode cX4_measureAsked 25 = .ok (.getfield 10, 3) := by decide +kernel
theorem dX4_measureAsked_28 : decode cX4_measureAsked 28 = .ok (.iload_n 1, 1) := by decide +kernel
theorem dX4_measureAsked_29 : decode cX4_measureAsked 29 = .ok (.iload_n 3, 1) := by decide +kernel
theorem dX4_measureAsked_30 : decode cX4_measureAsked 30 = .ok (.invokevirtual 100, 3) := by decide +kernel
theorem dX4_measureAsked_33 : decode cX4_measureAsked 33 = .ok (.invokestatic 113, 3) := by decide +kernel
theorem dX4_measureAsked_36 : decode cX4_measureAsked 36 = .ok (.goto 4, 3) := by decide +kernel
theorem dX4_measureAsked_39 : decode cX4_measureAsked 39 = .ok (.iconst (-1), 1) := by decide +kernel
theorem dX4_measureAsked_40 : decode cX4_measureAsked 40 = .ok (.ireturn, 1) := by decide +kernel
theorem dX5_init_0 : decode cX5_init 0 = .ok (.aload_n 0, 1) := by decide +kernel
theorem dX5_init_1 : decode cX5_init 1 = .ok (.invokespecial 1, 3) := by decide +kernel
theorem dX5_init_4 : decode cX5_init 4 = .ok (.aload_n 0, 1) := by decide +kernel
theorem dX5_init_5 : decode cX5_init 5 = .ok (.bipush 6, 2) := by decide +kernel
theorem dX5_init_7 : decode cX5_init 7 = .ok (.newarray .int, 2) := by decide +kernel
theorem dX5_init_9 : decode cX5_init 9 = .ok (.putfield 7, 3) := by decide +kernel
theorem dX5_init_12 : decode cX5_init 12 = .ok (.aload_n 0, 1) := by decide +kernel
theorem dX5_init_13 : decode cX5_init 13 = .ok (.bipush 6, 2) := by decide +kernel
theorem dX5_init_15 : decode cX5_init 15 = .ok (.newarray .int, 2) := by decide +kernel
theorem dX5_init_17 : decode cX5_init 17 = .ok (.putfield 13, 3) := by decide +kernel
theorem dX5_init_20 : decode cX5_init 20 = .ok (.aload_n 0, 1) := by decide +kernel
theorem dX5_init_21 : decode cX5_init 21 = .ok (.bipush 6, 2) := by decide +kernel
theorem dX5_init_23 : decode cX5_init 23 = .ok (.newarray .int, 2) := by decide +kernel
theorem dX5_init_25 : decode cX5_init 25 = .ok (.putfield 16, 3) := by decide +kernel
theorem dX5_init_28 : decode cX5_init 28 = .ok (.aload_n 0, 1) := by decide +kernel
theorem dX5_init_29 : decode cX5_init 29 = .ok (.bipush 6, 2) := by decide +kernel
theorem dX5_init_31 : decode cX5_init 31 = .ok (.newarray .int, 2) := by decide +kernel
theorem dX5_init_33 : decode cX5_init 33 = .ok (.putfield 19, 3) := by decide +kernel
theorem dX5_init_36 : decode cX5_init 36 = .ok (.aload_n 0, 1) := by decide +kernel
theorem dX5_init_37 : decode cX5_init 37 = .ok (.bipush 6, 2) := by decide +kernel
theorem dX5_init_39 : decode cX5_init 39 = .ok (.newarray .int, 2) := by decide +kernel
theorem dX5_init_41 : decode cX5_init 41 = .ok (.putfield 22, 3) := by decide +kernel
theorem dX5_init_44 : decode cX5_init 44 = .ok (.aload_n 0, 1) := by decide +kernel
theorem dX5_init_45 : decode cX5_init 45 = .ok (.bipush 6, 2) := by decide +kernel
theorem dX5_init_47 : decode cX5_init 47 = .ok (.newarray .int, 2) := by decide +kernel
theorem dX5_init_49 : decode cX5_init 49 = .ok (.putfield 25, 3) := by decide +kernel
theorem dX5_init_52 : decode cX5_init 52 = .ok (.aload_n 0, 1) := by decide +kernel
theorem dX5_init_53 : decode cX5_init 53 = .ok (.bipush 16, 2) := by decide +kernel
theorem dX5_init_55 : decode cX5_init 55 = .ok (.newarray .int, 2) := by decide +kernel
theorem dX5_init_57 : decode cX5_init 57 = .ok (.putfield 28, 3) := by decide +kernel
theorem dX5_init_60 : decode cX5_init 60 = .ok (.aload_n 0, 1) := by decide +kernel
theorem dX5_init_61 : decode cX5_init 61 = .ok (.bipush 16, 2) := by decide +kernel
theorem dX5_init_63 : decode cX5_init 63 = .ok (.newarray .int, 2) := by decide +kernel
theorem dX5_init_65 : decode cX5_init 65 = .ok (.putfield 31, 3) := by decide +kernel
theorem dX5_init_68 : decode cX5_init 68 = .ok (.aload_n 0, 1) := by decide +kernel
theorem dX5_init_69 : decode cX5_init 69 = .ok (.bipush 96, 2) := by decide +kernel
theorem dX5_init_71 : decode cX5_init 71 = .ok (.newarray .int, 2) := by decide +kernel
theorem dX5_init_73 : decode cX5_init 73 = .ok (.putfield 34, 3) := by decide +kernel
theorem dX5_init_76 : decode cX5_init 76 = .ok (.aload_n 0, 1) := by decide +kernel
theorem dX5_init_77 : decode cX5_init 77 = .ok (.iconst 3, 1) := by decide +kernel
theorem dX5_init_78 : decode cX5_init 78 = .ok (.newarray .int, 2) := by decide +kernel
theorem dX5_init_80 : decode cX5_init 80 = .ok (.putfield 37, 3) := by decide +kernel
theorem dX5_init_83 : decode cX5_init 83 = .ok (.aload_n 0, 1) := by decide +kernel
theorem dX5_init_84 : decode cX5_init 84 = .ok (.bipush 36, 2) := by decide +kernel
theorem dX5_init_86 : decode cX5_init 86 = .ok (.newarray .int, 2) := by decide +kernel
theorem dX5_init_88 : decode cX5_init 88 = .ok (.putfield 40, 3) := by decide +kernel
theorem dX5_init_91 : decode cX5_init 91 = .ok (.aload_n 0, 1) := by decide +kernel
theorem dX5_init_92 : decode cX5_init 92 = .ok (.sipush 128, 3) := by decide +kernel
theorem dX5_init_95 : decode cX5_init 95 = .ok (.newarray .int, 2) := by decide +kernel
theorem dX5_init_97 : decode cX5_init 97 = .ok (.putfield 43, 3) := by decide +kernel
theorem dX5_init_100 : decode cX5_init 100 = .ok (.aload_n 0, 1) := by decide +kernel
theorem dX5_init_101 : decode cX5_init 101 = .ok (.bipush 6, 2) := by decide +kernel
theorem dX5_init_103 : decode cX5_init 103 = .ok (.newarray .int, 2) := by decide +kernel
theorem dX5_init_105 : decode cX5_init 105 = .ok (.putfield 46, 3) := by decide +kernel
theorem dX5_init_108 : decode cX5_init 108 = .ok (.aload_n 0, 1) := by decide +kernel
theorem dX5_init_109 : decode cX5_init 109 = .ok (.bipush 6, 2) := by decide +kernel
theorem dX5_init_111 : decode cX5_init 111 = .ok (.newarray .int, 2) := by decide +kernel
theorem dX5_init_113 : decode cX5_init 113 = .ok (.putfield 49, 3) := by decide +kernel
theorem dX5_init_116 : decode cX5_init 116 = .ok (.aload_n 0, 1) := by decide +kernel
theorem dX5_init_117 : decode cX5_init 117 = .ok (.sipush 256, 3) := by decide +kernel
theorem dX5_init_120 : decode cX5_init 120 = .ok (.newarray .int, 2) := by decide +kernel
theorem dX5_init_122 : decode cX5_init 122 = .ok (.putfield 52, 3) := by decide +kernel
theorem dX5_init_125 : decode cX5_init 125 = .ok (.aload_n 0, 1) := by decide +kernel
theorem dX5_init_126 : decode cX5_init 126 = .ok (.bipush 6, 2) := by decide +kernel
theorem dX5_init_128 : decode cX5_init 128 = .ok (.newarray .int, 2) := by decide +kernel
theorem dX5_init_130 : decode cX5_init 130 = .ok (.putfield 55, 3) := by decide +kernel
theorem dX5_init_133 : decode cX5_init 133 = .ok (.aload_n 0, 1) := by decide +kernel
theorem dX5_init_134 : decode cX5_init 134 = .ok (.bipush 6, 2) := by decide +kernel
theorem dX5_init_136 : decode cX5_init 136 = .ok (.newarray .int, 2) := by decide +kernel
theorem dX5_init_138 : decode cX5_init 138 = .ok (.putfield 58, 3) := by decide +kernel
theorem dX5_init_141 : decode cX5_init 141 = .ok (.aload_n 0, 1) := by decide +kernel
theorem dX5_init_142 : decode cX5_init 142 = .ok (.bipush 6, 2) := by decide +kernel
theorem dX5_init_144 : decode cX5_init 144 = .ok (.newarray .int, 2) := by decide +kernel
theorem dX5_init_146 : decode cX5_init 146 = .ok (.putfield 61, 3) := by decide +kernel
theorem dX5_init_149 : decode cX5_init 149 = .ok (.return_, 1) := by decide +kernel
theorem dX5_in_0 : decode cX5_in 0 = .ok (.iload_n 0, 1) := by decide +kernel
theorem dX5_in_1 : decode cX5_in 1 = .ok (.iload_n 1, 1) := by decide +kernel
theorem dX5_in_2 : decode cX5_in 2 = .ok (.if_icmp .lt 12, 3) := by decide +kernel
theorem dX5_in_5 : decode cX5_in 5 = .ok (.iload_n 0, 1) := by decide +kernel
theorem dX5_in_6 : decode cX5_in 6 = .ok (.iload_n 2, 1) := by decide +kernel
theorem dX5_in_7 : decode cX5_in 7 = .ok (.if_icmp .gt 7, 3) := by decide +kernel
theorem dX5_in_10 : decode cX5_in 10 = .ok (.iconst 1, 1) := by decide +kernel
theorem dX5_in_11 : decode cX5_in 11 = .ok (.goto 4, 3) := by decide +kernel
theorem dX5_in_14 : decode cX5_in 14 = .ok (.iconst 0, 1) := by decide +kernel
theorem dX5_in_15 : decode cX5_in 15 = .ok (.ireturn, 1) := by decide +kernel
theorem dX5_isScene_0 : decode cX5_isScene 0 = .ok (.iload_n 1, 1) := by decide +kernel
theorem dX5_isScene_1 : decode cX5_isScene 1 = .ok (.iconst 0, 1) := by decide +kernel
theorem dX5_isScene_2 : decode cX5_isScene 2 = .ok (.aload_n 0, 1) := by decide +kernel
theorem dX5_isScene_3 : decode cX5_isScene 3 = .ok (.getfield 64, 3) := by decide +kernel
theorem dX5_isScene_6 : decode cX5_isScene 6 = .ok (.iconst 1, 1) := by decide +kernel
theorem dX5_isScene_7 : decode cX5_isScene 7 = .ok (.isub, 1) := by decide +kernel
theorem dX5_isScene_8 : decode cX5_isScene 8 = .ok (.invokestatic 68, 3) := by decide +kernel
theorem dX5_isScene_11 : decode cX5_isScene 11 = .ok (.ireturn, 1) := by decide +kernel
theorem dX5_isThing_0 : decode cX5_isThing 0 = .ok (.iload_n 1, 1) := by decide +kernel
theorem dX5_isThing_1 : decode cX5_isThing 1 = .ok (.iconst 0, 1) := by decide +kernel
theorem dX5_isThing_2 : decode cX5_isThing 2 = .ok (.aload_n 0, 1) := by decide +kernel
theorem dX5_isThing_3 : decode cX5_isThing 3 = .ok (.getfield 72, 3) := by decide +kernel
theorem dX5_isThing_6 : decode cX5_isThing 6 = .ok (.iconst 1, 1) := by decide +kernel
theorem dX5_isThing_7 : decode cX5_isThing 7 = .ok (.isub, 1) := by decide +kernel
theorem dX5_isThing_8 : decode cX5_isThing 8 = .ok (.invokestatic 68, 3) := by decide +kernel
theorem dX5_isThing_11 : decode cX5_isThing 11 = .ok (.ireturn, 1) := by decide +kernel
theorem dX5_isTake_0 : decode cX5_isTake 0 = .ok (.iload_n 1, 1) := by decide +kernel
theorem dX5_isTake_1 : decode cX5_isTake 1 = .ok (.iconst 0, 1) := by decide +kernel
theorem dX5_isTake_2 : decode cX5_isTake 2 = .ok (.aload_n 0, 1) := by decide +kernel
theorem dX5_isTake_3 : decode cX5_isTake 3 = .ok (.getfield 75, 3) := by decide +kernel
theorem dX5_isTake_6 : decode cX5_isTake 6 = .ok (.iconst 1, 1) := by decide +kernel
theorem dX5_isTake_7 : decode cX5_isTake 7 = .ok (.isub, 1) := by decide +kernel
theorem dX5_isTake_8 : decode cX5_isTake 8 = .ok (.invokestatic 68, 3) := by decide +kernel
theorem dX5_isTake_11 : decode cX5_isTake 11 = .ok (.ireturn, 1) := by decide +kernel
theorem dX5_scene_0 : decode cX5_scene 0 = .ok (.iload_n 1, 1) := by decide +kernel
theorem dX5_scene_1 : decode cX5_scene 1 = .ok (.iconst 0, 1) := by decide +kernel
theorem dX5_scene_2 : decode cX5_scene 2 = .ok (.bipush 99, 2) := by decide +kernel
theorem dX5_scene_4 : decode cX5_scene 4 = .ok (.invokestatic 68, 3) := by decide +kernel
theorem dX5_scene_7 : decode cX5_scene 7 = .ok (.ifCond .eq 13, 3) := by decide +kernel
theorem dX5_scene_10 : decode cX5_scene 10 = .ok (.iload_n 2, 1) := by decide +kernel
theorem dX5_scene_11 : decode cX5_scene 11 = .ok (.iconst 0, 1) := by decide +kernel
theorem dX5_scene_12 : decode cX5_scene 12 = .ok (.bipush 99, 2) := by decide +kernel
theorem dX5_scene_14 : decode cX5_scene 14 = .ok (.invokestatic 68, 3) := by decide +kernel
theorem dX5_scene_17 : decode cX5_scene 17 = .ok (.ifCond .ne 5, 3) := by decide +kernel
theorem dX5_scene_20 : decode cX5_scene 20 = .ok (.iconst (-1), 1) := by decide +kernel
theorem dX5_scene_21 : decode cX5_scene 21 = .ok (.ireturn, 1) := by decide +kernel
theorem dX5_scene_22 : decode cX5_scene 22 = .ok (.aload_n 0, 1) := by decide +kernel
theorem dX5_scene_23 : decode cX5_scene 23 = .ok (.getfield 64, 3) := by decide +kernel
theorem dX5_scene_26 : decode cX5_scene 26 = .ok (.bipush 6, 2) := by decide +kernel
theorem dX5_scene_28 : decode cX5_scene 28 = .ok (.if_icmp .ne 6, 3) := by decide +kernel
theorem dX5_scene_31 : decode cX5_scene 31 = .ok (.bipush (-2), 2) := by decide +kernel
theorem dX5_scene_33 : decode cX5_scene 33 = .ok (.ireturn, 1) := by decide +kernel
theorem dX5_scene_34 : decode cX5_scene 34 = .ok (.aload_n 0, 1) := by decide +kernel
theorem dX5_scene_35 : decode cX5_scene 35 = .ok (.getfield 7, 3) := by decide +kernel
theorem dX5_scene_38 : decode cX5_scene 38 = .ok (.aload_n 0, 1) := by decide +kernel
theorem dX5_scene_39 : decode cX5_scene 39 = .ok (.getfield 64, 3) := by decide +kernel
theorem dX5_scene_42 : decode cX5_scene 42 = .ok (.iload_n 1, 1) := by decide +kernel
theorem dX5_scene_43 : decode cX5_scene 43 = .ok (.iastore, 1) := by decide +kernel
theorem dX5_scene_44 : decode cX5_scene 44 = .ok (.aload_n 0, 1) := by decide +kernel
theorem dX5_scene_45 : decode cX5_scene 45 = .ok (.getfield 13, 3) := by decide +kernel
theorem dX5_scene_48 : decode cX5_scene 48 = .ok (.aload_n 0, 1) := by decide +kernel
theorem dX5_scene_49 : decode cX5_scene 49 = .ok (.getfield 64, 3) := by decide +kernel
theorem dX5_scene_52 : decode cX5_scene 52 = .ok (.iload_n 2, 1) := by decide +kernel
theorem dX5_scene_53 : decode cX5_scene 53 = .ok (.iastore, 1) := by decide +kernel
theorem dX5_scene_54 : decode cX5_scene 54 = .ok (.aload_n 0, 1) := by decide +kernel
theorem dX5_scene_55 : decode cX5_scene 55 = .ok (.getfield 16, 3) := by decide +kernel
theorem dX5_scene_58 : decode cX5_scene 58 = .ok (.aload_n 0, 1) := by decide +kernel
theorem dX5_scene_59 : decode cX5_scene 59 = .ok (.getfield 64, 3) := by decide +kernel
theorem dX5_scene_62 : decode cX5_scene 62 = .ok (.iconst (-1), 1) := by decide +kernel
theorem dX5_scene_63 : decode cX5_scene 63 = .ok (.iastore, 1) := by decide +kernel
theorem dX5_scene_64 : decode cX5_scene 64 = .ok (.aload_n 0, 1) := by decide +kernel
theorem dX5_scene_65 : decode cX5_scene 65 = .ok (.dup, 1) := by decide +kernel
theorem dX5_scene_66 : decode cX5_scene 66 = .ok (.getfield 64, 3) := by decide +kernel
theorem dX5_scene_69 : decode cX5_scene 69 = .ok (.iconst 1, 1) := by decide +kernel
theorem dX5_scene_70 : decode cX5_scene 70 = .ok (.iadd, 1) := by decide +kernel
theorem dX5_scene_71 : decode cX5_scene 71 = .ok (.putfield 64, 3) := by decide +kernel
theorem dX5_scene_74 : decode cX5_scene 74 = .ok (.aload_n 0, 1) := by decide +kernel
theorem dX5_scene_75 : decode cX5_scene 75 = .ok (.getfield 64, 3) := by decide +kernel
theorem dX5_scene_78 : decode cX5_scene 78 = .ok (.iconst 1, 1) := by decide +kernel
theorem dX5_scene_79 : decode cX5_scene 79 = .ok (.isub, 1) := by decide +kernel
theorem dX5_scene_80 : decode cX5_scene 80 = .ok (.ireturn, 1) := by decide +kernel
theorem dX5_shift_0 : decode cX5_shift 0 = .ok (.aload_n 0, 1) := by decide +kernel
theorem dX5_shift_1 : decode cX5_shift 1 = .ok (.iload_n 1, 1) := by decide +kernel
theorem dX5_shift_2 : decode cX5_shift 2 = .ok (.invokevirtual 78, 3) := by decide +kernel
theorem dX5_shift_5 : decode cX5_shift 5 = .ok (.ifCond .eq 23, 3) := by decide +kernel
theorem dX5_shift_8 : decode cX5_shift 8 = .ok (.iload_n 2, 1) := by decide +kernel
theorem dX5_shift_9 : decode cX5_shift 9 = .ok (.iconst 0, 1) := by decide +kernel
theorem dX5_shift_10 : decode cX5_shift 10 = .ok (.bipush 99, 2) := by decide +kernel
theorem dX5_shift_12 : decode cX5_shift 12 = .ok (.invokestatic 68, 3) := by decide +kernel
theorem dX5_shift_15 : decode cX5_shift 15 = .ok (.ifCond .eq 13, 3) := by decide +kernel
theorem dX5_shift_18 : decode cX5_shift 18 = .ok (.iload_n 3, 1) := by decide +kernel
theorem dX5_shift_19 : decode cX5_shift 19 = .ok (.iconst 0, 1) := by decide +kernel
theorem dX5_shift_20 : decode cX5_shift 20 = .ok (.bipush 99, 2) := by decide +kernel
theorem dX5_shift_22 : decode cX5_shift 22 = .ok (.invokestatic 68, 3) := by decide +kernel
theorem dX5_shift_25 : decode cX5_shift 25 = .ok (.ifCond .ne 5, 3) := by decide +kernel
theorem dX5_shift_28 : decode cX5_shift 28 = .ok (.iconst (-1), 1) := by decide +kernel
theorem dX5_shift_29 : decode cX5_shift 29 = .ok (.ireturn, 1) := by decide +kernel
theorem dX5_shift_30 : decode cX5_shift 30 = .ok (.aload_n 0, 1) := by decide +kernel
theorem dX5_shift_31 : decode cX5_shift 31 = .ok (.getfield 7, 3) := by decide +kernel
theorem dX5_shift_34 : decode cX5_shift 34 = .ok (.iload_n 1, 1) := by decide +kernel
theorem dX5_shift_35 : decode cX5_shift 35 = .ok (.iload_n 2, 1) := by decide +kernel
theorem dX5_shift_36 : decode cX5_shift 36 = .ok (.iastore, 1) := by decide +kernel
theorem dX5_shift_37 : decode cX5_shift 37 = .ok (.aload_n 0, 1) := by decide +kernel
theorem dX5_shift_38 : decode cX5_shift 38 = .ok (.getfield 13, 3) := by decide +kernel
theorem dX5_shift_41 : decode cX5_shift 41 = .ok (.iload_n 1, 1) := by decide +kernel
theorem dX5_shift_42 : decode cX5_shift 42 = .ok (.iload_n 3, 1) := by decide +kernel
theorem dX5_shift_43 : decode cX5_shift 43 = .ok (.iastore, 1) := by decide +kernel
theorem dX5_shift_44 : decode cX5_shift 44 = .ok (.iconst 1, 1) := by decide +kernel
theorem dX5_shift_45 : decode cX5_shift 45 = .ok (.ireturn, 1) := by decide +kernel
theorem dX5_thing_0 : decode cX5_thing 0 = .ok (.iload_n 1, 1) := by decide +kernel
theorem dX5_thing_1 : decode cX5_thing 1 = .ok (.iconst 0, 1) := by decide +kernel
theorem dX5_thing_2 : decode cX5_thing 2 = .ok (.iconst 3, 1) := by decide +kernel
theorem dX5_thing_3 : decode cX5_thing 3 = .ok (.invokestatic 68, 3) := by decide +kernel
theorem dX5_thing_6 : decode cX5_thing 6 = .ok (.ifCond .eq 41, 3) := by decide +kernel
theorem dX5_thing_9 : decode cX5_thing 9 = .ok (.iload_n 2, 1) := by decide +kernel
theorem dX5_thing_10 : decode cX5_thing 10 = .ok (.iload_n 1, 1) := by decide +kernel
theorem dX5_thing_11 : decode cX5_thing 11 = .ok (.iconst 3, 1) := by decide +kernel
theorem dX5_thing_12 : decode cX5_thing 12 = .ok (.if_icmp .ne 7, 3) := by decide +kernel
theorem dX5_thing_15 : decode cX5_thing 15 = .ok (.iconst 1, 1) := by decide +kernel
theorem dX5_thing_16 : decode cX5_thing 16 = .ok (.goto 4, 3) := by decide +kernel
theorem dX5_thing_19 : decode cX5_thing 19 = .ok (.iconst 0, 1) := by decide +kernel
theorem dX5_thing_20 : decode cX5_thing 20 = .ok (.iload_n 1, 1) := by decide +kernel
theorem dX5_thing_21 : decode cX5_thing 21 = .ok (.iconst 3, 1) := by decide +kernel
theorem dX5_thing_22 : decode cX5_thing 22 = .ok (.if_icmp .ne 8, 3) := by decide +kernel
theorem dX5_thing_25 : decode cX5_thing 25 = .ok (.bipush 9, 2) := by decide +kernel
theorem dX5_thing_27 : decode cX5_thing 27 = .ok (.goto 4, 3) := by decide +kernel
theorem dX5_thing_30 : decode cX5_thing 30 = .ok (.iconst 0, 1) := by decide +kernel
theorem dX5_thing_31 : decode cX5_thing 31 = .ok (.invokestatic 68, 3) := by decide +kernel
theorem dX5_thing_34 : decode cX5_thing 34 = .ok (.ifCond .eq 13, 3) := by decide +kernel
theorem dX5_thing_37 : decode cX5_thing 37 = .ok (.iload_n 3, 1) := by decide +kernel
theorem dX5_thing_38 : decode cX5_thing 38 = .ok (.iconst 1, 1) := by decide +kernel
theorem dX5_thing_39 : decode cX5_thing 39 = .ok (.bipush 9, 2) := by decide +kernel
theorem dX5_thing_41 : decode cX5_thing 41 = .ok (.invokestatic 68, 3) := by decide +kernel
theorem dX5_thing_44 : decode cX5_thing 44 = .ok (.ifCond .ne 5, 3) := by decide +kernel
theorem dX5_thing_47 : decode cX5_thing 47 = .ok (.iconst (-1), 1) := by decide +kernel
theorem dX5_thing_48 : decode cX5_thing 48 = .ok (.ireturn, 1) := by decide +kernel
theorem dX5_thing_49 : decode cX5_thing 49 = .ok (.aload_n 0, 1) := by decide +kernel
theorem dX5_thing_50 : decode cX5_thing 50 = .ok (.getfield 72, 3) := by decide +kernel
theorem dX5_thing_53 : decode cX5_thing 53 = .ok (.bipush 6, 2) := by decide +kernel
theorem dX5_thing_55 : decode cX5_thing 55 = .ok (.if_icmp .ne 6, 3) := by decide +kernel
theorem dX5_thing_58 : decode cX5_thing 58 = .ok (.bipush (-2), 2) := by decide +kernel
theorem dX5_thing_60 : decode cX5_thing 60 = .ok (.ireturn, 1) := by decide +kernel
theorem dX5_thing_61 : decode cX5_thing 61 = .ok (.aload_n 0, 1) := by decide +kernel
theorem dX5_thing_62 : decode cX5_thing 62 = .ok (.getfield 19, 3) := by decide +kernel
theorem dX5_thing_65 : decode cX5_thing 65 = .ok (.aload_n 0, 1) := by decide +kernel
theorem dX5_thing_66 : decode cX5_thing 66 = .ok (.getfield 72, 3) := by decide +kernel
theorem dX5_thing_69 : decode cX5_thing 69 = .ok (.iload_n 1, 1) := by decide +kernel
theorem dX5_thing_70 : decode cX5_thing 70 = .ok (.iastore, 1) := by decide +kernel
theorem dX5_thing_71 : decode cX5_thing 71 = .ok (.aload_n 0, 1) := by decide +kernel
theorem dX5_thing_72 : decode cX5_thing 72 = .ok (.getfield 22, 3) := by decide +kernel
theorem dX5_thing_75 : decode cX5_thing 75 = .ok (.aload_n 0, 1) := by decide +kernel
theorem dX5_thing_76 : decode cX5_thing 76 = .ok (.getfield 72, 3) := by decide +kernel
theorem dX5_thing_79 : decode cX5_thing 79 = .ok (.iload_n 2, 1) := by decide +kernel
theorem dX5_thing_80 : decode cX5_thing 80 = .ok (.iastore, 1) := by decide +kernel
theorem dX5_thing_81 : decode cX5_thing 81 = .ok (.aload_n 0, 1) := by decide +kernel
theorem dX5_thing_82 : decode cX5_thing 82 = .ok (.getfield 25, 3) := by decide +kernel
theorem dX5_thing_85 : decode cX5_thing 85 = .ok (.aload_n 0, 1) := by decide +kernel
theorem dX5_thing_86 : decode cX5_thing 86 = .ok (.getfield 72, 3) := by decide +kernel
theorem dX5_thing_89 : decode cX5_thing 89 = .ok (.iload_n 3, 1) := by decide +kernel
theorem dX5_thing_90 : decode cX5_thing 90 = .ok (.iastore, 1) := by decide +kernel
theorem dX5_thing_91 : decode cX5_thing 91 = .ok (.aload_n 0, 1) := by decide +kernel
theorem dX5_thing_92 : decode cX5_thing 92 = .ok (.dup, 1) := by decide +kernel
theorem dX5_thing_93 : decode cX5_thing 93 = .ok (.getfield 72, 3) := by decide +kernel
theorem dX5_thing_96 : decode cX5_thing 96 = .ok (.iconst 1, 1) := by decide +kernel
theorem dX5_thing_97 : decode cX5_thing 97 = .ok (.iadd, 1) := by decide +kernel
theorem dX5_thing_98 : decode cX5_thing 98 = .ok (.putfield 72, 3) := by decide +kernel
theorem dX5_thing_101 : decode cX5_thing 101 = .ok (.aload_n 0, 1) := by decide +kernel
theorem dX5_thing_102 : decode cX5_thing 102 = .ok (.getfield 72, 3) := by decide +kernel
theorem dX5_thing_105 : decode cX5_thing 105 = .ok (.iconst 1, 1) := by decide +kernel
theorem dX5_thing_106 : decode cX5_thing 106 = .ok (.isub, 1) := by decide +kernel
theorem dX5_thing_107 : decode cX5_thing 107 = .ok (.ireturn, 1) := by decide +kernel
theorem dX5_loud_0 : decode cX5_loud 0 = .ok (.aload_n 0, 1) := by decide +kernel
theorem dX5_loud_1 : decode cX5_loud 1 = .ok (.iload_n 1, 1) := by decide +kernel
theorem dX5_loud_2 : decode cX5_loud 2 = .ok (.invokevirtual 82, 3) := by decide +kernel
theorem dX5_loud_5 : decode cX5_loud 5 = .ok (.ifCond .eq 13, 3) := by decide +kernel
theorem dX5_loud_8 : decode cX5_loud 8 = .ok (.iload_n 2, 1) := by decide +kernel
theorem dX5_loud_9 : decode cX5_loud 9 = .ok (.iconst 1, 1) := by decide +kernel
theorem dX5_loud_10 : decode cX5_loud 10 = .ok (.bipush 9, 2) := by decide +kernel
theorem dX5_loud_12 : decode cX5_loud 12 = .ok (.invokestatic 68, 3) := by decide +kernel
theorem dX5_loud_15 : decode cX5_loud 15 = .ok (.ifCond .ne 5, 3) := by decide +kernel
theorem dX5_loud_18 : decode cX5_loud 18 = .ok (.iconst (-1), 1) := by decide +kernel
theorem dX5_loud_19 : decode cX5_loud 19 = .ok (.ireturn, 1) := by decide +kernel
theorem dX5_loud_20 : decode cX5_loud 20 = .ok (.aload_n 0, 1) := by decide +kernel
theorem dX5_loud_21 : decode cX5_loud 21 = .ok (.getfield 25, 3) := by decide +kernel
theorem dX5_loud_24 : decode cX5_loud 24 = .ok (.iload_n 1, 1) := by decide +kernel
theorem dX5_loud_25 : decode cX5_loud 25 = .ok (.iaload, 1) := by decide +kernel
theorem dX5_loud_26 : decode cX5_loud 26 = .ok (.istore_n 3, 1) := by decide +kernel
theorem dX5_loud_27 : decode cX5_loud 27 = .ok (.aload_n 0, 1) := by decide +kernel
theorem dX5_loud_28 : decode cX5_loud 28 = .ok (.getfield 25, 3) := by decide +kernel
theorem dX5_loud_31 : decode cX5_loud 31 = .ok (.iload_n 1, 1) := by decide +kernel
theorem dX5_loud_32 : decode cX5_loud 32 = .ok (.iload_n 2, 1) := by decide +kernel
theorem dX5_loud_33 : decode cX5_loud 33 = .ok (.iastore, 1) := by decide +kernel
theorem dX5_loud_34 : decode cX5_loud 34 = .ok (.iload_n 3, 1) := by decide +kernel
theorem dX5_loud_35 : decode cX5_loud 35 = .ok (.ireturn, 1) := by decide +kernel
theorem dX5_takesOf_0 : decode cX5_takesOf 0 = .ok (.iconst 0, 1) := by decide +kernel
theorem dX5_takesOf_1 : decode cX5_takesOf 1 = .ok (.istore_n 2, 1) := by decide +kernel
theorem dX5_takesOf_2 : decode cX5_takesOf 2 = .ok (.iconst 0, 1) := by decide +kernel
theorem dX5_takesOf_3 : decode cX5_takesOf 3 = .ok (.istore_n 3, 1) := by decide +kernel
theorem dX5_takesOf_4 : decode cX5_takesOf 4 = .ok (.iload_n 3, 1) := by decide +kernel
theorem dX5_takesOf_5 : decode cX5_takesOf 5 = .ok (.aload_n 0, 1) := by decide +kernel
theorem dX5_takesOf_6 : decode cX5_takesOf 6 = .ok (.getfield 75, 3) := by decide +kernel
theorem dX5_takesOf_9 : decode cX5_takesOf 9 = .ok (.if_icmp .ge 27, 3) := by decide +kernel
theorem dX5_takesOf_12 : decode cX5_takesOf 12 = .ok (.iload_n 2, 1) := by decide +kernel
theorem dX5_takesOf_13 : decode cX5_takesOf 13 = .ok (.aload_n 0, 1) := by decide +kernel
theorem dX5_takesOf_14 : decode cX5_takesOf 14 = .ok (.getfield 28, 3) := by decide +kernel
theorem dX5_takesOf_17 : decode cX5_takesOf 17 = .ok (.iload_n 3, 1) := by decide +kernel
theorem dX5_takesOf_18 : decode cX5_takesOf 18 = .ok (.iaload, 1) := by decide +kernel
theorem dX5_takesOf_19 : decode cX5_takesOf 19 = .ok (.iload_n 1, 1) := by decide +kernel
theorem dX5_takesOf_20 : decode cX5_takesOf 20 = .ok (.if_icmp .ne 7, 3) := by decide +kernel
theorem dX5_takesOf_23 : decode cX5_takesOf 23 = .ok (.iconst 1, 1) := by decide +kernel
theorem dX5_takesOf_24 : decode cX5_takesOf 24 = .ok (.goto 4, 3) := by decide +kernel
theorem dX5_takesOf_27 : decode cX5_takesOf 27 = .ok (.iconst 0, 1) := by decide +kernel
theorem dX5_takesOf_28 : decode cX5_takesOf 28 = .ok (.iadd, 1) := by decide +kernel
theorem dX5_takesOf_29 : decode cX5_takesOf 29 = .ok (.istore_n 2, 1) := by decide +kernel
theorem dX5_takesOf_30 : decode cX5_takesOf 30 = .ok (.iinc 3 1, 3) := by decide +kernel
theorem dX5_takesOf_33 : decode cX5_takesOf 33 = .ok (.goto (-29), 3) := by decide +kernel
theorem dX5_takesOf_36 : decode cX5_takesOf 36 = .ok (.iload_n 2, 1) := by decide +kernel
theorem dX5_takesOf_37 : decode cX5_takesOf 37 = .ok (.ireturn, 1) := by decide +kernel
theorem dX5_take_0 : decode cX5_take 0 = .ok (.aload_n 0, 1) := by decide +kernel
theorem dX5_take_1 : decode cX5_take 1 = .ok (.iload_n 1, 1) := by decide +kernel
theorem dX5_take_2 : decode cX5_take 2 = .ok (.invokevirtual 78, 3) := by decide +kernel
theorem dX5_take_5 : decode cX5_take 5 = .ok (.ifCond .eq 13, 3) := by decide +kernel
theorem dX5_take_8 : decode cX5_take 8 = .ok (.iload_n 2, 1) := by decide +kernel
theorem dX5_take_9 : decode cX5_take 9 = .ok (.iconst 0, 1) := by decide +kernel
theorem dX5_take_10 : decode cX5_take 10 = .ok (.bipush 20, 2) := by decide +kernel
theorem dX5_take_12 : decode cX5_take 12 = .ok (.invokestatic 68, 3) := by decide +kernel
theorem dX5_take_15 : decode cX5_take 15 = .ok (.ifCond .ne 5, 3) := by decide +kernel
theorem dX5_take_18 : decode cX5_take 18 = .ok (.iconst (-1), 1) := by decide +kernel
theorem dX5_take_19 : decode cX5_take 19 = .ok (.ireturn, 1) := by decide +kernel
theorem dX5_take_20 : decode cX5_take 20 = .ok (.aload_n 0, 1) := by decide +kernel
theorem dX5_take_21 : decode cX5_take 21 = .ok (.getfield 75, 3) := by decide +kernel
theorem dX5_take_24 : decode cX5_take 24 = .ok (.bipush 16, 2) := by decide +kernel
theorem dX5_take_26 : decode cX5_take 26 = .ok (.if_icmp .eq 12, 3) := by decide +kernel
theorem dX5_take_29 : decode cX5_take 29 = .ok (.aload_n 0, 1) := by decide +kernel
theorem dX5_take_30 : decode cX5_take 30 = .ok (.iload_n 1, 1) := by decide +kernel
theorem dX5_take_31 : decode cX5_take 31 = .ok (.invokevirtual 85, 3) := by decide +kernel
theorem dX5_take_34 : decode cX5_take 34 = .ok (.iconst 4, 1) := by decide +kernel
theorem dX5_take_35 : decode cX5_take 35 = .ok (.if_icmp .ne 6, 3) := by decide +kernel
theorem dX5_take_38 : decode cX5_take 38 = .ok (.bipush (-2), 2) := by decide +kernel
theorem dX5_take_40 : decode cX5_take 40 = .ok (.ireturn, 1) := by decide +kernel
theorem dX5_take_41 : decode cX5_take 41 = .ok (.aload_n 0, 1) := by decide +kernel
theorem dX5_take_42 : decode cX5_take 42 = .ok (.getfield 28, 3) := by decide +kernel
theorem dX5_take_45 : decode cX5_take 45 = .ok (.aload_n 0, 1) := by decide +kernel
theorem dX5_take_46 : decode cX5_take 46 = .ok (.getfield 75, 3) := by decide +kernel
theorem dX5_take_49 : decode cX5_take 49 = .ok (.iload_n 1, 1) := by decide +kernel
theorem dX5_take_50 : decode cX5_take 50 = .ok (.iastore, 1) := by decide +kernel
theorem dX5_take_51 : decode cX5_take 51 = .ok (.aload_n 0, 1) := by decide +kernel
theorem dX5_take_52 : decode cX5_take 52 = .ok (.getfield 31, 3) := by decide +kernel
theorem dX5_take_55 : decode cX5_take 55 = .ok (.aload_n 0, 1) := by decide +kernel
