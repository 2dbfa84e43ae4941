theorem dX5_findCut_177 : decode cX5_findCut 177 = .ok (.iload_n 3, 1) := by decide +kernel
theorem dX5_findCut_178 : decode cX5_findCut 178 = .ok (.iaload, 1) := by decide +kernel
theorem dX5_findCut_179 : decode cX5_findCut 179 = .ok (.invokevirtual 114, 3) := by decide +kernel
theorem dX5_findCut_182 : decode cX5_findCut 182 = .ok (.iastore, 1) := by decide +kernel
theorem dX5_findCut_183 : decode cX5_findCut 183 = .ok (.goto (-144), 3) := by decide +kernel
theorem dX5_findCut_186 : decode cX5_findCut 186 = .ok (.return_, 1) := by decide +kernel
theorem dX5_cost_0 : decode cX5_cost 0 = .ok (.aload_n 0, 1) := by decide +kernel
theorem dX5_cost_1 : decode cX5_cost 1 = .ok (.invokevirtual 124, 3) := by decide +kernel
theorem dX5_cost_4 : decode cX5_cost 4 = .ok (.aload_n 0, 1) := by decide +kernel
theorem dX5_cost_5 : decode cX5_cost 5 = .ok (.getfield 117, 3) := by decide +kernel
theorem dX5_cost_8 : decode cX5_cost 8 = .ok (.ireturn, 1) := by decide +kernel
theorem dX5_cut_0 : decode cX5_cut 0 = .ok (.aload_n 0, 1) := by decide +kernel
theorem dX5_cut_1 : decode cX5_cut 1 = .ok (.iload_n 1, 1) := by decide +kernel
theorem dX5_cut_2 : decode cX5_cut 2 = .ok (.invokevirtual 78, 3) := by decide +kernel
theorem dX5_cut_5 : decode cX5_cut 5 = .ok (.ifCond .ne 5, 3) := by decide +kernel
theorem dX5_cut_8 : decode cX5_cut 8 = .ok (.iconst (-1), 1) := by decide +kernel
theorem dX5_cut_9 : decode cX5_cut 9 = .ok (.ireturn, 1) := by decide +kernel
theorem dX5_cut_10 : decode cX5_cut 10 = .ok (.aload_n 0, 1) := by decide +kernel
theorem dX5_cut_11 : decode cX5_cut 11 = .ok (.invokevirtual 124, 3) := by decide +kernel
theorem dX5_cut_14 : decode cX5_cut 14 = .ok (.aload_n 0, 1) := by decide +kernel
theorem dX5_cut_15 : decode cX5_cut 15 = .ok (.getfield 49, 3) := by decide +kernel
theorem dX5_cut_18 : decode cX5_cut 18 = .ok (.iload_n 1, 1) := by decide +kernel
theorem dX5_cut_19 : decode cX5_cut 19 = .ok (.iaload, 1) := by decide +kernel
theorem dX5_cut_20 : decode cX5_cut 20 = .ok (.ifCond .ge 8, 3) := by decide +kernel
theorem dX5_cut_23 : decode cX5_cut 23 = .ok (.bipush (-4), 2) := by decide +kernel
theorem dX5_cut_25 : decode cX5_cut 25 = .ok (.goto 9, 3) := by decide +kernel
theorem dX5_cut_28 : decode cX5_cut 28 = .ok (.aload_n 0, 1) := by decide +kernel
theorem dX5_cut_29 : decode cX5_cut 29 = .ok (.getfield 49, 3) := by decide +kernel
theorem dX5_cut_32 : decode cX5_cut 32 = .ok (.iload_n 1, 1) := by decide +kernel
theorem dX5_cut_33 : decode cX5_cut 33 = .ok (.iaload, 1) := by decide +kernel
theorem dX5_cut_34 : decode cX5_cut 34 = .ok (.ireturn, 1) := by decide +kernel
theorem dX5_choose_0 : decode cX5_choose 0 = .ok (.aload_n 0, 1) := by decide +kernel
theorem dX5_choose_1 : decode cX5_choose 1 = .ok (.iload_n 1, 1) := by decide +kernel
theorem dX5_choose_2 : decode cX5_choose 2 = .ok (.invokevirtual 78, 3) := by decide +kernel
theorem dX5_choose_5 : decode cX5_choose 5 = .ok (.ifCond .eq 17, 3) := by decide +kernel
theorem dX5_choose_8 : decode cX5_choose 8 = .ok (.iload_n 2, 1) := by decide +kernel
theorem dX5_choose_9 : decode cX5_choose 9 = .ok (.iconst (-1), 1) := by decide +kernel
theorem dX5_choose_10 : decode cX5_choose 10 = .ok (.aload_n 0, 1) := by decide +kernel
theorem dX5_choose_11 : decode cX5_choose 11 = .ok (.getfield 75, 3) := by decide +kernel
theorem dX5_choose_14 : decode cX5_choose 14 = .ok (.iconst 1, 1) := by decide +kernel
theorem dX5_choose_15 : decode cX5_choose 15 = .ok (.isub, 1) := by decide +kernel
theorem dX5_choose_16 : decode cX5_choose 16 = .ok (.invokestatic 68, 3) := by decide +kernel
theorem dX5_choose_19 : decode cX5_choose 19 = .ok (.ifCond .ne 6, 3) := by decide +kernel
theorem dX5_choose_22 : decode cX5_choose 22 = .ok (.bipush (-5), 2) := by decide +kernel
theorem dX5_choose_24 : decode cX5_choose 24 = .ok (.ireturn, 1) := by decide +kernel
theorem dX5_choose_25 : decode cX5_choose 25 = .ok (.iload_n 2, 1) := by decide +kernel
theorem dX5_choose_26 : decode cX5_choose 26 = .ok (.ifCond .lt 16, 3) := by decide +kernel
theorem dX5_choose_29 : decode cX5_choose 29 = .ok (.aload_n 0, 1) := by decide +kernel
theorem dX5_choose_30 : decode cX5_choose 30 = .ok (.getfield 28, 3) := by decide +kernel
theorem dX5_choose_33 : decode cX5_choose 33 = .ok (.iload_n 2, 1) := by decide +kernel
theorem dX5_choose_34 : decode cX5_choose 34 = .ok (.iaload, 1) := by decide +kernel
theorem dX5_choose_35 : decode cX5_choose 35 = .ok (.iload_n 1, 1) := by decide +kernel
theorem dX5_choose_36 : decode cX5_choose 36 = .ok (.if_icmp .eq 6, 3) := by decide +kernel
theorem dX5_choose_39 : decode cX5_choose 39 = .ok (.bipush (-3), 2) := by decide +kernel
theorem dX5_choose_41 : decode cX5_choose 41 = .ok (.ireturn, 1) := by decide +kernel
theorem dX5_choose_42 : decode cX5_choose 42 = .ok (.aload_n 0, 1) := by decide +kernel
theorem dX5_choose_43 : decode cX5_choose 43 = .ok (.getfield 16, 3) := by decide +kernel
theorem dX5_choose_46 : decode cX5_choose 46 = .ok (.iload_n 1, 1) := by decide +kernel
theorem dX5_choose_47 : decode cX5_choose 47 = .ok (.iaload, 1) := by decide +kernel
theorem dX5_choose_48 : decode cX5_choose 48 = .ok (.istore_n 3, 1) := by decide +kernel
theorem dX5_choose_49 : decode cX5_choose 49 = .ok (.aload_n 0, 1) := by decide +kernel
theorem dX5_choose_50 : decode cX5_choose 50 = .ok (.getfield 16, 3) := by decide +kernel
theorem dX5_choose_53 : decode cX5_choose 53 = .ok (.iload_n 1, 1) := by decide +kernel
theorem dX5_choose_54 : decode cX5_choose 54 = .ok (.iload_n 2, 1) := by decide +kernel
theorem dX5_choose_55 : decode cX5_choose 55 = .ok (.iastore, 1) := by decide +kernel
theorem dX5_choose_56 : decode cX5_choose 56 = .ok (.iload_n 3, 1) := by decide +kernel
theorem dX5_choose_57 : decode cX5_choose 57 = .ok (.ireturn, 1) := by decide +kernel
theorem dX5_adopt_0 : decode cX5_adopt 0 = .ok (.aload_n 0, 1) := by decide +kernel
theorem dX5_adopt_1 : decode cX5_adopt 1 = .ok (.invokevirtual 124, 3) := by decide +kernel
theorem dX5_adopt_4 : decode cX5_adopt 4 = .ok (.iconst 0, 1) := by decide +kernel
theorem dX5_adopt_5 : decode cX5_adopt 5 = .ok (.istore_n 1, 1) := by decide +kernel
theorem dX5_adopt_6 : decode cX5_adopt 6 = .ok (.iconst 0, 1) := by decide +kernel
theorem dX5_adopt_7 : decode cX5_adopt 7 = .ok (.istore_n 2, 1) := by decide +kernel
theorem dX5_adopt_8 : decode cX5_adopt 8 = .ok (.iload_n 2, 1) := by decide +kernel
theorem dX5_adopt_9 : decode cX5_adopt 9 = .ok (.aload_n 0, 1) := by decide +kernel
theorem dX5_adopt_10 : decode cX5_adopt 10 = .ok (.getfield 64, 3) := by decide +kernel
theorem dX5_adopt_13 : decode cX5_adopt 13 = .ok (.if_icmp .ge 44, 3) := by decide +kernel
theorem dX5_adopt_16 : decode cX5_adopt 16 = .ok (.iload_n 1, 1) := by decide +kernel
theorem dX5_adopt_17 : decode cX5_adopt 17 = .ok (.aload_n 0, 1) := by decide +kernel
theorem dX5_adopt_18 : decode cX5_adopt 18 = .ok (.getfield 16, 3) := by decide +kernel
theorem dX5_adopt_21 : decode cX5_adopt 21 = .ok (.iload_n 2, 1) := by decide +kernel
theorem dX5_adopt_22 : decode cX5_adopt 22 = .ok (.iaload, 1) := by decide +kernel
theorem dX5_adopt_23 : decode cX5_adopt 23 = .ok (.aload_n 0, 1) := by decide +kernel
theorem dX5_adopt_24 : decode cX5_adopt 24 = .ok (.getfield 49, 3) := by decide +kernel
theorem dX5_adopt_27 : decode cX5_adopt 27 = .ok (.iload_n 2, 1) := by decide +kernel
theorem dX5_adopt_28 : decode cX5_adopt 28 = .ok (.iaload, 1) := by decide +kernel
theorem dX5_adopt_29 : decode cX5_adopt 29 = .ok (.if_icmp .eq 7, 3) := by decide +kernel
theorem dX5_adopt_32 : decode cX5_adopt 32 = .ok (.iconst 1, 1) := by decide +kernel
theorem dX5_adopt_33 : decode cX5_adopt 33 = .ok (.goto 4, 3) := by decide +kernel
theorem dX5_adopt_36 : decode cX5_adopt 36 = .ok (.iconst 0, 1) := by decide +kernel
theorem dX5_adopt_37 : decode cX5_adopt 37 = .ok (.iadd, 1) := by decide +kernel
theorem dX5_adopt_38 : decode cX5_adopt 38 = .ok (.istore_n 1, 1) := by decide +kernel
theorem dX5_adopt_39 : decode cX5_adopt 39 = .ok (.aload_n 0, 1) := by decide +kernel
theorem dX5_adopt_40 : decode cX5_adopt 40 = .ok (.getfield 16, 3) := by decide +kernel
theorem dX5_adopt_43 : decode cX5_adopt 43 = .ok (.iload_n 2, 1) := by decide +kernel
theorem dX5_adopt_44 : decode cX5_adopt 44 = .ok (.aload_n 0, 1) := by decide +kernel
theorem dX5_adopt_45 : decode cX5_adopt 45 = .ok (.getfield 49, 3) := by decide +kernel
theorem dX5_adopt_48 : decode cX5_adopt 48 = .ok (.iload_n 2, 1) := by decide +kernel
theorem dX5_adopt_49 : decode cX5_adopt 49 = .ok (.iaload, 1) := by decide +kernel
theorem dX5_adopt_50 : decode cX5_adopt 50 = .ok (.iastore, 1) := by decide +kernel
theorem dX5_adopt_51 : decode cX5_adopt 51 = .ok (.iinc 2 1, 3) := by decide +kernel
theorem dX5_adopt_54 : decode cX5_adopt 54 = .ok (.goto (-46), 3) := by decide +kernel
theorem dX5_adopt_57 : decode cX5_adopt 57 = .ok (.iload_n 1, 1) := by decide +kernel
theorem dX5_adopt_58 : decode cX5_adopt 58 = .ok (.ireturn, 1) := by decide +kernel
theorem dX5_chosen_0 : decode cX5_chosen 0 = .ok (.aload_n 0, 1) := by decide +kernel
theorem dX5_chosen_1 : decode cX5_chosen 1 = .ok (.invokevirtual 111, 3) := by decide +kernel
theorem dX5_chosen_4 : decode cX5_chosen 4 = .ok (.aload_n 0, 1) := by decide +kernel
theorem dX5_chosen_5 : decode cX5_chosen 5 = .ok (.aload_n 0, 1) := by decide +kernel
theorem dX5_chosen_6 : decode cX5_chosen 6 = .ok (.getfield 16, 3) := by decide +kernel
theorem dX5_chosen_9 : decode cX5_chosen 9 = .ok (.invokevirtual 120, 3) := by decide +kernel
theorem dX5_chosen_12 : decode cX5_chosen 12 = .ok (.ireturn, 1) := by decide +kernel
theorem dX5_maySee_0 : decode cX5_maySee 0 = .ok (.iconst 1, 1) := by decide +kernel
theorem dX5_maySee_1 : decode cX5_maySee 1 = .ok (.istore 4, 2) := by decide +kernel
theorem dX5_maySee_3 : decode cX5_maySee 3 = .ok (.iconst 0, 1) := by decide +kernel
theorem dX5_maySee_4 : decode cX5_maySee 4 = .ok (.istore 5, 2) := by decide +kernel
theorem dX5_maySee_6 : decode cX5_maySee 6 = .ok (.iload 5, 2) := by decide +kernel
theorem dX5_maySee_8 : decode cX5_maySee 8 = .ok (.aload_n 0, 1) := by decide +kernel
theorem dX5_maySee_9 : decode cX5_maySee 9 = .ok (.getfield 64, 3) := by decide +kernel
theorem dX5_maySee_12 : decode cX5_maySee 12 = .ok (.if_icmp .ge 60, 3) := by decide +kernel
theorem dX5_maySee_15 : decode cX5_maySee 15 = .ok (.iload 4, 2) := by decide +kernel
theorem dX5_maySee_17 : decode cX5_maySee 17 = .ok (.ifCond .eq 46, 3) := by decide +kernel
theorem dX5_maySee_20 : decode cX5_maySee 20 = .ok (.aload_n 0, 1) := by decide +kernel
theorem dX5_maySee_21 : decode cX5_maySee 21 = .ok (.getfield 16, 3) := by decide +kernel
theorem dX5_maySee_24 : decode cX5_maySee 24 = .ok (.iload 5, 2) := by decide +kernel
theorem dX5_maySee_26 : decode cX5_maySee 26 = .ok (.iaload, 1) := by decide +kernel
theorem dX5_maySee_27 : decode cX5_maySee 27 = .ok (.ifCond .lt 32, 3) := by decide +kernel
theorem dX5_maySee_30 : decode cX5_maySee 30 = .ok (.aload_n 0, 1) := by decide +kernel
theorem dX5_maySee_31 : decode cX5_maySee 31 = .ok (.iload_n 2, 1) := by decide +kernel
theorem dX5_maySee_32 : decode cX5_maySee 32 = .ok (.iload_n 1, 1) := by decide +kernel
theorem dX5_maySee_33 : decode cX5_maySee 33 = .ok (.iload_n 3, 1) := by decide +kernel
theorem dX5_maySee_34 : decode cX5_maySee 34 = .ok (.iload 5, 2) := by decide +kernel
theorem dX5_maySee_36 : decode cX5_maySee 36 = .ok (.aload_n 0, 1) := by decide +kernel
theorem dX5_maySee_37 : decode cX5_maySee 37 = .ok (.getfield 34, 3) := by decide +kernel
theorem dX5_maySee_40 : decode cX5_maySee 40 = .ok (.bipush 6, 2) := by decide +kernel
theorem dX5_maySee_42 : decode cX5_maySee 42 = .ok (.aload_n 0, 1) := by decide +kernel
theorem dX5_maySee_43 : decode cX5_maySee 43 = .ok (.getfield 16, 3) := by decide +kernel
theorem dX5_maySee_46 : decode cX5_maySee 46 = .ok (.iload 5, 2) := by decide +kernel
theorem dX5_maySee_48 : decode cX5_maySee 48 = .ok (.iaload, 1) := by decide +kernel
theorem dX5_maySee_49 : decode cX5_maySee 49 = .ok (.imul, 1) := by decide +kernel
theorem dX5_maySee_50 : decode cX5_maySee 50 = .ok (.iload_n 2, 1) := by decide +kernel
theorem dX5_maySee_51 : decode cX5_maySee 51 = .ok (.iadd, 1) := by decide +kernel
theorem dX5_maySee_52 : decode cX5_maySee 52 = .ok (.iaload, 1) := by decide +kernel
theorem dX5_maySee_53 : decode cX5_maySee 53 = .ok (.invokevirtual 100, 3) := by decide +kernel
theorem dX5_maySee_56 : decode cX5_maySee 56 = .ok (.ifCond .ne 7, 3) := by decide +kernel
theorem dX5_maySee_59 : decode cX5_maySee 59 = .ok (.iconst 1, 1) := by decide +kernel
theorem dX5_maySee_60 : decode cX5_maySee 60 = .ok (.goto 4, 3) := by decide +kernel
theorem dX5_maySee_63 : decode cX5_maySee 63 = .ok (.iconst 0, 1) := by decide +kernel
theorem dX5_maySee_64 : decode cX5_maySee 64 = .ok (.istore 4, 2) := by decide +kernel
theorem dX5_maySee_66 : decode cX5_maySee 66 = .ok (.iinc 5 1, 3) := by decide +kernel
theorem dX5_maySee_69 : decode cX5_maySee 69 = .ok (.goto (-63), 3) := by decide +kernel
theorem dX5_maySee_72 : decode cX5_maySee 72 = .ok (.iload 4, 2) := by decide +kernel
theorem dX5_maySee_74 : decode cX5_maySee 74 = .ok (.ireturn, 1) := by decide +kernel
theorem dX5_findSpan_0 : decode cX5_findSpan 0 = .ok (.aload_n 0, 1) := by decide +kernel
theorem dX5_findSpan_1 : decode cX5_findSpan 1 = .ok (.iconst (-1), 1) := by decide +kernel
theorem dX5_findSpan_2 : decode cX5_findSpan 2 = .ok (.putfield 127, 3) := by decide +kernel
theorem dX5_findSpan_5 : decode cX5_findSpan 5 = .ok (.aload_n 0, 1) := by decide +kernel
theorem dX5_findSpan_6 : decode cX5_findSpan 6 = .ok (.iconst (-1), 1) := by decide +kernel
theorem dX5_findSpan_7 : decode cX5_findSpan 7 = .ok (.putfield 130, 3) := by decide +kernel
theorem dX5_findSpan_10 : decode cX5_findSpan 10 = .ok (.aload_n 0, 1) := by decide +kernel
theorem dX5_findSpan_11 : decode cX5_findSpan 11 = .ok (.iconst 0, 1) := by decide +kernel
theorem dX5_findSpan_12 : decode cX5_findSpan 12 = .ok (.putfield 133, 3) := by decide +kernel
theorem dX5_findSpan_15 : decode cX5_findSpan 15 = .ok (.iconst 0, 1) := by decide +kernel
theorem dX5_findSpan_16 : decode cX5_findSpan 16 = .ok (.istore_n 3, 1) := by decide +kernel
theorem dX5_findSpan_17 : decode cX5_findSpan 17 = .ok (.iload_n 3, 1) := by decide +kernel
theorem dX5_findSpan_18 : decode cX5_findSpan 18 = .ok (.bipush 100, 2) := by decide +kernel
theorem dX5_findSpan_20 : decode cX5_findSpan 20 = .ok (.if_icmp .ge 53, 3) := by decide +kernel
theorem dX5_findSpan_23 : decode cX5_findSpan 23 = .ok (.aload_n 0, 1) := by decide +kernel
theorem dX5_findSpan_24 : decode cX5_findSpan 24 = .ok (.iload_n 1, 1) := by decide +kernel
theorem dX5_findSpan_25 : decode cX5_findSpan 25 = .ok (.iload_n 2, 1) := by decide +kernel
theorem dX5_findSpan_26 : decode cX5_findSpan 26 = .ok (.iload_n 3, 1) := by decide +kernel
theorem dX5_findSpan_27 : decode cX5_findSpan 27 = .ok (.invokevirtual 136, 3) := by decide +kernel
theorem dX5_findSpan_30 : decode cX5_findSpan 30 = .ok (.ifCond .eq 37, 3) := by decide +kernel
theorem dX5_findSpan_33 : decode cX5_findSpan 33 = .ok (.aload_n 0, 1) := by decide +kernel
theorem dX5_findSpan_34 : decode cX5_findSpan 34 = .ok (.aload_n 0, 1) := by decide +kernel
theorem dX5_findSpan_35 : decode cX5_findSpan 35 = .ok (.getfield 127, 3) := by decide +kernel
theorem dX5_findSpan_38 : decode cX5_findSpan 38 = .ok (.ifCond .ge 7, 3) := by decide +kernel
theorem dX5_findSpan_41 : decode cX5_findSpan 41 = .ok (.iload_n 3, 1) := by decide +kernel
theorem dX5_findSpan_42 : decode cX5_findSpan 42 = .ok (.goto 7, 3) := by decide +kernel
theorem dX5_findSpan_45 : decode cX5_findSpan 45 = .ok (.aload_n 0, 1) := by decide +kernel
theorem dX5_findSpan_46 : decode cX5_findSpan 46 = .ok (.getfield 127, 3) := by decide +kernel
theorem dX5_findSpan_49 : decode cX5_findSpan 49 = .ok (.putfield 127, 3) := by decide +kernel
theorem dX5_findSpan_52 : decode cX5_findSpan 52 = .ok (.aload_n 0, 1) := by decide +kernel
theorem dX5_findSpan_53 : decode cX5_findSpan 53 = .ok (.iload_n 3, 1) := by decide +kernel
theorem dX5_findSpan_54 : decode cX5_findSpan 54 = .ok (.putfield 130, 3) := by decide +kernel
theorem dX5_findSpan_57 : decode cX5_findSpan 57 = .ok (.aload_n 0, 1) := by decide +kernel
theorem dX5_findSpan_58 : decode cX5_findSpan 58 = .ok (.dup, 1) := by decide +kernel
theorem dX5_findSpan_59 : decode cX5_findSpan 59 = .ok (.getfield 133, 3) := by decide +kernel
theorem dX5_findSpan_62 : decode cX5_findSpan 62 = .ok (.iconst 1, 1) := by decide +kernel
theorem dX5_findSpan_63 : decode cX5_findSpan 63 = .ok (.iadd, 1) := by decide +kernel
theorem dX5_findSpan_64 : decode cX5_findSpan 64 = .ok (.putfield 133, 3) := by decide +kernel
theorem dX5_findSpan_67 : decode cX5_findSpan 67 = .ok (.iinc 3 1, 3) := by decide +kernel
theorem dX5_findSpan_70 : decode cX5_findSpan 70 = .ok (.goto (-53), 3) := by decide +kernel
theorem dX5_findSpan_73 : decode cX5_findSpan 73 = .ok (.return_, 1) := by decide +kernel
theorem dX5_span_0 : decode cX5_span 0 = .ok (.aload_n 0, 1) := by decide +kernel
theorem dX5_span_1 : decode cX5_span 1 = .ok (.iload_n 1, 1) := by decide +kernel
theorem dX5_span_2 : decode cX5_span 2 = .ok (.invokevirtual 78, 3) := by decide +kernel
theorem dX5_span_5 : decode cX5_span 5 = .ok (.ifCond .eq 20, 3) := by decide +kernel
theorem dX5_span_8 : decode cX5_span 8 = .ok (.aload_n 0, 1) := by decide +kernel
theorem dX5_span_9 : decode cX5_span 9 = .ok (.iload_n 2, 1) := by decide +kernel
theorem dX5_span_10 : decode cX5_span 10 = .ok (.invokevirtual 82, 3) := by decide +kernel
theorem dX5_span_13 : decode cX5_span 13 = .ok (.ifCond .eq 12, 3) := by decide +kernel
theorem dX5_span_16 : decode cX5_span 16 = .ok (.iload_n 3, 1) := by decide +kernel
theorem dX5_span_17 : decode cX5_span 17 = .ok (.iconst 0, 1) := by decide +kernel
theorem dX5_span_18 : decode cX5_span 18 = .ok (.iconst 2, 1) := by decide +kernel
theorem dX5_span_19 : decode cX5_span 19 = .ok (.invokestatic 68, 3) := by decide +kernel
theorem dX5_span_22 : decode cX5_span 22 = .ok (.ifCond .ne 5, 3) := by decide +kernel
theorem dX5_span_25 : decode cX5_span 25 = .ok (.iconst (-1), 1) := by decide +kernel
theorem dX5_span_26 : decode cX5_span 26 = .ok (.ireturn, 1) := by decide +kernel
theorem dX5_span_27 : decode cX5_span 27 = .ok (.aload_n 0, 1) := by decide +kernel
theorem dX5_span_28 : decode cX5_span 28 = .ok (.iload_n 1, 1) := by decide +kernel
theorem dX5_span_29 : decode cX5_span 29 = .ok (.iload_n 2, 1) := by decide +kernel
theorem dX5_span_30 : decode cX5_span 30 = .ok (.invokevirtual 139, 3) := by decide +kernel
theorem dX5_span_33 : decode cX5_span 33 = .ok (.iload_n 3, 1) := by decide +kernel
theorem dX5_span_34 : decode cX5_span 34 = .ok (.iconst 2, 1) := by decide +kernel
theorem dX5_span_35 : decode cX5_span 35 = .ok (.if_icmp .ne 8, 3) := by decide +kernel
theorem dX5_span_38 : decode cX5_span 38 = .ok (.aload_n 0, 1) := by decide +kernel
theorem dX5_span_39 : decode cX5_span 39 = .ok (.getfield 133, 3) := by decide +kernel
theorem dX5_span_42 : decode cX5_span 42 = .ok (.ireturn, 1) := by decide +kernel
theorem dX5_span_43 : decode cX5_span 43 = .ok (.aload_n 0, 1) := by decide +kernel
theorem dX5_span_44 : decode cX5_span 44 = .ok (.getfield 133, 3) := by decide +kernel
theorem dX5_span_47 : decode cX5_span 47 = .ok (.ifCond .ne 8, 3) := by decide +kernel
theorem dX5_span_50 : decode cX5_span 50 = .ok (.bipush (-4), 2) := by decide +kernel
theorem dX5_span_52 : decode cX5_span 52 = .ok (.goto 18, 3) := by decide +kernel
theorem dX5_span_55 : decode cX5_span 55 = .ok (.iload_n 3, 1) := by decide +kernel
theorem dX5_span_56 : decode cX5_span 56 = .ok (.ifCond .ne 10, 3) := by decide +kernel
theorem dX5_span_59 : decode cX5_span 59 = .ok (.aload_n 0, 1) := by decide +kernel
theorem dX5_span_60 : decode cX5_span 60 = .ok (.getfield 127, 3) := by decide +kernel
theorem dX5_span_63 : decode cX5_span 63 = .ok (.goto 7, 3) := by decide +kernel
theorem dX5_span_66 : decode cX5_span 66 = .ok (.aload_n 0, 1) := by decide +kernel
theorem dX5_span_67 : decode cX5_span 67 = .ok (.getfield 130, 3) := by decide +kernel
theorem dX5_span_70 : decode cX5_span 70 = .ok (.ireturn, 1) := by decide +kernel
theorem dX5_findDoubles_0 : decode cX5_findDoubles 0 = .ok (.aload_n 0, 1) := by decide +kernel
theorem dX5_findDoubles_1 : decode cX5_findDoubles 1 = .ok (.iconst 0, 1) := by decide +kernel
theorem dX5_findDoubles_2 : decode cX5_findDoubles 2 = .ok (.putfield 143, 3) := by decide +kernel
theorem dX5_findDoubles_5 : decode cX5_findDoubles 5 = .ok (.iload_n 2, 1) := by decide +kernel
theorem dX5_findDoubles_6 : decode cX5_findDoubles 6 = .ok (.istore_n 3, 1) := by decide +kernel
theorem dX5_findDoubles_7 : decode cX5_findDoubles 7 = .ok (.iconst 0, 1) := by decide +kernel
theorem dX5_findDoubles_8 : decode cX5_findDoubles 8 = .ok (.istore 4, 2) := by decide +kernel
theorem dX5_findDoubles_10 : decode cX5_findDoubles 10 = .ok (.iload 4, 2) := by decide +kernel
theorem dX5_findDoubles_12 : decode cX5_findDoubles 12 = .ok (.aload_n 0, 1) := by decide +kernel
theorem dX5_findDoubles_13 : decode cX5_findDoubles 13 = .ok (.getfield 64, 3) := by decide +kernel
theorem dX5_findDoubles_16 : decode cX5_findDoubles 16 = .ok (.if_icmp .ge 57, 3) := by decide +kernel
theorem dX5_findDoubles_19 : decode cX5_findDoubles 19 = .ok (.aload_n 0, 1) := by decide +kernel
theorem dX5_findDoubles_20 : decode cX5_findDoubles 20 = .ok (.iload 4, 2) := by decide +kernel
theorem dX5_findDoubles_22 : decode cX5_findDoubles 22 = .ok (.iload_n 1, 1) := by decide +kernel
theorem dX5_findDoubles_23 : decode cX5_findDoubles 23 = .ok (.invokevirtual 139, 3) := by decide +kernel
theorem dX5_findDoubles_26 : decode cX5_findDoubles 26 = .ok (.aload_n 0, 1) := by decide +kernel
theorem dX5_findDoubles_27 : decode cX5_findDoubles 27 = .ok (.getfield 55, 3) := by decide +kernel
theorem dX5_findDoubles_30 : decode cX5_findDoubles 30 = .ok (.iload 4, 2) := by decide +kernel
theorem dX5_findDoubles_32 : decode cX5_findDoubles 32 = .ok (.aload_n 0, 1) := by decide +kernel
theorem dX5_findDoubles_33 : decode cX5_findDoubles 33 = .ok (.getfield 127, 3) := by decide +kernel
theorem dX5_findDoubles_36 : decode cX5_findDoubles 36 = .ok (.iastore, 1) := by decide +kernel
theorem dX5_findDoubles_37 : decode cX5_findDoubles 37 = .ok (.aload_n 0, 1) := by decide +kernel
theorem dX5_findDoubles_38 : decode cX5_findDoubles 38 = .ok (.getfield 58, 3) := by decide +kernel
theorem dX5_findDoubles_41 : decode cX5_findDoubles 41 = .ok (.iload 4, 2) := by decide +kernel
theorem dX5_findDoubles_43 : decode cX5_findDoubles 43 = .ok (.aload_n 0, 1) := by decide +kernel
theorem dX5_findDoubles_44 : decode cX5_findDoubles 44 = .ok (.getfield 130, 3) := by decide +kernel
theorem dX5_findDoubles_47 : decode cX5_findDoubles 47 = .ok (.iastore, 1) := by decide +kernel
theorem dX5_findDoubles_48 : decode cX5_findDoubles 48 = .ok (.iload_n 2, 1) := by decide +kernel
theorem dX5_findDoubles_49 : decode cX5_findDoubles 49 = .ok (.iload 4, 2) := by decide +kernel
theorem dX5_findDoubles_51 : decode cX5_findDoubles 51 = .ok (.ishr, 1) := by decide +kernel
theorem dX5_findDoubles_52 : decode cX5_findDoubles 52 = .ok (.iconst 1, 1) := by decide +kernel
theorem dX5_findDoubles_53 : decode cX5_findDoubles 53 = .ok (.iand, 1) := by decide +kernel
theorem dX5_findDoubles_54 : decode cX5_findDoubles 54 = .ok (.iconst 1, 1) := by decide +kernel
theorem dX5_findDoubles_55 : decode cX5_findDoubles 55 = .ok (.if_icmp .ne 12, 3) := by decide +kernel
theorem dX5_findDoubles_58 : decode cX5_findDoubles 58 = .ok (.aload_n 0, 1) := by decide +kernel
theorem dX5_findDoubles_59 : decode cX5_findDoubles 59 = .ok (.getfield 133, 3) := by decide +kernel
theorem dX5_findDoubles_62 : decode cX5_findDoubles 62 = .ok (.ifCond .ne 5, 3) := by decide +kernel
theorem dX5_findDoubles_65 : decode cX5_findDoubles 65 = .ok (.iconst 0, 1) := by decide +kernel
theorem dX5_findDoubles_66 : decode cX5_findDoubles 66 = .ok (.ireturn, 1) := by decide +kernel
theorem dX5_findDoubles_67 : decode cX5_findDoubles 67 = .ok (.iinc 4 1, 3) := by decide +kernel
theorem dX5_findDoubles_70 : decode cX5_findDoubles 70 = .ok (.goto (-60), 3) := by decide +kernel
theorem dX5_findDoubles_73 : decode cX5_findDoubles 73 = .ok (.iload_n 3, 1) := by decide +kernel
theorem dX5_findDoubles_74 : decode cX5_findDoubles 74 = .ok (.ifCond .eq 138, 3) := by decide +kernel
theorem dX5_findDoubles_77 : decode cX5_findDoubles 77 = .ok (.bipush 100, 2) := by decide +kernel
theorem dX5_findDoubles_79 : decode cX5_findDoubles 79 = .ok (.istore 4, 2) := by decide +kernel
theorem dX5_findDoubles_81 : decode cX5_findDoubles 81 = .ok (.iconst 0, 1) := by decide +kernel
theorem dX5_findDoubles_82 : decode cX5_findDoubles 82 = .ok (.istore 5, 2) := by decide +kernel
theorem dX5_findDoubles_84 : decode cX5_findDoubles 84 = .ok (.iload 5, 2) := by decide +kernel
theorem dX5_findDoubles_86 : decode cX5_findDoubles 86 = .ok (.aload_n 0, 1) := by decide +kernel
theorem dX5_findDoubles_87 : decode cX5_findDoubles 87 = .ok (.getfield 64, 3) := by decide +kernel
theorem dX5_findDoubles_90 : decode cX5_findDoubles 90 = .ok (.if_icmp .ge 45, 3) := by decide +kernel
theorem dX5_findDoubles_93 : decode cX5_findDoubles 93 = .ok (.iload_n 3, 1) := by decide +kernel
theorem dX5_findDoubles_94 : decode cX5_findDoubles 94 = .ok (.iload 5, 2) := by decide +kernel
theorem dX5_findDoubles_96 : decode cX5_findDoubles 96 = .ok (.ishr, 1) := by decide +kernel
theorem dX5_findDoubles_97 : decode cX5_findDoubles 97 = .ok (.iconst 1, 1) := by decide +kernel
theorem dX5_findDoubles_98 : decode cX5_findDoubles 98 = .ok (.iand, 1) := by decide +kernel
theorem dX5_findDoubles_99 : decode cX5_findDoubles 99 = .ok (.iconst 1, 1) := by decide +kernel
theorem dX5_findDoubles_100 : decode cX5_findDoubles 100 = .ok (.if_icmp .ne 25, 3) := by decide +kernel
theorem dX5_findDoubles_103 : decode cX5_findDoubles 103 = .ok (.aload_n 0, 1) := by decide +kernel
theorem dX5_findDoubles_104 : decode cX5_findDoubles 104 = .ok (.getfield 58, 3) := by decide +kernel
theorem dX5_findDoubles_107 : decode cX5_findDoubles 107 = .ok (.iload 5, 2) := by decide +kernel
theorem dX5_findDoubles_109 : decode cX5_findDoubles 109 = .ok (.iaload, 1) := by decide +kernel
theorem dX5_findDoubles_110 : decode cX5_findDoubles 110 = .ok (.iload 4, 2) := by decide +kernel
theorem dX5_findDoubles_112 : decode cX5_findDoubles 112 = .ok (.if_icmp .ge 13, 3) := by decide +kernel
theorem dX5_findDoubles_115 : decode cX5_findDoubles 115 = .ok (.aload_n 0, 1) := by decide +kernel
theorem dX5_findDoubles_116 : decode cX5_findDoubles 116 = .ok (.getfield 58, 3) := by decide +kernel
theorem dX5_findDoubles_119 : decode cX5_findDoubles 119 = .ok (.iload 5, 2) := by decide +kernel
theorem dX5_findDoubles_121 : decode cX5_findDoubles 121 = .ok (.iaload, 1) := by decide +kernel
theorem dX5_findDoubles_122 : decode cX5_findDoubles 122 = .ok (.goto 5, 3) := by decide +kernel
theorem dX5_findDoubles_125 : decode cX5_findDoubles 125 = .ok (.iload 4, 2) := by decide +kernel
theorem dX5_findDoubles_127 : decode cX5_findDoubles 127 = .ok (.istore 4, 2) := by decide +kernel
theorem dX5_findDoubles_129 : decode cX5_findDoubles 129 = .ok (.iinc 5 1, 3) := by decide +kernel
theorem dX5_findDoubles_132 : decode cX5_findDoubles 132 = .ok (.goto (-48), 3) := by decide +kernel
theorem dX5_findDoubles_135 : decode cX5_findDoubles 135 = .ok (.aload_n 0, 1) := by decide +kernel
theorem dX5_findDoubles_136 : decode cX5_findDoubles 136 = .ok (.getfield 61, 3) := by decide +kernel
theorem dX5_findDoubles_139 : decode cX5_findDoubles 139 = .ok (.aload_n 0, 1) := by decide +kernel
theorem dX5_findDoubles_140 : decode cX5_findDoubles 140 = .ok (.getfield 143, 3) := by decide +kernel
theorem dX5_findDoubles_143 : decode cX5_findDoubles 143 = .ok (.iload 4, 2) := by decide +kernel
theorem dX5_findDoubles_145 : decode cX5_findDoubles 145 = .ok (.iastore, 1) := by decide +kernel
theorem dX5_findDoubles_146 : decode cX5_findDoubles 146 = .ok (.aload_n 0, 1) := by decide +kernel
theorem dX5_findDoubles_147 : decode cX5_findDoubles 147 = .ok (.dup, 1) := by decide +kernel
theorem dX5_findDoubles_148 : decode cX5_findDoubles 148 = .ok (.getfield 143, 3) := by decide +kernel
theorem dX5_findDoubles_151 : decode cX5_findDoubles 151 = .ok (.iconst 1, 1) := by decide +kernel
theorem dX5_findDoubles_152 : decode cX5_findDoubles 152 = .ok (.iadd, 1) := by decide +kernel
theorem dX5_findDoubles_153 : decode cX5_findDoubles 153 = .ok (.putfield 143, 3) := by decide +kernel
theorem dX5_findDoubles_156 : decode cX5_findDoubles 156 = .ok (.iconst 0, 1) := by decide +kernel
theorem dX5_findDoubles_157 : decode cX5_findDoubles 157 = .ok (.istore 5, 2) := by decide +kernel
theorem dX5_findDoubles_159 : decode cX5_findDoubles 159 = .ok (.iload 5, 2) := by decide +kernel
theorem dX5_findDoubles_161 : decode cX5_findDoubles 161 = .ok (.aload_n 0, 1) := by decide +kernel
theorem dX5_findDoubles_162 : decode cX5_findDoubles 162 = .ok (.getfield 64, 3) := by decide +kernel
theorem dX5_findDoubles_165 : decode cX5_findDoubles 165 = .ok (.if_icmp .ge 44, 3) := by decide +kernel
theorem dX5_findDoubles_168 : decode cX5_findDoubles 168 = .ok (.iload_n 3, 1) := by decide +kernel
theorem dX5_findDoubles_169 : decode cX5_findDoubles 169 = .ok (.iload 5, 2) := by decide +kernel
theorem dX5_findDoubles_171 : decode cX5_findDoubles 171 = .ok (.ishr, 1) := by decide +kernel
theorem dX5_findDoubles_172 : decode cX5_findDoubles 172 = .ok (.iconst 1, 1) := by decide +kernel
theorem dX5_findDoubles_173 : decode cX5_findDoubles 173 = .ok (.iand, 1) := by decide +kernel
theorem dX5_findDoubles_174 : decode cX5_findDoubles 174 = .ok (.iconst 1, 1) := by decide +kernel
theorem dX5_findDoubles_175 : decode cX5_findDoubles 175 = .ok (.if_icmp .ne 26, 3) := by decide +kernel
theorem dX5_findDoubles_178 : decode cX5_findDoubles 178 = .ok (.aload_n 0, 1) := by decide +kernel
theorem dX5_findDoubles_179 : decode cX5_findDoubles 179 = .ok (.getfield 55, 3) := by decide +kernel
theorem dX5_findDoubles_182 : decode cX5_findDoubles 182 = .ok (.iload 5, 2) := by decide +kernel
theorem dX5_findDoubles_184 : decode cX5_findDoubles 184 = .ok (.iaload, 1) := by decide +kernel
theorem dX5_findDoubles_185 : decode cX5_findDoubles 185 = .ok (.iload 4, 2) := by decide +kernel
theorem dX5_findDoubles_187 : decode cX5_findDoubles 187 = .ok (.if_icmp .gt 14, 3) := by decide +kernel
theorem dX5_findDoubles_190 : decode cX5_findDoubles 190 = .ok (.iload_n 3, 1) := by decide +kernel
theorem dX5_findDoubles_191 : decode cX5_findDoubles 191 = .ok (.iconst 1, 1) := by decide +kernel
theorem dX5_findDoubles_192 : decode cX5_findDoubles 192 = .ok (.iload 5, 2) := by decide +kernel
theorem dX5_findDoubles_194 : decode cX5_findDoubles 194 = .ok (.ishl, 1) := by decide +kernel
theorem dX5_findDoubles_195 : decode cX5_findDoubles 195 = .ok (.iconst (-1), 1) := by decide +kernel
theorem dX5_findDoubles_196 : decode cX5_findDoubles 196 = .ok (.ixor, 1) := by decide +kernel
theorem dX5_findDoubles_197 : decode cX5_findDoubles 197 = .ok (.iand, 1) := by decide +kernel
theorem dX5_findDoubles_198 : decode cX5_findDoubles 198 = .ok (.goto 4, 3) := by decide +kernel
theorem dX5_findDoubles_201 : decode cX5_findDoubles 201 = .ok (.iload_n 3, 1) := by decide +kernel
theorem dX5_findDoubles_202 : decode cX5_findDoubles 202 = .ok (.istore_n 3, 1) := by decide +kernel
theorem dX5_findDoubles_203 : decode cX5_findDoubles 203 = .ok (.iinc 5 1, 3) := by decide +kernel
theorem dX5_findDoubles_206 : decode cX5_findDoubles 206 = .ok (.goto (-47), 3) := by decide +kernel
theorem dX5_findDoubles_209 : decode cX5_findDoubles 209 = .ok (.goto (-136), 3) := by decide +kernel
theorem dX5_findDoubles_212 : decode cX5_findDoubles 212 = .ok (.iconst 1, 1) := by decide +kernel
theorem dX5_findDoubles_213 : decode cX5_findDoubles 213 = .ok (.ireturn, 1) := by decide +kernel
theorem dX5_isSet_0 : decode cX5_isSet 0 = .ok (.iload_n 1, 1) := by decide +kernel
theorem dX5_isSet_1 : decode cX5_isSet 1 = .ok (.ifCond .lt 17, 3) := by decide +kernel
theorem dX5_isSet_4 : decode cX5_isSet 4 = .ok (.iload_n 1, 1) := by decide +kernel
theorem dX5_isSet_5 : decode cX5_isSet 5 = .ok (.iconst 1, 1) := by decide +kernel
theorem dX5_isSet_6 : decode cX5_isSet 6 = .ok (.aload_n 0, 1) := by decide +kernel
theorem dX5_isSet_7 : decode cX5_isSet 7 = .ok (.getfield 64, 3) := by decide +kernel
theorem dX5_isSet_10 : decode cX5_isSet 10 = .ok (.ishl, 1) := by decide +kernel
theorem dX5_isSet_11 : decode cX5_isSet 11 = .ok (.if_icmp .ge 7, 3) := by decide +kernel
theorem dX5_isSet_14 : decode cX5_isSet 14 = .ok (.iconst 1, 1) := by decide +kernel
theorem dX5_isSet_15 : decode cX5_isSet 15 = .ok (.goto 4, 3) := by decide +kernel
theorem dX5_isSet_18 : decode cX5_isSet 18 = .ok (.iconst 0, 1) := by decide +kernel
theorem dX5_isSet_19 : decode cX5_isSet 19 = .ok (.ireturn, 1) := by decide +kernel
theorem dX5_twin_0 : decode cX5_twin 0 = .ok (.aload_n 0, 1) := by decide +kernel
theorem dX5_twin_1 : decode cX5_twin 1 = .ok (.iload_n 1, 1) := by decide +kernel
theorem dX5_twin_2 : decode cX5_twin 2 = .ok (.invokevirtual 82, 3) := by decide +kernel
theorem dX5_twin_5 : decode cX5_twin 5 = .ok (.ifCond .eq 11, 3) := by decide +kernel
theorem dX5_twin_8 : decode cX5_twin 8 = .ok (.aload_n 0, 1) := by decide +kernel
theorem dX5_twin_9 : decode cX5_twin 9 = .ok (.iload_n 2, 1) := by decide +kernel
theorem dX5_twin_10 : decode cX5_twin 10 = .ok (.invokevirtual 146, 3) := by decide +kernel
theorem dX5_twin_13 : decode cX5_twin 13 = .ok (.ifCond .ne 5, 3) := by decide +kernel
theorem dX5_twin_16 : decode cX5_twin 16 = .ok (.iconst (-1), 1) := by decide +kernel
theorem dX5_twin_17 : decode cX5_twin 17 = .ok (.ireturn, 1) := by decide +kernel
theorem dX5_twin_18 : decode cX5_twin 18 = .ok (.aload_n 0, 1) := by decide +kernel
theorem dX5_twin_19 : decode cX5_twin 19 = .ok (.iload_n 1, 1) := by decide +kernel
theorem dX5_twin_20 : decode cX5_twin 20 = .ok (.iload_n 2, 1) := by decide +kernel
theorem dX5_twin_21 : decode cX5_twin 21 = .ok (.invokevirtual 149, 3) := by decide +kernel
theorem dX5_twin_24 : decode cX5_twin 24 = .ok (.ifCond .eq 26, 3) := by decide +kernel
theorem dX5_twin_27 : decode cX5_twin 27 = .ok (.iload_n 3, 1) := by decide +kernel
theorem dX5_twin_28 : decode cX5_twin 28 = .ok (.iconst 0, 1) := by decide +kernel
theorem dX5_twin_29 : decode cX5_twin 29 = .ok (.aload_n 0, 1) := by decide +kernel
theorem dX5_twin_30 : decode cX5_twin 30 = .ok (.getfield 143, 3) := by decide +kernel
theorem dX5_twin_33 : decode cX5_twin 33 = .ok (.iconst 1, 1) := by decide +kernel
theorem dX5_twin_34 : decode cX5_twin 34 = .ok (.isub, 1) := by decide +kernel
theorem dX5_twin_35 : decode cX5_twin 35 = .ok (.invokestatic 68, 3) := by decide +kernel
theorem dX5_twin_38 : decode cX5_twin 38 = .ok (.ifCond .eq 12, 3) := by decide +kernel
theorem dX5_twin_41 : decode cX5_twin 41 = .ok (.aload_n 0, 1) := by decide +kernel
theorem dX5_twin_42 : decode cX5_twin 42 = .ok (.getfield 61, 3) := by decide +kernel
theorem dX5_twin_45 : decode cX5_twin 45 = .ok (.iload_n 3, 1) := by decide +kernel
theorem dX5_twin_46 : decode cX5_twin 46 = .ok (.iaload, 1) := by decide +kernel
theorem dX5_twin_47 : decode cX5_twin 47 = .ok (.goto 5, 3) := by decide +kernel
theorem dX5_twin_50 : decode cX5_twin 50 = .ok (.bipush (-4), 2) := by decide +kernel
theorem dX5_twin_52 : decode cX5_twin 52 = .ok (.ireturn, 1) := by decide +kernel
theorem dX5_doubles_0 : decode cX5_doubles 0 = .ok (.aload_n 0, 1) := by decide +kernel
theorem dX5_doubles_1 : decode cX5_doubles 1 = .ok (.iload_n 1, 1) := by decide +kernel
theorem dX5_doubles_2 : decode cX5_doubles 2 = .ok (.invokevirtual 82, 3) := by decide +kernel
theorem dX5_doubles_5 : decode cX5_doubles 5 = .ok (.ifCond .eq 11, 3) := by decide +kernel
theorem dX5_doubles_8 : decode cX5_doubles 8 = .ok (.aload_n 0, 1) := by decide +kernel
theorem dX5_doubles_9 : decode cX5_doubles 9 = .ok (.iload_n 2, 1) := by decide +kernel
theorem dX5_doubles_10 : decode cX5_doubles 10 = .ok (.invokevirtual 146, 3) := by decide +kernel
theorem dX5_doubles_13 : decode cX5_doubles 13 = .ok (.ifCond .ne 5, 3) := by decide +kernel
theorem dX5_doubles_16 : decode cX5_doubles 16 = .ok (.iconst (-1), 1) := by decide +kernel
theorem dX5_doubles_17 : decode cX5_doubles 17 = .ok (.ireturn, 1) := by decide +kernel
theorem dX5_doubles_18 : decode cX5_doubles 18 = .ok (.aload_n 0, 1) := by decide +kernel
theorem dX5_doubles_19 : decode cX5_doubles 19 = .ok (.iload_n 1, 1) := by decide +kernel
theorem dX5_doubles_20 : decode cX5_doubles 20 = .ok (.iload_n 2, 1) := by decide +kernel
theorem dX5_doubles_21 : decode cX5_doubles 21 = .ok (.invokevirtual 149, 3) := by decide +kernel
theorem dX5_doubles_24 : decode cX5_doubles 24 = .ok (.ifCond .eq 10, 3) := by decide +kernel
theorem dX5_doubles_27 : decode cX5_doubles 27 = .ok (.aload_n 0, 1) := by decide +kernel
theorem dX5_doubles_28 : decode cX5_doubles 28 = .ok (.getfield 143, 3) := by decide +kernel
theorem dX5_doubles_31 : decode cX5_doubles 31 = .ok (.goto 5, 3) := by decide +kernel
theorem dX5_doubles_34 : decode cX5_doubles 34 = .ok (.bipush (-4), 2) := by decide +kernel
theorem dX5_doubles_36 : decode cX5_doubles 36 = .ok (.ireturn, 1) := by decide +kernel
theorem dX5_areQuiet_0 : decode cX5_areQuiet 0 = .ok (.iconst 1, 1) := by decide +kernel
theorem dX5_areQuiet_1 : decode cX5_areQuiet 1 = .ok (.istore_n 2, 1) := by decide +kernel
theorem dX5_areQuiet_2 : decode cX5_areQuiet 2 = .ok (.iconst 0, 1) := by decide +kernel
theorem dX5_areQuiet_3 : decode cX5_areQuiet 3 = .ok (.istore_n 3, 1) := by decide +kernel
theorem dX5_areQuiet_4 : decode cX5_areQuiet 4 = .ok (.iload_n 3, 1) := by decide +kernel
theorem dX5_areQuiet_5 : decode cX5_areQuiet 5 = .ok (.aload_n 0, 1) := by decide +kernel
theorem dX5_areQuiet_6 : decode cX5_areQuiet 6 = .ok (.getfield 64, 3) := by decide +kernel
theorem dX5_areQuiet_9 : decode cX5_areQuiet 9 = .ok (.if_icmp .ge 103, 3) := by decide +kernel
theorem dX5_areQuiet_12 : decode cX5_areQuiet 12 = .ok (.iconst 0, 1) := by decide +kernel
theorem dX5_areQuiet_13 : decode cX5_areQuiet 13 = .ok (.istore 4, 2) := by decide +kernel
theorem dX5_areQuiet_15 : decode cX5_areQuiet 15 = .ok (.iload 4, 2) := by decide +kernel
theorem dX5_areQuiet_17 : decode cX5_areQuiet 17 = .ok (.iload_n 3, 1) := by decide +kernel
theorem dX5_areQuiet_18 : decode cX5_areQuiet 18 = .ok (.if_icmp .ge 88, 3) := by decide +kernel
theorem dX5_areQuiet_21 : decode cX5_areQuiet 21 = .ok (.iload_n 1, 1) := by decide +kernel
theorem dX5_areQuiet_22 : decode cX5_areQuiet 22 = .ok (.iload_n 3, 1) := by decide +kernel
theorem dX5_areQuiet_23 : decode cX5_areQuiet 23 = .ok (.ishr, 1) := by decide +kernel
theorem dX5_areQuiet_24 : decode cX5_areQuiet 24 = .ok (.iload_n 1, 1) := by decide +kernel
theorem dX5_areQuiet_25 : decode cX5_areQuiet 25 = .ok (.iload 4, 2) := by decide +kernel
theorem dX5_areQuiet_27 : decode cX5_areQuiet 27 = .ok (.ishr, 1) := by decide +kernel
theorem dX5_areQuiet_28 : decode cX5_areQuiet 28 = .ok (.ior, 1) := by decide +kernel
theorem dX5_areQuiet_29 : decode cX5_areQuiet 29 = .ok (.iconst 1, 1) := by decide +kernel
theorem dX5_areQuiet_30 : decode cX5_areQuiet 30 = .ok (.iand, 1) := by decide +kernel
theorem dX5_areQuiet_31 : decode cX5_areQuiet 31 = .ok (.ifCond .ne 26, 3) := by decide +kernel
theorem dX5_areQuiet_34 : decode cX5_areQuiet 34 = .ok (.aload_n 0, 1) := by decide +kernel
theorem dX5_areQuiet_35 : decode cX5_areQuiet 35 = .ok (.getfield 16, 3) := by decide +kernel
theorem dX5_areQuiet_38 : decode cX5_areQuiet 38 = .ok (.iload_n 3, 1) := by decide +kernel
theorem dX5_areQuiet_39 : decode cX5_areQuiet 39 = .ok (.iaload, 1) := by decide +kernel
theorem dX5_areQuiet_40 : decode cX5_areQuiet 40 = .ok (.ifCond .lt 17, 3) := by decide +kernel
theorem dX5_areQuiet_43 : decode cX5_areQuiet 43 = .ok (.aload_n 0, 1) := by decide +kernel
theorem dX5_areQuiet_44 : decode cX5_areQuiet 44 = .ok (.getfield 16, 3) := by decide +kernel
theorem dX5_areQuiet_47 : decode cX5_areQuiet 47 = .ok (.iload 4, 2) := by decide +kernel
theorem dX5_areQuiet_49 : decode cX5_areQuiet 49 = .ok (.iaload, 1) := by decide +kernel
theorem dX5_areQuiet_50 : decode cX5_areQuiet 50 = .ok (.ifCond .lt 7, 3) := by decide +kernel
theorem dX5_areQuiet_53 : decode cX5_areQuiet 53 = .ok (.iconst 1, 1) := by decide +kernel
theorem dX5_areQuiet_54 : decode cX5_areQuiet 54 = .ok (.goto 4, 3) := by decide +kernel
theorem dX5_areQuiet_57 : decode cX5_areQuiet 57 = .ok (.iconst 0, 1) := by decide +kernel
theorem dX5_areQuiet_58 : decode cX5_areQuiet 58 = .ok (.istore 5, 2) := by decide +kernel
theorem dX5_areQuiet_60 : decode cX5_areQuiet 60 = .ok (.iload_n 2, 1) := by decide +kernel
theorem dX5_areQuiet_61 : decode cX5_areQuiet 61 = .ok (.ifCond .eq 37, 3) := by decide +kernel
theorem dX5_areQuiet_64 : decode cX5_areQuiet 64 = .ok (.iload 5, 2) := by decide +kernel
theorem dX5_areQuiet_66 : decode cX5_areQuiet 66 = .ok (.ifCond .eq 28, 3) := by decide +kernel
theorem dX5_areQuiet_69 : decode cX5_areQuiet 69 = .ok (.aload_n 0, 1) := by decide +kernel
theorem dX5_areQuiet_70 : decode cX5_areQuiet 70 = .ok (.getfield 52, 3) := by decide +kernel
theorem dX5_areQuiet_73 : decode cX5_areQuiet 73 = .ok (.bipush 16, 2) := by decide +kernel
theorem dX5_areQuiet_75 : decode cX5_areQuiet 75 = .ok (.aload_n 0, 1) := by decide +kernel
theorem dX5_areQuiet_76 : decode cX5_areQuiet 76 = .ok (.getfield 16, 3) := by decide +kernel
theorem dX5_areQuiet_79 : decode cX5_areQuiet 79 = .ok (.iload_n 3, 1) := by decide +kernel
theorem dX5_areQuiet_80 : decode cX5_areQuiet 80 = .ok (.iaload, 1) := by decide +kernel
theorem dX5_areQuiet_81 : decode cX5_areQuiet 81 = .ok (.imul, 1) := by decide +kernel
theorem dX5_areQuiet_82 : decode cX5_areQuiet 82 = .ok (.aload_n 0, 1) := by decide +kernel
theorem dX5_areQuiet_83 : decode cX5_areQuiet 83 = .ok (.getfield 16, 3) := by decide +kernel
theorem dX5_areQuiet_86 : decode cX5_areQuiet 86 = .ok (.iload 4, 2) := by decide +kernel
theorem dX5_areQuiet_88 : decode cX5_areQuiet 88 = .ok (.iaload, 1) := by decide +kernel
theorem dX5_areQuiet_89 : decode cX5_areQuiet 89 = .ok (.iadd, 1) := by decide +kernel
theorem dX5_areQuiet_90 : decode cX5_areQuiet 90 = .ok (.iaload, 1) := by decide +kernel
theorem dX5_areQuiet_91 : decode cX5_areQuiet 91 = .ok (.ifCond .ne 7, 3) := by decide +kernel
theorem dX5_areQuiet_94 : decode cX5_areQuiet 94 = .ok (.iconst 1, 1) := by decide +kernel
theorem dX5_areQuiet_95 : decode cX5_areQuiet 95 = .ok (.goto 4, 3) := by decide +kernel
theorem dX5_areQuiet_98 : decode cX5_areQuiet 98 = .ok (.iconst 0, 1) := by decide +kernel
theorem dX5_areQuiet_99 : decode cX5_areQuiet 99 = .ok (.istore_n 2, 1) := by decide +kernel
theorem dX5_areQuiet_100 : decode cX5_areQuiet 100 = .ok (.iinc 4 1, 3) := by decide +kernel
theorem dX5_areQuiet_103 : decode cX5_areQuiet 103 = .ok (.goto (-88), 3) := by decide +kernel
theorem dX5_areQuiet_106 : decode cX5_areQuiet 106 = .ok (.iinc 3 1, 3) := by decide +kernel
theorem dX5_areQuiet_109 : decode cX5_areQuiet 109 = .ok (.goto (-105), 3) := by decide +kernel
theorem dX5_areQuiet_112 : decode cX5_areQuiet 112 = .ok (.iload_n 2, 1) := by decide +kernel
theorem dX5_areQuiet_113 : decode cX5_areQuiet 113 = .ok (.ireturn, 1) := by decide +kernel
theorem dX5_manyOf_0 : decode cX5_manyOf 0 = .ok (.iconst 0, 1) := by decide +kernel
theorem dX5_manyOf_1 : decode cX5_manyOf 1 = .ok (.istore_n 1, 1) := by decide +kernel
theorem dX5_manyOf_2 : decode cX5_manyOf 2 = .ok (.iconst 0, 1) := by decide +kernel
theorem dX5_manyOf_3 : decode cX5_manyOf 3 = .ok (.istore_n 2, 1) := by decide +kernel
theorem dX5_manyOf_4 : decode cX5_manyOf 4 = .ok (.iload_n 2, 1) := by decide +kernel
theorem dX5_manyOf_5 : decode cX5_manyOf 5 = .ok (.bipush 6, 2) := by decide +kernel
theorem dX5_manyOf_7 : decode cX5_manyOf 7 = .ok (.if_icmp .ge 17, 3) := by decide +kernel
theorem dX5_manyOf_10 : decode cX5_manyOf 10 = .ok (.iload_n 1, 1) := by decide +kernel
theorem dX5_manyOf_11 : decode cX5_manyOf 11 = .ok (.iload_n 0, 1) := by decide +kernel
theorem dX5_manyOf_12 : decode cX5_manyOf 12 = .ok (.iload_n 2, 1) := by decide +kernel
theorem dX5_manyOf_13 : decode cX5_manyOf 13 = .ok (.ishr, 1) := by decide +kernel
theorem dX5_manyOf_14 : decode cX5_manyOf 14 = .ok (.iconst 1, 1) := by decide +kernel
theorem dX5_manyOf_15 : decode cX5_manyOf 15 = .ok (.iand, 1) := by decide +kernel
theorem dX5_manyOf_16 : decode cX5_manyOf 16 = .ok (.iadd, 1) := by decide +kernel
theorem dX5_manyOf_17 : decode cX5_manyOf 17 = .ok (.istore_n 1, 1) := by decide +kernel
theorem dX5_manyOf_18 : decode cX5_manyOf 18 = .ok (.iinc 2 1, 3) := by decide +kernel
theorem dX5_manyOf_21 : decode cX5_manyOf 21 = .ok (.goto (-17), 3) := by decide +kernel
theorem dX5_manyOf_24 : decode cX5_manyOf 24 = .ok (.iload_n 1, 1) := by decide +kernel
theorem dX5_manyOf_25 : decode cX5_manyOf 25 = .ok (.ireturn, 1) := by decide +kernel
theorem dX5_reshoot_0 : decode cX5_reshoot 0 = .ok (.aload_n 0, 1) := by decide +kernel
theorem dX5_reshoot_1 : decode cX5_reshoot 1 = .ok (.invokevirtual 111, 3) := by decide +kernel
theorem dX5_reshoot_4 : decode cX5_reshoot 4 = .ok (.iconst 0, 1) := by decide +kernel
theorem dX5_reshoot_5 : decode cX5_reshoot 5 = .ok (.istore_n 1, 1) := by decide +kernel
theorem dX5_reshoot_6 : decode cX5_reshoot 6 = .ok (.bipush 7, 2) := by decide +kernel
theorem dX5_reshoot_8 : decode cX5_reshoot 8 = .ok (.istore_n 2, 1) := by decide +kernel
theorem dX5_reshoot_9 : decode cX5_reshoot 9 = .ok (.iconst 0, 1) := by decide +kernel
theorem dX5_reshoot_10 : decode cX5_reshoot 10 = .ok (.istore_n 3, 1) := by decide +kernel
theorem dX5_reshoot_11 : decode cX5_reshoot 11 = .ok (.iload_n 3, 1) := by decide +kernel
theorem dX5_reshoot_12 : decode cX5_reshoot 12 = .ok (.iconst 1, 1) := by decide +kernel
theorem dX5_reshoot_13 : decode cX5_reshoot 13 = .ok (.aload_n 0, 1) := by decide +kernel
theorem dX5_reshoot_14 : decode cX5_reshoot 14 = .ok (.getfield 64, 3) := by decide +kernel
theorem dX5_reshoot_17 : decode cX5_reshoot 17 = .ok (.ishl, 1) := by decide +kernel
theorem dX5_reshoot_18 : decode cX5_reshoot 18 = .ok (.if_icmp .ge 32, 3) := by decide +kernel
theorem dX5_reshoot_21 : decode cX5_reshoot 21 = .ok (.iload_n 3, 1) := by decide +kernel
theorem dX5_reshoot_22 : decode cX5_reshoot 22 = .ok (.invokestatic 152, 3) := by decide +kernel
theorem dX5_reshoot_25 : decode cX5_reshoot 25 = .ok (.iload_n 2, 1) := by decide +kernel
theorem dX5_reshoot_26 : decode cX5_reshoot 26 = .ok (.if_icmp .ge 18, 3) := by decide +kernel
theorem dX5_reshoot_29 : decode cX5_reshoot 29 = .ok (.aload_n 0, 1) := by decide +kernel
theorem dX5_reshoot_30 : decode cX5_reshoot 30 = .ok (.iload_n 3, 1) := by decide +kernel
theorem dX5_reshoot_31 : decode cX5_reshoot 31 = .ok (.invokevirtual 155, 3) := by decide +kernel
theorem dX5_reshoot_34 : decode cX5_reshoot 34 = .ok (.ifCond .eq 10, 3) := by decide +kernel
theorem dX5_reshoot_37 : decode cX5_reshoot 37 = .ok (.iload_n 3, 1) := by decide +kernel
theorem dX5_reshoot_38 : decode cX5_reshoot 38 = .ok (.invokestatic 152, 3) := by decide +kernel
theorem dX5_reshoot_41 : decode cX5_reshoot 41 = .ok (.istore_n 2, 1) := by decide +kernel
theorem dX5_reshoot_42 : decode cX5_reshoot 42 = .ok (.iload_n 3, 1) := by decide +kernel
theorem dX5_reshoot_43 : decode cX5_reshoot 43 = .ok (.istore_n 1, 1) := by decide +kernel
theorem dX5_reshoot_44 : decode cX5_reshoot 44 = .ok (.iinc 3 1, 3) := by decide +kernel
theorem dX5_reshoot_47 : decode cX5_reshoot 47 = .ok (.goto (-36), 3) := by decide +kernel
theorem dX5_reshoot_50 : decode cX5_reshoot 50 = .ok (.iload_n 1, 1) := by decide +kernel
theorem dX5_reshoot_51 : decode cX5_reshoot 51 = .ok (.ireturn, 1) := by decide +kernel
theorem dX5_clashes_0 : decode cX5_clashes 0 = .ok (.aload_n 0, 1) := by decide +kernel
theorem dX5_clashes_1 : decode cX5_clashes 1 = .ok (.iload_n 1, 1) := by decide +kernel
theorem dX5_clashes_2 : decode cX5_clashes 2 = .ok (.invokevirtual 82, 3) := by decide +kernel
theorem dX5_clashes_5 : decode cX5_clashes 5 = .ok (.ifCond .ne 5, 3) := by decide +kernel
theorem dX5_clashes_8 : decode cX5_clashes 8 = .ok (.iconst (-1), 1) := by decide +kernel
theorem dX5_clashes_9 : decode cX5_clashes 9 = .ok (.ireturn, 1) := by decide +kernel
theorem dX5_clashes_10 : decode cX5_clashes 10 = .ok (.iconst 0, 1) := by decide +kernel
theorem dX5_clashes_11 : decode cX5_clashes 11 = .ok (.istore_n 2, 1) := by decide +kernel
theorem dX5_clashes_12 : decode cX5_clashes 12 = .ok (.iconst 0, 1) := by decide +kernel
theorem dX5_clashes_13 : decode cX5_clashes 13 = .ok (.istore_n 3, 1) := by decide +kernel
theorem dX5_clashes_14 : decode cX5_clashes 14 = .ok (.iload_n 3, 1) := by decide +kernel
theorem dX5_clashes_15 : decode cX5_clashes 15 = .ok (.aload_n 0, 1) := by decide +kernel
theorem dX5_clashes_16 : decode cX5_clashes 16 = .ok (.getfield 64, 3) := by decide +kernel
theorem dX5_clashes_19 : decode cX5_clashes 19 = .ok (.if_icmp .ge 72, 3) := by decide +kernel
theorem dX5_clashes_22 : decode cX5_clashes 22 = .ok (.iconst 0, 1) := by decide +kernel
theorem dX5_clashes_23 : decode cX5_clashes 23 = .ok (.istore 4, 2) := by decide +kernel
theorem dX5_clashes_25 : decode cX5_clashes 25 = .ok (.iload 4, 2) := by decide +kernel
theorem dX5_clashes_27 : decode cX5_clashes 27 = .ok (.iload_n 3, 1) := by decide +kernel
theorem dX5_clashes_28 : decode cX5_clashes 28 = .ok (.if_icmp .ge 57, 3) := by decide +kernel
theorem dX5_clashes_31 : decode cX5_clashes 31 = .ok (.iload_n 2, 1) := by decide +kernel
theorem dX5_clashes_32 : decode cX5_clashes 32 = .ok (.aload_n 0, 1) := by decide +kernel
theorem dX5_clashes_33 : decode cX5_clashes 33 = .ok (.getfield 16, 3) := by decide +kernel
theorem dX5_clashes_36 : decode cX5_clashes 36 = .ok (.iload_n 3, 1) := by decide +kernel
theorem dX5_clashes_37 : decode cX5_clashes 37 = .ok (.iaload, 1) := by decide +kernel
theorem dX5_clashes_38 : decode cX5_clashes 38 = .ok (.ifCond .lt 38, 3) := by decide +kernel
theorem dX5_clashes_41 : decode cX5_clashes 41 = .ok (.aload_n 0, 1) := by decide +kernel
theorem dX5_clashes_42 : decode cX5_clashes 42 = .ok (.getfield 16, 3) := by decide +kernel
theorem dX5_clashes_45 : decode cX5_clashes 45 = .ok (.iload 4, 2) := by decide +kernel
theorem dX5_clashes_47 : decode cX5_clashes 47 = .ok (.iaload, 1) := by decide +kernel
theorem dX5_clashes_48 : decode cX5_clashes 48 = .ok (.ifCond .lt 28, 3) := by decide +kernel
theorem dX5_clashes_51 : decode cX5_clashes 51 = .ok (.aload_n 0, 1) := by decide +kernel
theorem dX5_clashes_52 : decode cX5_clashes 52 = .ok (.aload_n 0, 1) := by decide +kernel
theorem dX5_clashes_53 : decode cX5_clashes 53 = .ok (.getfield 16, 3) := by decide +kernel
theorem dX5_clashes_56 : decode cX5_clashes 56 = .ok (.iload_n 3, 1) := by decide +kernel
theorem dX5_clashes_57 : decode cX5_clashes 57 = .ok (.iaload, 1) := by decide +kernel
theorem dX5_clashes_58 : decode cX5_clashes 58 = .ok (.aload_n 0, 1) := by decide +kernel
theorem dX5_clashes_59 : decode cX5_clashes 59 = .ok (.getfield 16, 3) := by decide +kernel
theorem dX5_clashes_62 : decode cX5_clashes 62 = .ok (.iload 4, 2) := by decide +kernel
theorem dX5_clashes_64 : decode cX5_clashes 64 = .ok (.iaload, 1) := by decide +kernel
theorem dX5_clashes_65 : decode cX5_clashes 65 = .ok (.iload_n 1, 1) := by decide +kernel
theorem dX5_clashes_66 : decode cX5_clashes 66 = .ok (.invokevirtual 104, 3) := by decide +kernel
theorem dX5_clashes_69 : decode cX5_clashes 69 = .ok (.ifCond .eq 7, 3) := by decide +kernel
theorem dX5_clashes_72 : decode cX5_clashes 72 = .ok (.iconst 1, 1) := by decide +kernel
theorem dX5_clashes_73 : decode cX5_clashes 73 = .ok (.goto 4, 3) := by decide +kernel
theorem dX5_clashes_76 : decode cX5_clashes 76 = .ok (.iconst 0, 1) := by decide +kernel
theorem dX5_clashes_77 : decode cX5_clashes 77 = .ok (.iadd, 1) := by decide +kernel
theorem dX5_clashes_78 : decode cX5_clashes 78 = .ok (.istore_n 2, 1) := by decide +kernel
theorem dX5_clashes_79 : decode cX5_clashes 79 = .ok (.iinc 4 1, 3) := by decide +kernel
theorem dX5_clashes_82 : decode cX5_clashes 82 = .ok (.goto (-57), 3) := by decide +kernel
theorem dX5_clashes_85 : decode cX5_clashes 85 = .ok (.iinc 3 1, 3) := by decide +kernel
theorem dX5_clashes_88 : decode cX5_clashes 88 = .ok (.goto (-74), 3) := by decide +kernel
theorem dX5_clashes_91 : decode cX5_clashes 91 = .ok (.iload_n 2, 1) := by decide +kernel
theorem dX5_clashes_92 : decode cX5_clashes 92 = .ok (.ireturn, 1) := by decide +kernel
theorem dX5_pairs_0 : decode cX5_pairs 0 = .ok (.iconst 0, 1) := by decide +kernel
theorem dX5_pairs_1 : decode cX5_pairs 1 = .ok (.istore_n 1, 1) := by decide +kernel
theorem dX5_pairs_2 : decode cX5_pairs 2 = .ok (.iconst 0, 1) := by decide +kernel
theorem dX5_pairs_3 : decode cX5_pairs 3 = .ok (.istore_n 2, 1) := by decide +kernel
theorem dX5_pairs_4 : decode cX5_pairs 4 = .ok (.iload_n 2, 1) := by decide +kernel
theorem dX5_pairs_5 : decode cX5_pairs 5 = .ok (.aload_n 0, 1) := by decide +kernel
theorem dX5_pairs_6 : decode cX5_pairs 6 = .ok (.getfield 75, 3) := by decide +kernel
theorem dX5_pairs_9 : decode cX5_pairs 9 = .ok (.if_icmp .ge 39, 3) := by decide +kernel
theorem dX5_pairs_12 : decode cX5_pairs 12 = .ok (.iconst 0, 1) := by decide +kernel
theorem dX5_pairs_13 : decode cX5_pairs 13 = .ok (.istore_n 3, 1) := by decide +kernel
theorem dX5_pairs_14 : decode cX5_pairs 14 = .ok (.iload_n 3, 1) := by decide +kernel
theorem dX5_pairs_15 : decode cX5_pairs 15 = .ok (.iload_n 2, 1) := by decide +kernel
theorem dX5_pairs_16 : decode cX5_pairs 16 = .ok (.if_icmp .ge 26, 3) := by decide +kernel
theorem dX5_pairs_19 : decode cX5_pairs 19 = .ok (.iload_n 1, 1) := by decide +kernel
theorem dX5_pairs_20 : decode cX5_pairs 20 = .ok (.aload_n 0, 1) := by decide +kernel
theorem dX5_pairs_21 : decode cX5_pairs 21 = .ok (.iload_n 2, 1) := by decide +kernel
theorem dX5_pairs_22 : decode cX5_pairs 22 = .ok (.iload_n 3, 1) := by decide +kernel
theorem dX5_pairs_23 : decode cX5_pairs 23 = .ok (.invokevirtual 107, 3) := by decide +kernel
theorem dX5_pairs_26 : decode cX5_pairs 26 = .ok (.ifCond .le 7, 3) := by decide +kernel
theorem dX5_pairs_29 : decode cX5_pairs 29 = .ok (.iconst 1, 1) := by decide +kernel
theorem dX5_pairs_30 : decode cX5_pairs 30 = .ok (.goto 4, 3) := by decide +kernel
theorem dX5_pairs_33 : decode cX5_pairs 33 = .ok (.iconst 0, 1) := by decide +kernel
theorem dX5_pairs_34 : decode cX5_pairs 34 = .ok (.iadd, 1) := by decide +kernel
theorem dX5_pairs_35 : decode cX5_pairs 35 = .ok (.istore_n 1, 1) := by decide +kernel
theorem dX5_pairs_36 : decode cX5_pairs 36 = .ok (.iinc 3 1, 3) := by decide +kernel
theorem dX5_pairs_39 : decode cX5_pairs 39 = .ok (.goto (-25), 3) := by decide +kernel
theorem dX5_pairs_42 : decode cX5_pairs 42 = .ok (.iinc 2 1, 3) := by decide +kernel
theorem dX5_pairs_45 : decode cX5_pairs 45 = .ok (.goto (-41), 3) := by decide +kernel
theorem dX5_pairs_48 : decode cX5_pairs 48 = .ok (.iload_n 1, 1) := by decide +kernel
theorem dX5_pairs_49 : decode cX5_pairs 49 = .ok (.ireturn, 1) := by decide +kernel
theorem dX5_withChosen_0 : decode cX5_withChosen 0 = .ok (.iconst 0, 1) := by decide +kernel
theorem dX5_withChosen_1 : decode cX5_withChosen 1 = .ok (.istore_n 1, 1) := by decide +kernel
theorem dX5_withChosen_2 : decode cX5_withChosen 2 = .ok (.iconst 0, 1) := by decide +kernel
theorem dX5_withChosen_3 : decode cX5_withChosen 3 = .ok (.istore_n 2, 1) := by decide +kernel
theorem dX5_withChosen_4 : decode cX5_withChosen 4 = .ok (.iload_n 2, 1) := by decide +kernel
theorem dX5_withChosen_5 : decode cX5_withChosen 5 = .ok (.aload_n 0, 1) := by decide +kernel
theorem dX5_withChosen_6 : decode cX5_withChosen 6 = .ok (.getfield 64, 3) := by decide +kernel
theorem dX5_withChosen_9 : decode cX5_withChosen 9 = .ok (.if_icmp .ge 26, 3) := by decide +kernel
theorem dX5_withChosen_12 : decode cX5_withChosen 12 = .ok (.iload_n 1, 1) := by decide +kernel
theorem dX5_withChosen_13 : decode cX5_withChosen 13 = .ok (.aload_n 0, 1) := by decide +kernel
theorem dX5_withChosen_14 : decode cX5_withChosen 14 = .ok (.getfield 16, 3) := by decide +kernel
theorem dX5_withChosen_17 : decode cX5_withChosen 17 = .ok (.iload_n 2, 1) := by decide +kernel
theorem dX5_withChosen_18 : decode cX5_withChosen 18 = .ok (.iaload, 1) := by decide +kernel
theorem dX5_withChosen_19 : decode cX5_withChosen 19 = .ok (.ifCond .lt 7, 3) := by decide +kernel
theorem dX5_withChosen_22 : decode cX5_withChosen 22 = .ok (.iconst 1, 1) := by decide +kernel
theorem dX5_withChosen_23 : decode cX5_withChosen 23 = .ok (.goto 4, 3) := by decide +kernel
theorem dX5_withChosen_26 : decode cX5_withChosen 26 = .ok (.iconst 0, 1) := by decide +kernel
theorem dX5_withChosen_27 : decode cX5_withChosen 27 = .ok (.iadd, 1) := by decide +kernel
theorem dX5_withChosen_28 : decode cX5_withChosen 28 = .ok (.istore_n 1, 1) := by decide +kernel
theorem dX5_withChosen_29 : decode cX5_withChosen 29 = .ok (.iinc 2 1, 3) := by decide +kernel
theorem dX5_withChosen_32 : decode cX5_withChosen 32 = .ok (.goto (-28), 3) := by decide +kernel
theorem dX5_withChosen_35 : decode cX5_withChosen 35 = .ok (.iload_n 1, 1) := by decide +kernel
theorem dX5_withChosen_36 : decode cX5_withChosen 36 = .ok (.ireturn, 1) := by decide +kernel
theorem dX5_many_0 : decode cX5_many 0 = .ok (.iload_n 1, 1) := by decide +kernel
theorem dX5_many_1 : decode cX5_many 1 = .ok (.tableswitch 60 0 4 #[35, 40, 45, 50, 55], 35) := by decide +kernel
theorem dX5_many_36 : decode cX5_many 36 = .ok (.aload_n 0, 1) := by decide +kernel
theorem dX5_many_37 : decode cX5_many 37 = .ok (.getfield 64, 3) := by decide +kernel
theorem dX5_many_40 : decode cX5_many 40 = .ok (.ireturn, 1) := by decide +kernel
theorem dX5_many_41 : decode cX5_many 41 = .ok (.aload_n 0, 1) := by decide +kernel
theorem dX5_many_42 : decode cX5_many 42 = .ok (.getfield 72, 3) := by decide +kernel
theorem dX5_many_45 : decode cX5_many 45 = .ok (.ireturn, 1) := by decide +kernel
theorem dX5_many_46 : decode cX5_many 46 = .ok (.aload_n 0, 1) := by decide +kernel
theorem dX5_many_47 : decode cX5_many 47 = .ok (.getfield 75, 3) := by decide +kernel
theorem dX5_many_50 : decode cX5_many 50 = .ok (.ireturn, 1) := by decide +kernel
theorem dX5_many_51 : decode cX5_many 51 = .ok (.aload_n 0, 1) := by decide +kernel
theorem dX5_many_52 : decode cX5_many 52 = .ok (.invokevirtual 158, 3) := by decide +kernel
theorem dX5_many_55 : decode cX5_many 55 = .ok (.ireturn, 1) := by decide +kernel
theorem dX5_many_56 : decode cX5_many 56 = .ok (.aload_n 0, 1) := by decide +kernel
theorem dX5_many_57 : decode cX5_many 57 = .ok (.invokevirtual 162, 3) := by decide +kernel
theorem dX5_many_60 : decode cX5_many 60 = .ok (.ireturn, 1) := by decide +kernel
theorem dX5_many_61 : decode cX5_many 61 = .ok (.iconst (-1), 1) := by decide +kernel
theorem dX5_many_62 : decode cX5_many 62 = .ok (.ireturn, 1) := by decide +kernel
theorem dX5_copy_0 : decode cX5_copy 0 = .ok (.iconst 0, 1) := by decide +kernel
theorem dX5_copy_1 : decode cX5_copy 1 = .ok (.istore 5, 2) := by decide +kernel
theorem dX5_copy_3 : decode cX5_copy 3 = .ok (.iload 5, 2) := by decide +kernel
theorem dX5_copy_5 : decode cX5_copy 5 = .ok (.iload 4, 2) := by decide +kernel
theorem dX5_copy_7 : decode cX5_copy 7 = .ok (.if_icmp .ge 21, 3) := by decide +kernel
theorem dX5_copy_10 : decode cX5_copy 10 = .ok (.aload_n 2, 1) := by decide +kernel
theorem dX5_copy_11 : decode cX5_copy 11 = .ok (.iload_n 3, 1) := by decide +kernel
theorem dX5_copy_12 : decode cX5_copy 12 = .ok (.iload 5, 2) := by decide +kernel
theorem dX5_copy_14 : decode cX5_copy 14 = .ok (.iadd, 1) := by decide +kernel
theorem dX5_copy_15 : decode cX5_copy 15 = .ok (.aload_n 0, 1) := by decide +kernel
theorem dX5_copy_16 : decode cX5_copy 16 = .ok (.iload_n 1, 1) := by decide +kernel
theorem dX5_copy_17 : decode cX5_copy 17 = .ok (.iload 5, 2) := by decide +kernel
theorem dX5_copy_19 : decode cX5_copy 19 = .ok (.iadd, 1) := by decide +kernel
theorem dX5_copy_20 : decode cX5_copy 20 = .ok (.iaload, 1) := by decide +kernel
theorem dX5_copy_21 : decode cX5_copy 21 = .ok (.iastore, 1) := by decide +kernel
theorem dX5_copy_22 : decode cX5_copy 22 = .ok (.iinc 5 1, 3) := by decide +kernel
theorem dX5_copy_25 : decode cX5_copy 25 = .ok (.goto (-22), 3) := by decide +kernel
theorem dX5_copy_28 : decode cX5_copy 28 = .ok (.return_, 1) := by decide +kernel
theorem dX5_keep_0 : decode cX5_keep 0 = .ok (.aload_n 0, 1) := by decide +kernel
theorem dX5_keep_1 : decode cX5_keep 1 = .ok (.iconst 1, 1) := by decide +kernel
theorem dX5_keep_2 : decode cX5_keep 2 = .ok (.putfield 165, 3) := by decide +kernel
theorem dX5_keep_5 : decode cX5_keep 5 = .ok (.aload_n 0, 1) := by decide +kernel
theorem dX5_keep_6 : decode cX5_keep 6 = .ok (.getfield 37, 3) := by decide +kernel
theorem dX5_keep_9 : decode cX5_keep 9 = .ok (.iconst 0, 1) := by decide +kernel
theorem dX5_keep_10 : decode cX5_keep 10 = .ok (.aload_n 0, 1) := by decide +kernel
theorem dX5_keep_11 : decode cX5_keep 11 = .ok (.getfield 64, 3) := by decide +kernel
theorem dX5_keep_14 : decode cX5_keep 14 = .ok (.iastore, 1) := by decide +kernel
theorem dX5_keep_15 : decode cX5_keep 15 = .ok (.aload_n 0, 1) := by decide +kernel
theorem dX5_keep_16 : decode cX5_keep 16 = .ok (.getfield 37, 3) := by decide +kernel
theorem dX5_keep_19 : decode cX5_keep 19 = .ok (.iconst 1, 1) := by decide +kernel
theorem dX5_keep_20 : decode cX5_keep 20 = .ok (.aload_n 0, 1) := by decide +kernel
theorem dX5_keep_21 : decode cX5_keep 21 = .ok (.getfield 72, 3) := by decide +kernel
theorem dX5_keep_24 : decode cX5_keep 24 = .ok (.iastore, 1) := by decide +kernel
theorem dX5_keep_25 : decode cX5_keep 25 = .ok (.aload_n 0, 1) := by decide +kernel
theorem dX5_keep_26 : decode cX5_keep 26 = .ok (.getfield 37, 3) := by decide +kernel
theorem dX5_keep_29 : decode cX5_keep 29 = .ok (.iconst 2, 1) := by decide +kernel
theorem dX5_keep_30 : decode cX5_keep 30 = .ok (.aload_n 0, 1) := by decide +kernel
theorem dX5_keep_31 : decode cX5_keep 31 = .ok (.getfield 75, 3) := by decide +kernel
theorem dX5_keep_34 : decode cX5_keep 34 = .ok (.iastore, 1) := by decide +kernel
theorem dX5_keep_35 : decode cX5_keep 35 = .ok (.aload_n 0, 1) := by decide +kernel
theorem dX5_keep_36 : decode cX5_keep 36 = .ok (.getfield 7, 3) := by decide +kernel
theorem dX5_keep_39 : decode cX5_keep 39 = .ok (.iconst 0, 1) := by decide +kernel
theorem dX5_keep_40 : decode cX5_keep 40 = .ok (.aload_n 0, 1) := by decide +kernel
theorem dX5_keep_41 : decode cX5_keep 41 = .ok (.getfield 40, 3) := by decide +kernel
theorem dX5_keep_44 : decode cX5_keep 44 = .ok (.iconst 0, 1) := by decide +kernel
theorem dX5_keep_45 : decode cX5_keep 45 = .ok (.bipush 6, 2) := by decide +kernel
theorem dX5_keep_47 : decode cX5_keep 47 = .ok (.invokestatic 169, 3) := by decide +kernel
theorem dX5_keep_50 : decode cX5_keep 50 = .ok (.aload_n 0, 1) := by decide +kernel
theorem dX5_keep_51 : decode cX5_keep 51 = .ok (.getfield 13, 3) := by decide +kernel
theorem dX5_keep_54 : decode cX5_keep 54 = .ok (.iconst 0, 1) := by decide +kernel
theorem dX5_keep_55 : decode cX5_keep 55 = .ok (.aload_n 0, 1) := by decide +kernel
theorem dX5_keep_56 : decode cX5_keep 56 = .ok (.getfield 40, 3) := by decide +kernel
theorem dX5_keep_59 : decode cX5_keep 59 = .ok (.bipush 6, 2) := by decide +kernel
theorem dX5_keep_61 : decode cX5_keep 61 = .ok (.bipush 6, 2) := by decide +kernel
theorem dX5_keep_63 : decode cX5_keep 63 = .ok (.invokestatic 169, 3) := by decide +kernel
theorem dX5_keep_66 : decode cX5_keep 66 = .ok (.aload_n 0, 1) := by decide +kernel
theorem dX5_keep_67 : decode cX5_keep 67 = .ok (.getfield 16, 3) := by decide +kernel
theorem dX5_keep_70 : decode cX5_keep 70 = .ok (.iconst 0, 1) := by decide +kernel
theorem dX5_keep_71 : decode cX5_keep 71 = .ok (.aload_n 0, 1) := by decide +kernel
theorem dX5_keep_72 : decode cX5_keep 72 = .ok (.getfield 40, 3) := by decide +kernel
theorem dX5_keep_75 : decode cX5_keep 75 = .ok (.bipush 12, 2) := by decide +kernel
theorem dX5_keep_77 : decode cX5_keep 77 = .ok (.bipush 6, 2) := by decide +kernel
theorem dX5_keep_79 : decode cX5_keep 79 = .ok (.invokestatic 169, 3) := by decide +kernel
theorem dX5_keep_82 : decode cX5_keep 82 = .ok (.aload_n 0, 1) := by decide +kernel
theorem dX5_keep_83 : decode cX5_keep 83 = .ok (.getfield 19, 3) := by decide +kernel
theorem dX5_keep_86 : decode cX5_keep 86 = .ok (.iconst 0, 1) := by decide +kernel
theorem dX5_keep_87 : decode cX5_keep 87 = .ok (.aload_n 0, 1) := by decide +kernel
theorem dX5_keep_88 : decode cX5_keep 88 = .ok (.getfield 40, 3) := by decide +kernel
theorem dX5_keep_91 : decode cX5_keep 91 = .ok (.bipush 18, 2) := by decide +kernel
theorem dX5_keep_93 : decode cX5_keep 93 = .ok (.bipush 6, 2) := by decide +kernel
theorem dX5_keep_95 : decode cX5_keep 95 = .ok (.invokestatic 169, 3) := by decide +kernel
theorem dX5_keep_98 : decode cX5_keep 98 = .ok (.aload_n 0, 1) := by decide +kernel
theorem dX5_keep_99 : decode cX5_keep 99 = .ok (.getfield 22, 3) := by decide +kernel
theorem dX5_keep_102 : decode cX5_keep 102 = .ok (.iconst 0, 1) := by decide +kernel
theorem dX5_keep_103 : decode cX5_keep 103 = .ok (.aload_n 0, 1) := by decide +kernel
theorem dX5_keep_104 : decode cX5_keep 104 = .ok (.getfield 40, 3) := by decide +kernel
theorem dX5_keep_107 : decode cX5_keep 107 = .ok (.bipush 24, 2) := by decide +kernel
theorem dX5_keep_109 : decode cX5_keep 109 = .ok (.bipush 6, 2) := by decide +kernel
theorem dX5_keep_111 : decode cX5_keep 111 = .ok (.invokestatic 169, 3) := by decide +kernel
theorem dX5_keep_114 : decode cX5_keep 114 = .ok (.aload_n 0, 1) := by decide +kernel
theorem dX5_keep_115 : decode cX5_keep 115 = .ok (.getfield 25, 3) := by decide +kernel
theorem dX5_keep_118 : decode cX5_keep 118 = .ok (.iconst 0, 1) := by decide +kernel
theorem dX5_keep_119 : decode cX5_keep 119 = .ok (.aload_n 0, 1) := by decide +kernel
theorem dX5_keep_120 : decode cX5_keep 120 = .ok (.getfield 40, 3) := by decide +kernel
theorem dX5_keep_123 : decode cX5_keep 123 = .ok (.bipush 30, 2) := by decide +kernel
theorem dX5_keep_125 : decode cX5_keep 125 = .ok (.bipush 6, 2) := by decide +kernel
theorem dX5_keep_127 : decode cX5_keep 127 = .ok (.invokestatic 169, 3) := by decide +kernel
theorem dX5_keep_130 : decode cX5_keep 130 = .ok (.aload_n 0, 1) := by decide +kernel
theorem dX5_keep_131 : decode cX5_keep 131 = .ok (.getfield 28, 3) := by decide +kernel
theorem dX5_keep_134 : decode cX5_keep 134 = .ok (.iconst 0, 1) := by decide +kernel
theorem dX5_keep_135 : decode cX5_keep 135 = .ok (.aload_n 0, 1) := by decide +kernel
theorem dX5_keep_136 : decode cX5_keep 136 = .ok (.getfield 43, 3) := by decide +kernel
theorem dX5_keep_139 : decode cX5_keep 139 = .ok (.iconst 0, 1) := by decide +kernel
theorem dX5_keep_140 : decode cX5_keep 140 = .ok (.bipush 16, 2) := by decide +kernel
theorem dX5_keep_142 : decode cX5_keep 142 = .ok (.invokestatic 169, 3) := by decide +kernel
theorem dX5_keep_145 : decode cX5_keep 145 = .ok (.aload_n 0, 1) := by decide +kernel
theorem dX5_keep_146 : decode cX5_keep 146 = .ok (.getfield 31, 3) := by decide +kernel
theorem dX5_keep_149 : decode cX5_keep 149 = .ok (.iconst 0, 1) := by decide +kernel
theorem dX5_keep_150 : decode cX5_keep 150 = .ok (.aload_n 0, 1) := by decide +kernel
theorem dX5_keep_151 : decode cX5_keep 151 = .ok (.getfield 43, 3) := by decide +kernel
theorem dX5_keep_154 : decode cX5_keep 154 = .ok (.bipush 16, 2) := by decide +kernel
theorem dX5_keep_156 : decode cX5_keep 156 = .ok (.bipush 16, 2) := by decide +kernel
theorem dX5_keep_158 : decode cX5_keep 158 = .ok (.invokestatic 169, 3) := by decide +kernel
theorem dX5_keep_161 : decode cX5_keep 161 = .ok (.aload_n 0, 1) := by decide +kernel
theorem dX5_keep_162 : decode cX5_keep 162 = .ok (.getfield 34, 3) := by decide +kernel
theorem dX5_keep_165 : decode cX5_keep 165 = .ok (.iconst 0, 1) := by decide +kernel
theorem dX5_keep_166 : decode cX5_keep 166 = .ok (.aload_n 0, 1) := by decide +kernel
theorem dX5_keep_167 : decode cX5_keep 167 = .ok (.getfield 43, 3) := by decide +kernel
theorem dX5_keep_170 : decode cX5_keep 170 = .ok (.bipush 32, 2) := by decide +kernel
theorem dX5_keep_172 : decode cX5_keep 172 = .ok (.bipush 96, 2) := by decide +kernel
theorem dX5_keep_174 : decode cX5_keep 174 = .ok (.invokestatic 169, 3) := by decide +kernel
theorem dX5_keep_177 : decode cX5_keep 177 = .ok (.iconst 1, 1) := by decide +kernel
theorem dX5_keep_178 : decode cX5_keep 178 = .ok (.ireturn, 1) := by decide +kernel
theorem dX5_back_0 : decode cX5_back 0 = .ok (.aload_n 0, 1) := by decide +kernel
theorem dX5_back_1 : decode cX5_back 1 = .ok (.getfield 165, 3) := by decide +kernel
theorem dX5_back_4 : decode cX5_back 4 = .ok (.ifCond .ne 6, 3) := by decide +kernel
theorem dX5_back_7 : decode cX5_back 7 = .ok (.bipush (-4), 2) := by decide +kernel
theorem dX5_back_9 : decode cX5_back 9 = .ok (.ireturn, 1) := by decide +kernel
theorem dX5_back_10 : decode cX5_back 10 = .ok (.aload_n 0, 1) := by decide +kernel
theorem dX5_back_11 : decode cX5_back 11 = .ok (.aload_n 0, 1) := by decide +kernel
theorem dX5_back_12 : decode cX5_back 12 = .ok (.getfield 37, 3) := by decide +kernel
theorem dX5_back_15 : decode cX5_back 15 = .ok (.iconst 0, 1) := by decide +kernel
theorem dX5_back_16 : decode cX5_back 16 = .ok (.iaload, 1) := by decide +kernel
theorem dX5_back_17 : decode cX5_back 17 = .ok (.putfield 64, 3) := by decide +kernel
theorem dX5_back_20 : decode cX5_back 20 = .ok (.aload_n 0, 1) := by decide +kernel
theorem dX5_back_21 : decode cX5_back 21 = .ok (.aload_n 0, 1) := by decide +kernel
theorem dX5_back_22 : decode cX5_back 22 = .ok (.getfield 37, 3) := by decide +kernel
theorem dX5_back_25 : decode cX5_back 25 = .ok (.iconst 1, 1) := by decide +kernel
theorem dX5_back_26 : decode cX5_back 26 = .ok (.iaload, 1) := by decide +kernel
theorem dX5_back_27 : decode cX5_back 27 = .ok (.putfield 72, 3) := by decide +kernel
theorem dX5_back_30 : decode cX5_back 30 = .ok (.aload_n 0, 1) := by decide +kernel
theorem dX5_back_31 : decode cX5_back 31 = .ok (.aload_n 0, 1) := by decide +kernel
theorem dX5_back_32 : decode cX5_back 32 = .ok (.getfield 37, 3) := by decide +kernel
theorem dX5_back_35 : decode cX5_back 35 = .ok (.iconst 2, 1) := by decide +kernel
