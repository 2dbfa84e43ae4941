theorem dX5_take_56 : decode cX5_take 56 = .ok (.getfield 75, 3) := by decide +kernel
theorem dX5_take_59 : decode cX5_take 59 = .ok (.iload_n 2, 1) := by decide +kernel
theorem dX5_take_60 : decode cX5_take 60 = .ok (.iastore, 1) := by decide +kernel
theorem dX5_take_61 : decode cX5_take 61 = .ok (.iconst 0, 1) := by decide +kernel
theorem dX5_take_62 : decode cX5_take 62 = .ok (.istore_n 3, 1) := by decide +kernel
theorem dX5_take_63 : decode cX5_take 63 = .ok (.iload_n 3, 1) := by decide +kernel
theorem dX5_take_64 : decode cX5_take 64 = .ok (.bipush 6, 2) := by decide +kernel
theorem dX5_take_66 : decode cX5_take 66 = .ok (.if_icmp .ge 24, 3) := by decide +kernel
theorem dX5_take_69 : decode cX5_take 69 = .ok (.aload_n 0, 1) := by decide +kernel
theorem dX5_take_70 : decode cX5_take 70 = .ok (.getfield 34, 3) := by decide +kernel
theorem dX5_take_73 : decode cX5_take 73 = .ok (.bipush 6, 2) := by decide +kernel
theorem dX5_take_75 : decode cX5_take 75 = .ok (.aload_n 0, 1) := by decide +kernel
theorem dX5_take_76 : decode cX5_take 76 = .ok (.getfield 75, 3) := by decide +kernel
theorem dX5_take_79 : decode cX5_take 79 = .ok (.imul, 1) := by decide +kernel
theorem dX5_take_80 : decode cX5_take 80 = .ok (.iload_n 3, 1) := by decide +kernel
theorem dX5_take_81 : decode cX5_take 81 = .ok (.iadd, 1) := by decide +kernel
theorem dX5_take_82 : decode cX5_take 82 = .ok (.iconst (-1), 1) := by decide +kernel
theorem dX5_take_83 : decode cX5_take 83 = .ok (.iastore, 1) := by decide +kernel
theorem dX5_take_84 : decode cX5_take 84 = .ok (.iinc 3 1, 3) := by decide +kernel
theorem dX5_take_87 : decode cX5_take 87 = .ok (.goto (-24), 3) := by decide +kernel
theorem dX5_take_90 : decode cX5_take 90 = .ok (.aload_n 0, 1) := by decide +kernel
theorem dX5_take_91 : decode cX5_take 91 = .ok (.dup, 1) := by decide +kernel
theorem dX5_take_92 : decode cX5_take 92 = .ok (.getfield 75, 3) := by decide +kernel
theorem dX5_take_95 : decode cX5_take 95 = .ok (.iconst 1, 1) := by decide +kernel
theorem dX5_take_96 : decode cX5_take 96 = .ok (.iadd, 1) := by decide +kernel
theorem dX5_take_97 : decode cX5_take 97 = .ok (.putfield 75, 3) := by decide +kernel
theorem dX5_take_100 : decode cX5_take 100 = .ok (.aload_n 0, 1) := by decide +kernel
theorem dX5_take_101 : decode cX5_take 101 = .ok (.getfield 75, 3) := by decide +kernel
theorem dX5_take_104 : decode cX5_take 104 = .ok (.iconst 1, 1) := by decide +kernel
theorem dX5_take_105 : decode cX5_take 105 = .ok (.isub, 1) := by decide +kernel
theorem dX5_take_106 : decode cX5_take 106 = .ok (.ireturn, 1) := by decide +kernel
theorem dX5_show_0 : decode cX5_show 0 = .ok (.aload_n 0, 1) := by decide +kernel
theorem dX5_show_1 : decode cX5_show 1 = .ok (.iload_n 1, 1) := by decide +kernel
theorem dX5_show_2 : decode cX5_show 2 = .ok (.invokevirtual 89, 3) := by decide +kernel
theorem dX5_show_5 : decode cX5_show 5 = .ok (.ifCond .eq 21, 3) := by decide +kernel
theorem dX5_show_8 : decode cX5_show 8 = .ok (.aload_n 0, 1) := by decide +kernel
theorem dX5_show_9 : decode cX5_show 9 = .ok (.iload_n 2, 1) := by decide +kernel
theorem dX5_show_10 : decode cX5_show 10 = .ok (.invokevirtual 82, 3) := by decide +kernel
theorem dX5_show_13 : decode cX5_show 13 = .ok (.ifCond .eq 13, 3) := by decide +kernel
theorem dX5_show_16 : decode cX5_show 16 = .ok (.iload_n 3, 1) := by decide +kernel
theorem dX5_show_17 : decode cX5_show 17 = .ok (.iconst (-1), 1) := by decide +kernel
theorem dX5_show_18 : decode cX5_show 18 = .ok (.bipush 99, 2) := by decide +kernel
theorem dX5_show_20 : decode cX5_show 20 = .ok (.invokestatic 68, 3) := by decide +kernel
theorem dX5_show_23 : decode cX5_show 23 = .ok (.ifCond .ne 6, 3) := by decide +kernel
theorem dX5_show_26 : decode cX5_show 26 = .ok (.bipush (-5), 2) := by decide +kernel
theorem dX5_show_28 : decode cX5_show 28 = .ok (.ireturn, 1) := by decide +kernel
theorem dX5_show_29 : decode cX5_show 29 = .ok (.aload_n 0, 1) := by decide +kernel
theorem dX5_show_30 : decode cX5_show 30 = .ok (.getfield 34, 3) := by decide +kernel
theorem dX5_show_33 : decode cX5_show 33 = .ok (.bipush 6, 2) := by decide +kernel
theorem dX5_show_35 : decode cX5_show 35 = .ok (.iload_n 1, 1) := by decide +kernel
theorem dX5_show_36 : decode cX5_show 36 = .ok (.imul, 1) := by decide +kernel
theorem dX5_show_37 : decode cX5_show 37 = .ok (.iload_n 2, 1) := by decide +kernel
theorem dX5_show_38 : decode cX5_show 38 = .ok (.iadd, 1) := by decide +kernel
theorem dX5_show_39 : decode cX5_show 39 = .ok (.iaload, 1) := by decide +kernel
theorem dX5_show_40 : decode cX5_show 40 = .ok (.istore 4, 2) := by decide +kernel
theorem dX5_show_42 : decode cX5_show 42 = .ok (.aload_n 0, 1) := by decide +kernel
theorem dX5_show_43 : decode cX5_show 43 = .ok (.getfield 34, 3) := by decide +kernel
theorem dX5_show_46 : decode cX5_show 46 = .ok (.bipush 6, 2) := by decide +kernel
theorem dX5_show_48 : decode cX5_show 48 = .ok (.iload_n 1, 1) := by decide +kernel
theorem dX5_show_49 : decode cX5_show 49 = .ok (.imul, 1) := by decide +kernel
theorem dX5_show_50 : decode cX5_show 50 = .ok (.iload_n 2, 1) := by decide +kernel
theorem dX5_show_51 : decode cX5_show 51 = .ok (.iadd, 1) := by decide +kernel
theorem dX5_show_52 : decode cX5_show 52 = .ok (.iload_n 3, 1) := by decide +kernel
theorem dX5_show_53 : decode cX5_show 53 = .ok (.iastore, 1) := by decide +kernel
theorem dX5_show_54 : decode cX5_show 54 = .ok (.iload 4, 2) := by decide +kernel
theorem dX5_show_56 : decode cX5_show 56 = .ok (.ireturn, 1) := by decide +kernel
theorem dX5_like_0 : decode cX5_like 0 = .ok (.aload_n 0, 1) := by decide +kernel
theorem dX5_like_1 : decode cX5_like 1 = .ok (.iload_n 1, 1) := by decide +kernel
theorem dX5_like_2 : decode cX5_like 2 = .ok (.invokevirtual 89, 3) := by decide +kernel
theorem dX5_like_5 : decode cX5_like 5 = .ok (.ifCond .eq 11, 3) := by decide +kernel
theorem dX5_like_8 : decode cX5_like 8 = .ok (.aload_n 0, 1) := by decide +kernel
theorem dX5_like_9 : decode cX5_like 9 = .ok (.iload_n 2, 1) := by decide +kernel
theorem dX5_like_10 : decode cX5_like 10 = .ok (.invokevirtual 89, 3) := by decide +kernel
theorem dX5_like_13 : decode cX5_like 13 = .ok (.ifCond .ne 5, 3) := by decide +kernel
theorem dX5_like_16 : decode cX5_like 16 = .ok (.iconst (-1), 1) := by decide +kernel
theorem dX5_like_17 : decode cX5_like 17 = .ok (.ireturn, 1) := by decide +kernel
theorem dX5_like_18 : decode cX5_like 18 = .ok (.iconst 0, 1) := by decide +kernel
theorem dX5_like_19 : decode cX5_like 19 = .ok (.istore_n 3, 1) := by decide +kernel
theorem dX5_like_20 : decode cX5_like 20 = .ok (.iconst 0, 1) := by decide +kernel
theorem dX5_like_21 : decode cX5_like 21 = .ok (.istore 4, 2) := by decide +kernel
theorem dX5_like_23 : decode cX5_like 23 = .ok (.iload 4, 2) := by decide +kernel
theorem dX5_like_25 : decode cX5_like 25 = .ok (.aload_n 0, 1) := by decide +kernel
theorem dX5_like_26 : decode cX5_like 26 = .ok (.getfield 72, 3) := by decide +kernel
theorem dX5_like_29 : decode cX5_like 29 = .ok (.if_icmp .ge 68, 3) := by decide +kernel
theorem dX5_like_32 : decode cX5_like 32 = .ok (.iload_n 3, 1) := by decide +kernel
theorem dX5_like_33 : decode cX5_like 33 = .ok (.aload_n 0, 1) := by decide +kernel
theorem dX5_like_34 : decode cX5_like 34 = .ok (.getfield 34, 3) := by decide +kernel
theorem dX5_like_37 : decode cX5_like 37 = .ok (.bipush 6, 2) := by decide +kernel
theorem dX5_like_39 : decode cX5_like 39 = .ok (.iload_n 1, 1) := by decide +kernel
theorem dX5_like_40 : decode cX5_like 40 = .ok (.imul, 1) := by decide +kernel
theorem dX5_like_41 : decode cX5_like 41 = .ok (.iload 4, 2) := by decide +kernel
theorem dX5_like_43 : decode cX5_like 43 = .ok (.iadd, 1) := by decide +kernel
theorem dX5_like_44 : decode cX5_like 44 = .ok (.iaload, 1) := by decide +kernel
theorem dX5_like_45 : decode cX5_like 45 = .ok (.aload_n 0, 1) := by decide +kernel
theorem dX5_like_46 : decode cX5_like 46 = .ok (.getfield 34, 3) := by decide +kernel
theorem dX5_like_49 : decode cX5_like 49 = .ok (.bipush 6, 2) := by decide +kernel
theorem dX5_like_51 : decode cX5_like 51 = .ok (.iload_n 2, 1) := by decide +kernel
theorem dX5_like_52 : decode cX5_like 52 = .ok (.imul, 1) := by decide +kernel
theorem dX5_like_53 : decode cX5_like 53 = .ok (.iload 4, 2) := by decide +kernel
theorem dX5_like_55 : decode cX5_like 55 = .ok (.iadd, 1) := by decide +kernel
theorem dX5_like_56 : decode cX5_like 56 = .ok (.iaload, 1) := by decide +kernel
theorem dX5_like_57 : decode cX5_like 57 = .ok (.if_icmp .eq 7, 3) := by decide +kernel
theorem dX5_like_60 : decode cX5_like 60 = .ok (.iconst 1, 1) := by decide +kernel
theorem dX5_like_61 : decode cX5_like 61 = .ok (.goto 4, 3) := by decide +kernel
theorem dX5_like_64 : decode cX5_like 64 = .ok (.iconst 0, 1) := by decide +kernel
theorem dX5_like_65 : decode cX5_like 65 = .ok (.iadd, 1) := by decide +kernel
theorem dX5_like_66 : decode cX5_like 66 = .ok (.istore_n 3, 1) := by decide +kernel
theorem dX5_like_67 : decode cX5_like 67 = .ok (.aload_n 0, 1) := by decide +kernel
theorem dX5_like_68 : decode cX5_like 68 = .ok (.getfield 34, 3) := by decide +kernel
theorem dX5_like_71 : decode cX5_like 71 = .ok (.bipush 6, 2) := by decide +kernel
theorem dX5_like_73 : decode cX5_like 73 = .ok (.iload_n 1, 1) := by decide +kernel
theorem dX5_like_74 : decode cX5_like 74 = .ok (.imul, 1) := by decide +kernel
theorem dX5_like_75 : decode cX5_like 75 = .ok (.iload 4, 2) := by decide +kernel
theorem dX5_like_77 : decode cX5_like 77 = .ok (.iadd, 1) := by decide +kernel
theorem dX5_like_78 : decode cX5_like 78 = .ok (.aload_n 0, 1) := by decide +kernel
theorem dX5_like_79 : decode cX5_like 79 = .ok (.getfield 34, 3) := by decide +kernel
theorem dX5_like_82 : decode cX5_like 82 = .ok (.bipush 6, 2) := by decide +kernel
theorem dX5_like_84 : decode cX5_like 84 = .ok (.iload_n 2, 1) := by decide +kernel
theorem dX5_like_85 : decode cX5_like 85 = .ok (.imul, 1) := by decide +kernel
theorem dX5_like_86 : decode cX5_like 86 = .ok (.iload 4, 2) := by decide +kernel
theorem dX5_like_88 : decode cX5_like 88 = .ok (.iadd, 1) := by decide +kernel
theorem dX5_like_89 : decode cX5_like 89 = .ok (.iaload, 1) := by decide +kernel
theorem dX5_like_90 : decode cX5_like 90 = .ok (.iastore, 1) := by decide +kernel
theorem dX5_like_91 : decode cX5_like 91 = .ok (.iinc 4 1, 3) := by decide +kernel
theorem dX5_like_94 : decode cX5_like 94 = .ok (.goto (-71), 3) := by decide +kernel
theorem dX5_like_97 : decode cX5_like 97 = .ok (.iload_n 3, 1) := by decide +kernel
theorem dX5_like_98 : decode cX5_like 98 = .ok (.ireturn, 1) := by decide +kernel
theorem dX5_of_0 : decode cX5_of 0 = .ok (.aload_n 0, 1) := by decide +kernel
theorem dX5_of_1 : decode cX5_of 1 = .ok (.iload_n 1, 1) := by decide +kernel
theorem dX5_of_2 : decode cX5_of 2 = .ok (.invokevirtual 78, 3) := by decide +kernel
theorem dX5_of_5 : decode cX5_of 5 = .ok (.ifCond .eq 12, 3) := by decide +kernel
theorem dX5_of_8 : decode cX5_of 8 = .ok (.iload_n 2, 1) := by decide +kernel
theorem dX5_of_9 : decode cX5_of 9 = .ok (.iconst 0, 1) := by decide +kernel
theorem dX5_of_10 : decode cX5_of 10 = .ok (.iconst 3, 1) := by decide +kernel
theorem dX5_of_11 : decode cX5_of 11 = .ok (.invokestatic 68, 3) := by decide +kernel
theorem dX5_of_14 : decode cX5_of 14 = .ok (.ifCond .ne 5, 3) := by decide +kernel
theorem dX5_of_17 : decode cX5_of 17 = .ok (.iconst (-1), 1) := by decide +kernel
theorem dX5_of_18 : decode cX5_of 18 = .ok (.ireturn, 1) := by decide +kernel
theorem dX5_of_19 : decode cX5_of 19 = .ok (.iload_n 2, 1) := by decide +kernel
theorem dX5_of_20 : decode cX5_of 20 = .ok (.tableswitch 48 0 2 #[28, 35, 42], 28) := by decide +kernel
theorem dX5_of_48 : decode cX5_of 48 = .ok (.aload_n 0, 1) := by decide +kernel
theorem dX5_of_49 : decode cX5_of 49 = .ok (.getfield 7, 3) := by decide +kernel
theorem dX5_of_52 : decode cX5_of 52 = .ok (.iload_n 1, 1) := by decide +kernel
theorem dX5_of_53 : decode cX5_of 53 = .ok (.iaload, 1) := by decide +kernel
theorem dX5_of_54 : decode cX5_of 54 = .ok (.ireturn, 1) := by decide +kernel
theorem dX5_of_55 : decode cX5_of 55 = .ok (.aload_n 0, 1) := by decide +kernel
theorem dX5_of_56 : decode cX5_of 56 = .ok (.getfield 13, 3) := by decide +kernel
theorem dX5_of_59 : decode cX5_of 59 = .ok (.iload_n 1, 1) := by decide +kernel
theorem dX5_of_60 : decode cX5_of 60 = .ok (.iaload, 1) := by decide +kernel
theorem dX5_of_61 : decode cX5_of 61 = .ok (.ireturn, 1) := by decide +kernel
theorem dX5_of_62 : decode cX5_of 62 = .ok (.aload_n 0, 1) := by decide +kernel
theorem dX5_of_63 : decode cX5_of 63 = .ok (.iload_n 1, 1) := by decide +kernel
theorem dX5_of_64 : decode cX5_of 64 = .ok (.invokevirtual 85, 3) := by decide +kernel
theorem dX5_of_67 : decode cX5_of 67 = .ok (.ireturn, 1) := by decide +kernel
theorem dX5_of_68 : decode cX5_of 68 = .ok (.aload_n 0, 1) := by decide +kernel
theorem dX5_of_69 : decode cX5_of 69 = .ok (.getfield 16, 3) := by decide +kernel
theorem dX5_of_72 : decode cX5_of 72 = .ok (.iload_n 1, 1) := by decide +kernel
theorem dX5_of_73 : decode cX5_of 73 = .ok (.iaload, 1) := by decide +kernel
theorem dX5_of_74 : decode cX5_of 74 = .ok (.ifCond .ge 8, 3) := by decide +kernel
theorem dX5_of_77 : decode cX5_of 77 = .ok (.bipush (-4), 2) := by decide +kernel
theorem dX5_of_79 : decode cX5_of 79 = .ok (.goto 9, 3) := by decide +kernel
theorem dX5_of_82 : decode cX5_of 82 = .ok (.aload_n 0, 1) := by decide +kernel
theorem dX5_of_83 : decode cX5_of 83 = .ok (.getfield 16, 3) := by decide +kernel
theorem dX5_of_86 : decode cX5_of 86 = .ok (.iload_n 1, 1) := by decide +kernel
theorem dX5_of_87 : decode cX5_of 87 = .ok (.iaload, 1) := by decide +kernel
theorem dX5_of_88 : decode cX5_of 88 = .ok (.ireturn, 1) := by decide +kernel
theorem dX5_told_0 : decode cX5_told 0 = .ok (.aload_n 0, 1) := by decide +kernel
theorem dX5_told_1 : decode cX5_told 1 = .ok (.iload_n 1, 1) := by decide +kernel
theorem dX5_told_2 : decode cX5_told 2 = .ok (.invokevirtual 89, 3) := by decide +kernel
theorem dX5_told_5 : decode cX5_told 5 = .ok (.ifCond .ne 5, 3) := by decide +kernel
theorem dX5_told_8 : decode cX5_told 8 = .ok (.iconst (-1), 1) := by decide +kernel
theorem dX5_told_9 : decode cX5_told 9 = .ok (.ireturn, 1) := by decide +kernel
theorem dX5_told_10 : decode cX5_told 10 = .ok (.iload_n 2, 1) := by decide +kernel
theorem dX5_told_11 : decode cX5_told 11 = .ok (.ifCond .eq 8, 3) := by decide +kernel
theorem dX5_told_14 : decode cX5_told 14 = .ok (.iload_n 2, 1) := by decide +kernel
theorem dX5_told_15 : decode cX5_told 15 = .ok (.iconst 1, 1) := by decide +kernel
theorem dX5_told_16 : decode cX5_told 16 = .ok (.if_icmp .ne 23, 3) := by decide +kernel
theorem dX5_told_19 : decode cX5_told 19 = .ok (.iload_n 2, 1) := by decide +kernel
theorem dX5_told_20 : decode cX5_told 20 = .ok (.ifCond .ne 12, 3) := by decide +kernel
theorem dX5_told_23 : decode cX5_told 23 = .ok (.aload_n 0, 1) := by decide +kernel
theorem dX5_told_24 : decode cX5_told 24 = .ok (.getfield 28, 3) := by decide +kernel
theorem dX5_told_27 : decode cX5_told 27 = .ok (.iload_n 1, 1) := by decide +kernel
theorem dX5_told_28 : decode cX5_told 28 = .ok (.iaload, 1) := by decide +kernel
theorem dX5_told_29 : decode cX5_told 29 = .ok (.goto 9, 3) := by decide +kernel
theorem dX5_told_32 : decode cX5_told 32 = .ok (.aload_n 0, 1) := by decide +kernel
theorem dX5_told_33 : decode cX5_told 33 = .ok (.getfield 31, 3) := by decide +kernel
theorem dX5_told_36 : decode cX5_told 36 = .ok (.iload_n 1, 1) := by decide +kernel
theorem dX5_told_37 : decode cX5_told 37 = .ok (.iaload, 1) := by decide +kernel
theorem dX5_told_38 : decode cX5_told 38 = .ok (.ireturn, 1) := by decide +kernel
theorem dX5_told_39 : decode cX5_told 39 = .ok (.iload_n 2, 1) := by decide +kernel
theorem dX5_told_40 : decode cX5_told 40 = .ok (.iconst 2, 1) := by decide +kernel
theorem dX5_told_41 : decode cX5_told 41 = .ok (.if_icmp .ne 48, 3) := by decide +kernel
theorem dX5_told_44 : decode cX5_told 44 = .ok (.iconst 0, 1) := by decide +kernel
theorem dX5_told_45 : decode cX5_told 45 = .ok (.istore_n 3, 1) := by decide +kernel
theorem dX5_told_46 : decode cX5_told 46 = .ok (.iconst 0, 1) := by decide +kernel
theorem dX5_told_47 : decode cX5_told 47 = .ok (.istore 4, 2) := by decide +kernel
theorem dX5_told_49 : decode cX5_told 49 = .ok (.iload 4, 2) := by decide +kernel
theorem dX5_told_51 : decode cX5_told 51 = .ok (.aload_n 0, 1) := by decide +kernel
theorem dX5_told_52 : decode cX5_told 52 = .ok (.getfield 72, 3) := by decide +kernel
theorem dX5_told_55 : decode cX5_told 55 = .ok (.if_icmp .ge 32, 3) := by decide +kernel
theorem dX5_told_58 : decode cX5_told 58 = .ok (.iload_n 3, 1) := by decide +kernel
theorem dX5_told_59 : decode cX5_told 59 = .ok (.aload_n 0, 1) := by decide +kernel
theorem dX5_told_60 : decode cX5_told 60 = .ok (.getfield 34, 3) := by decide +kernel
theorem dX5_told_63 : decode cX5_told 63 = .ok (.bipush 6, 2) := by decide +kernel
theorem dX5_told_65 : decode cX5_told 65 = .ok (.iload_n 1, 1) := by decide +kernel
theorem dX5_told_66 : decode cX5_told 66 = .ok (.imul, 1) := by decide +kernel
theorem dX5_told_67 : decode cX5_told 67 = .ok (.iload 4, 2) := by decide +kernel
theorem dX5_told_69 : decode cX5_told 69 = .ok (.iadd, 1) := by decide +kernel
theorem dX5_told_70 : decode cX5_told 70 = .ok (.iaload, 1) := by decide +kernel
theorem dX5_told_71 : decode cX5_told 71 = .ok (.ifCond .lt 7, 3) := by decide +kernel
theorem dX5_told_74 : decode cX5_told 74 = .ok (.iconst 1, 1) := by decide +kernel
theorem dX5_told_75 : decode cX5_told 75 = .ok (.goto 4, 3) := by decide +kernel
theorem dX5_told_78 : decode cX5_told 78 = .ok (.iconst 0, 1) := by decide +kernel
theorem dX5_told_79 : decode cX5_told 79 = .ok (.iadd, 1) := by decide +kernel
theorem dX5_told_80 : decode cX5_told 80 = .ok (.istore_n 3, 1) := by decide +kernel
theorem dX5_told_81 : decode cX5_told 81 = .ok (.iinc 4 1, 3) := by decide +kernel
theorem dX5_told_84 : decode cX5_told 84 = .ok (.goto (-35), 3) := by decide +kernel
theorem dX5_told_87 : decode cX5_told 87 = .ok (.iload_n 3, 1) := by decide +kernel
theorem dX5_told_88 : decode cX5_told 88 = .ok (.ireturn, 1) := by decide +kernel
theorem dX5_told_89 : decode cX5_told 89 = .ok (.iload_n 2, 1) := by decide +kernel
theorem dX5_told_90 : decode cX5_told 90 = .ok (.bipush 10, 2) := by decide +kernel
theorem dX5_told_92 : decode cX5_told 92 = .ok (.bipush 9, 2) := by decide +kernel
theorem dX5_told_94 : decode cX5_told 94 = .ok (.aload_n 0, 1) := by decide +kernel
theorem dX5_told_95 : decode cX5_told 95 = .ok (.getfield 72, 3) := by decide +kernel
theorem dX5_told_98 : decode cX5_told 98 = .ok (.iadd, 1) := by decide +kernel
theorem dX5_told_99 : decode cX5_told 99 = .ok (.invokestatic 68, 3) := by decide +kernel
theorem dX5_told_102 : decode cX5_told 102 = .ok (.ifCond .ne 5, 3) := by decide +kernel
theorem dX5_told_105 : decode cX5_told 105 = .ok (.iconst (-1), 1) := by decide +kernel
theorem dX5_told_106 : decode cX5_told 106 = .ok (.ireturn, 1) := by decide +kernel
theorem dX5_told_107 : decode cX5_told 107 = .ok (.aload_n 0, 1) := by decide +kernel
theorem dX5_told_108 : decode cX5_told 108 = .ok (.getfield 34, 3) := by decide +kernel
theorem dX5_told_111 : decode cX5_told 111 = .ok (.bipush 6, 2) := by decide +kernel
theorem dX5_told_113 : decode cX5_told 113 = .ok (.iload_n 1, 1) := by decide +kernel
theorem dX5_told_114 : decode cX5_told 114 = .ok (.imul, 1) := by decide +kernel
theorem dX5_told_115 : decode cX5_told 115 = .ok (.iload_n 2, 1) := by decide +kernel
theorem dX5_told_116 : decode cX5_told 116 = .ok (.iadd, 1) := by decide +kernel
theorem dX5_told_117 : decode cX5_told 117 = .ok (.bipush 10, 2) := by decide +kernel
theorem dX5_told_119 : decode cX5_told 119 = .ok (.isub, 1) := by decide +kernel
theorem dX5_told_120 : decode cX5_told 120 = .ok (.iaload, 1) := by decide +kernel
theorem dX5_told_121 : decode cX5_told 121 = .ok (.istore_n 3, 1) := by decide +kernel
theorem dX5_told_122 : decode cX5_told 122 = .ok (.iload_n 3, 1) := by decide +kernel
theorem dX5_told_123 : decode cX5_told 123 = .ok (.ifCond .ge 8, 3) := by decide +kernel
theorem dX5_told_126 : decode cX5_told 126 = .ok (.bipush (-4), 2) := by decide +kernel
theorem dX5_told_128 : decode cX5_told 128 = .ok (.goto 4, 3) := by decide +kernel
theorem dX5_told_131 : decode cX5_told 131 = .ok (.iload_n 3, 1) := by decide +kernel
theorem dX5_told_132 : decode cX5_told 132 = .ok (.ireturn, 1) := by decide +kernel
theorem dX5_thingOf_0 : decode cX5_thingOf 0 = .ok (.aload_n 0, 1) := by decide +kernel
theorem dX5_thingOf_1 : decode cX5_thingOf 1 = .ok (.iload_n 1, 1) := by decide +kernel
theorem dX5_thingOf_2 : decode cX5_thingOf 2 = .ok (.invokevirtual 82, 3) := by decide +kernel
theorem dX5_thingOf_5 : decode cX5_thingOf 5 = .ok (.ifCond .eq 12, 3) := by decide +kernel
theorem dX5_thingOf_8 : decode cX5_thingOf 8 = .ok (.iload_n 2, 1) := by decide +kernel
theorem dX5_thingOf_9 : decode cX5_thingOf 9 = .ok (.iconst 0, 1) := by decide +kernel
theorem dX5_thingOf_10 : decode cX5_thingOf 10 = .ok (.iconst 3, 1) := by decide +kernel
theorem dX5_thingOf_11 : decode cX5_thingOf 11 = .ok (.invokestatic 68, 3) := by decide +kernel
theorem dX5_thingOf_14 : decode cX5_thingOf 14 = .ok (.ifCond .ne 5, 3) := by decide +kernel
theorem dX5_thingOf_17 : decode cX5_thingOf 17 = .ok (.iconst (-1), 1) := by decide +kernel
theorem dX5_thingOf_18 : decode cX5_thingOf 18 = .ok (.ireturn, 1) := by decide +kernel
theorem dX5_thingOf_19 : decode cX5_thingOf 19 = .ok (.iload_n 2, 1) := by decide +kernel
theorem dX5_thingOf_20 : decode cX5_thingOf 20 = .ok (.iconst 3, 1) := by decide +kernel
theorem dX5_thingOf_21 : decode cX5_thingOf 21 = .ok (.if_icmp .ge 37, 3) := by decide +kernel
theorem dX5_thingOf_24 : decode cX5_thingOf 24 = .ok (.iload_n 2, 1) := by decide +kernel
theorem dX5_thingOf_25 : decode cX5_thingOf 25 = .ok (.ifCond .ne 12, 3) := by decide +kernel
theorem dX5_thingOf_28 : decode cX5_thingOf 28 = .ok (.aload_n 0, 1) := by decide +kernel
theorem dX5_thingOf_29 : decode cX5_thingOf 29 = .ok (.getfield 19, 3) := by decide +kernel
theorem dX5_thingOf_32 : decode cX5_thingOf 32 = .ok (.iload_n 1, 1) := by decide +kernel
theorem dX5_thingOf_33 : decode cX5_thingOf 33 = .ok (.iaload, 1) := by decide +kernel
theorem dX5_thingOf_34 : decode cX5_thingOf 34 = .ok (.goto 23, 3) := by decide +kernel
theorem dX5_thingOf_37 : decode cX5_thingOf 37 = .ok (.iload_n 2, 1) := by decide +kernel
theorem dX5_thingOf_38 : decode cX5_thingOf 38 = .ok (.iconst 1, 1) := by decide +kernel
theorem dX5_thingOf_39 : decode cX5_thingOf 39 = .ok (.if_icmp .ne 12, 3) := by decide +kernel
theorem dX5_thingOf_42 : decode cX5_thingOf 42 = .ok (.aload_n 0, 1) := by decide +kernel
theorem dX5_thingOf_43 : decode cX5_thingOf 43 = .ok (.getfield 22, 3) := by decide +kernel
theorem dX5_thingOf_46 : decode cX5_thingOf 46 = .ok (.iload_n 1, 1) := by decide +kernel
theorem dX5_thingOf_47 : decode cX5_thingOf 47 = .ok (.iaload, 1) := by decide +kernel
theorem dX5_thingOf_48 : decode cX5_thingOf 48 = .ok (.goto 9, 3) := by decide +kernel
theorem dX5_thingOf_51 : decode cX5_thingOf 51 = .ok (.aload_n 0, 1) := by decide +kernel
theorem dX5_thingOf_52 : decode cX5_thingOf 52 = .ok (.getfield 25, 3) := by decide +kernel
theorem dX5_thingOf_55 : decode cX5_thingOf 55 = .ok (.iload_n 1, 1) := by decide +kernel
theorem dX5_thingOf_56 : decode cX5_thingOf 56 = .ok (.iaload, 1) := by decide +kernel
theorem dX5_thingOf_57 : decode cX5_thingOf 57 = .ok (.ireturn, 1) := by decide +kernel
theorem dX5_thingOf_58 : decode cX5_thingOf 58 = .ok (.iconst 0, 1) := by decide +kernel
theorem dX5_thingOf_59 : decode cX5_thingOf 59 = .ok (.istore_n 3, 1) := by decide +kernel
theorem dX5_thingOf_60 : decode cX5_thingOf 60 = .ok (.iconst 0, 1) := by decide +kernel
theorem dX5_thingOf_61 : decode cX5_thingOf 61 = .ok (.istore 4, 2) := by decide +kernel
theorem dX5_thingOf_63 : decode cX5_thingOf 63 = .ok (.iload 4, 2) := by decide +kernel
theorem dX5_thingOf_65 : decode cX5_thingOf 65 = .ok (.aload_n 0, 1) := by decide +kernel
theorem dX5_thingOf_66 : decode cX5_thingOf 66 = .ok (.getfield 75, 3) := by decide +kernel
theorem dX5_thingOf_69 : decode cX5_thingOf 69 = .ok (.if_icmp .ge 32, 3) := by decide +kernel
theorem dX5_thingOf_72 : decode cX5_thingOf 72 = .ok (.iload_n 3, 1) := by decide +kernel
theorem dX5_thingOf_73 : decode cX5_thingOf 73 = .ok (.aload_n 0, 1) := by decide +kernel
theorem dX5_thingOf_74 : decode cX5_thingOf 74 = .ok (.getfield 34, 3) := by decide +kernel
theorem dX5_thingOf_77 : decode cX5_thingOf 77 = .ok (.bipush 6, 2) := by decide +kernel
theorem dX5_thingOf_79 : decode cX5_thingOf 79 = .ok (.iload 4, 2) := by decide +kernel
theorem dX5_thingOf_81 : decode cX5_thingOf 81 = .ok (.imul, 1) := by decide +kernel
theorem dX5_thingOf_82 : decode cX5_thingOf 82 = .ok (.iload_n 1, 1) := by decide +kernel
theorem dX5_thingOf_83 : decode cX5_thingOf 83 = .ok (.iadd, 1) := by decide +kernel
theorem dX5_thingOf_84 : decode cX5_thingOf 84 = .ok (.iaload, 1) := by decide +kernel
theorem dX5_thingOf_85 : decode cX5_thingOf 85 = .ok (.ifCond .lt 7, 3) := by decide +kernel
theorem dX5_thingOf_88 : decode cX5_thingOf 88 = .ok (.iconst 1, 1) := by decide +kernel
theorem dX5_thingOf_89 : decode cX5_thingOf 89 = .ok (.goto 4, 3) := by decide +kernel
theorem dX5_thingOf_92 : decode cX5_thingOf 92 = .ok (.iconst 0, 1) := by decide +kernel
theorem dX5_thingOf_93 : decode cX5_thingOf 93 = .ok (.iadd, 1) := by decide +kernel
theorem dX5_thingOf_94 : decode cX5_thingOf 94 = .ok (.istore_n 3, 1) := by decide +kernel
theorem dX5_thingOf_95 : decode cX5_thingOf 95 = .ok (.iinc 4 1, 3) := by decide +kernel
theorem dX5_thingOf_98 : decode cX5_thingOf 98 = .ok (.goto (-35), 3) := by decide +kernel
theorem dX5_thingOf_101 : decode cX5_thingOf 101 = .ok (.iload_n 3, 1) := by decide +kernel
theorem dX5_thingOf_102 : decode cX5_thingOf 102 = .ok (.ireturn, 1) := by decide +kernel
theorem dX5_isAhead_0 : decode cX5_isAhead 0 = .ok (.aload_n 0, 1) := by decide +kernel
theorem dX5_isAhead_1 : decode cX5_isAhead 1 = .ok (.getfield 7, 3) := by decide +kernel
theorem dX5_isAhead_4 : decode cX5_isAhead 4 = .ok (.iload_n 1, 1) := by decide +kernel
theorem dX5_isAhead_5 : decode cX5_isAhead 5 = .ok (.iaload, 1) := by decide +kernel
theorem dX5_isAhead_6 : decode cX5_isAhead 6 = .ok (.aload_n 0, 1) := by decide +kernel
theorem dX5_isAhead_7 : decode cX5_isAhead 7 = .ok (.getfield 7, 3) := by decide +kernel
theorem dX5_isAhead_10 : decode cX5_isAhead 10 = .ok (.iload_n 2, 1) := by decide +kernel
theorem dX5_isAhead_11 : decode cX5_isAhead 11 = .ok (.iaload, 1) := by decide +kernel
theorem dX5_isAhead_12 : decode cX5_isAhead 12 = .ok (.if_icmp .lt 33, 3) := by decide +kernel
theorem dX5_isAhead_15 : decode cX5_isAhead 15 = .ok (.aload_n 0, 1) := by decide +kernel
theorem dX5_isAhead_16 : decode cX5_isAhead 16 = .ok (.getfield 7, 3) := by decide +kernel
theorem dX5_isAhead_19 : decode cX5_isAhead 19 = .ok (.iload_n 1, 1) := by decide +kernel
theorem dX5_isAhead_20 : decode cX5_isAhead 20 = .ok (.iaload, 1) := by decide +kernel
theorem dX5_isAhead_21 : decode cX5_isAhead 21 = .ok (.aload_n 0, 1) := by decide +kernel
theorem dX5_isAhead_22 : decode cX5_isAhead 22 = .ok (.getfield 7, 3) := by decide +kernel
theorem dX5_isAhead_25 : decode cX5_isAhead 25 = .ok (.iload_n 2, 1) := by decide +kernel
theorem dX5_isAhead_26 : decode cX5_isAhead 26 = .ok (.iaload, 1) := by decide +kernel
theorem dX5_isAhead_27 : decode cX5_isAhead 27 = .ok (.if_icmp .ne 22, 3) := by decide +kernel
theorem dX5_isAhead_30 : decode cX5_isAhead 30 = .ok (.aload_n 0, 1) := by decide +kernel
theorem dX5_isAhead_31 : decode cX5_isAhead 31 = .ok (.getfield 13, 3) := by decide +kernel
theorem dX5_isAhead_34 : decode cX5_isAhead 34 = .ok (.iload_n 1, 1) := by decide +kernel
theorem dX5_isAhead_35 : decode cX5_isAhead 35 = .ok (.iaload, 1) := by decide +kernel
theorem dX5_isAhead_36 : decode cX5_isAhead 36 = .ok (.aload_n 0, 1) := by decide +kernel
theorem dX5_isAhead_37 : decode cX5_isAhead 37 = .ok (.getfield 13, 3) := by decide +kernel
theorem dX5_isAhead_40 : decode cX5_isAhead 40 = .ok (.iload_n 2, 1) := by decide +kernel
theorem dX5_isAhead_41 : decode cX5_isAhead 41 = .ok (.iaload, 1) := by decide +kernel
theorem dX5_isAhead_42 : decode cX5_isAhead 42 = .ok (.if_icmp .ge 7, 3) := by decide +kernel
theorem dX5_isAhead_45 : decode cX5_isAhead 45 = .ok (.iconst 1, 1) := by decide +kernel
theorem dX5_isAhead_46 : decode cX5_isAhead 46 = .ok (.goto 4, 3) := by decide +kernel
theorem dX5_isAhead_49 : decode cX5_isAhead 49 = .ok (.iconst 0, 1) := by decide +kernel
theorem dX5_isAhead_50 : decode cX5_isAhead 50 = .ok (.ireturn, 1) := by decide +kernel
theorem dX5_ahead_0 : decode cX5_ahead 0 = .ok (.aload_n 0, 1) := by decide +kernel
theorem dX5_ahead_1 : decode cX5_ahead 1 = .ok (.iload_n 1, 1) := by decide +kernel
theorem dX5_ahead_2 : decode cX5_ahead 2 = .ok (.invokevirtual 78, 3) := by decide +kernel
theorem dX5_ahead_5 : decode cX5_ahead 5 = .ok (.ifCond .eq 11, 3) := by decide +kernel
theorem dX5_ahead_8 : decode cX5_ahead 8 = .ok (.aload_n 0, 1) := by decide +kernel
theorem dX5_ahead_9 : decode cX5_ahead 9 = .ok (.iload_n 2, 1) := by decide +kernel
theorem dX5_ahead_10 : decode cX5_ahead 10 = .ok (.invokevirtual 78, 3) := by decide +kernel
theorem dX5_ahead_13 : decode cX5_ahead 13 = .ok (.ifCond .ne 5, 3) := by decide +kernel
theorem dX5_ahead_16 : decode cX5_ahead 16 = .ok (.iconst (-1), 1) := by decide +kernel
theorem dX5_ahead_17 : decode cX5_ahead 17 = .ok (.ireturn, 1) := by decide +kernel
theorem dX5_ahead_18 : decode cX5_ahead 18 = .ok (.aload_n 0, 1) := by decide +kernel
theorem dX5_ahead_19 : decode cX5_ahead 19 = .ok (.iload_n 1, 1) := by decide +kernel
theorem dX5_ahead_20 : decode cX5_ahead 20 = .ok (.iload_n 2, 1) := by decide +kernel
theorem dX5_ahead_21 : decode cX5_ahead 21 = .ok (.invokevirtual 92, 3) := by decide +kernel
theorem dX5_ahead_24 : decode cX5_ahead 24 = .ok (.ifCond .eq 7, 3) := by decide +kernel
theorem dX5_ahead_27 : decode cX5_ahead 27 = .ok (.iconst 1, 1) := by decide +kernel
theorem dX5_ahead_28 : decode cX5_ahead 28 = .ok (.goto 17, 3) := by decide +kernel
theorem dX5_ahead_31 : decode cX5_ahead 31 = .ok (.aload_n 0, 1) := by decide +kernel
theorem dX5_ahead_32 : decode cX5_ahead 32 = .ok (.iload_n 2, 1) := by decide +kernel
theorem dX5_ahead_33 : decode cX5_ahead 33 = .ok (.iload_n 1, 1) := by decide +kernel
theorem dX5_ahead_34 : decode cX5_ahead 34 = .ok (.invokevirtual 92, 3) := by decide +kernel
theorem dX5_ahead_37 : decode cX5_ahead 37 = .ok (.ifCond .eq 7, 3) := by decide +kernel
theorem dX5_ahead_40 : decode cX5_ahead 40 = .ok (.iconst 2, 1) := by decide +kernel
theorem dX5_ahead_41 : decode cX5_ahead 41 = .ok (.goto 4, 3) := by decide +kernel
theorem dX5_ahead_44 : decode cX5_ahead 44 = .ok (.iconst 0, 1) := by decide +kernel
theorem dX5_ahead_45 : decode cX5_ahead 45 = .ok (.ireturn, 1) := by decide +kernel
theorem dX5_quarrels_0 : decode cX5_quarrels 0 = .ok (.iload_n 2, 1) := by decide +kernel
theorem dX5_quarrels_1 : decode cX5_quarrels 1 = .ok (.iload 4, 2) := by decide +kernel
theorem dX5_quarrels_3 : decode cX5_quarrels 3 = .ok (.if_icmp .eq 12, 3) := by decide +kernel
theorem dX5_quarrels_6 : decode cX5_quarrels 6 = .ok (.iload_n 3, 1) := by decide +kernel
theorem dX5_quarrels_7 : decode cX5_quarrels 7 = .ok (.ifCond .lt 8, 3) := by decide +kernel
theorem dX5_quarrels_10 : decode cX5_quarrels 10 = .ok (.iload 5, 2) := by decide +kernel
theorem dX5_quarrels_12 : decode cX5_quarrels 12 = .ok (.ifCond .ge 5, 3) := by decide +kernel
theorem dX5_quarrels_15 : decode cX5_quarrels 15 = .ok (.iconst 0, 1) := by decide +kernel
theorem dX5_quarrels_16 : decode cX5_quarrels 16 = .ok (.ireturn, 1) := by decide +kernel
theorem dX5_quarrels_17 : decode cX5_quarrels 17 = .ok (.aload_n 0, 1) := by decide +kernel
theorem dX5_quarrels_18 : decode cX5_quarrels 18 = .ok (.getfield 19, 3) := by decide +kernel
theorem dX5_quarrels_21 : decode cX5_quarrels 21 = .ok (.iload_n 1, 1) := by decide +kernel
theorem dX5_quarrels_22 : decode cX5_quarrels 22 = .ok (.iaload, 1) := by decide +kernel
theorem dX5_quarrels_23 : decode cX5_quarrels 23 = .ok (.ifCond .ne 31, 3) := by decide +kernel
theorem dX5_quarrels_26 : decode cX5_quarrels 26 = .ok (.aload_n 0, 1) := by decide +kernel
theorem dX5_quarrels_27 : decode cX5_quarrels 27 = .ok (.getfield 7, 3) := by decide +kernel
theorem dX5_quarrels_30 : decode cX5_quarrels 30 = .ok (.iload_n 2, 1) := by decide +kernel
theorem dX5_quarrels_31 : decode cX5_quarrels 31 = .ok (.iaload, 1) := by decide +kernel
theorem dX5_quarrels_32 : decode cX5_quarrels 32 = .ok (.aload_n 0, 1) := by decide +kernel
theorem dX5_quarrels_33 : decode cX5_quarrels 33 = .ok (.getfield 7, 3) := by decide +kernel
theorem dX5_quarrels_36 : decode cX5_quarrels 36 = .ok (.iload 4, 2) := by decide +kernel
theorem dX5_quarrels_38 : decode cX5_quarrels 38 = .ok (.iaload, 1) := by decide +kernel
theorem dX5_quarrels_39 : decode cX5_quarrels 39 = .ok (.if_icmp .ne 13, 3) := by decide +kernel
theorem dX5_quarrels_42 : decode cX5_quarrels 42 = .ok (.iload_n 3, 1) := by decide +kernel
theorem dX5_quarrels_43 : decode cX5_quarrels 43 = .ok (.iload 5, 2) := by decide +kernel
theorem dX5_quarrels_45 : decode cX5_quarrels 45 = .ok (.if_icmp .eq 7, 3) := by decide +kernel
theorem dX5_quarrels_48 : decode cX5_quarrels 48 = .ok (.iconst 1, 1) := by decide +kernel
theorem dX5_quarrels_49 : decode cX5_quarrels 49 = .ok (.goto 4, 3) := by decide +kernel
theorem dX5_quarrels_52 : decode cX5_quarrels 52 = .ok (.iconst 0, 1) := by decide +kernel
theorem dX5_quarrels_53 : decode cX5_quarrels 53 = .ok (.ireturn, 1) := by decide +kernel
theorem dX5_quarrels_54 : decode cX5_quarrels 54 = .ok (.aload_n 0, 1) := by decide +kernel
theorem dX5_quarrels_55 : decode cX5_quarrels 55 = .ok (.iload_n 2, 1) := by decide +kernel
theorem dX5_quarrels_56 : decode cX5_quarrels 56 = .ok (.iload 4, 2) := by decide +kernel
theorem dX5_quarrels_58 : decode cX5_quarrels 58 = .ok (.invokevirtual 92, 3) := by decide +kernel
theorem dX5_quarrels_61 : decode cX5_quarrels 61 = .ok (.ifCond .eq 26, 3) := by decide +kernel
theorem dX5_quarrels_64 : decode cX5_quarrels 64 = .ok (.aload_n 0, 1) := by decide +kernel
theorem dX5_quarrels_65 : decode cX5_quarrels 65 = .ok (.iload_n 1, 1) := by decide +kernel
theorem dX5_quarrels_66 : decode cX5_quarrels 66 = .ok (.aload_n 0, 1) := by decide +kernel
theorem dX5_quarrels_67 : decode cX5_quarrels 67 = .ok (.getfield 7, 3) := by decide +kernel
theorem dX5_quarrels_70 : decode cX5_quarrels 70 = .ok (.iload 4, 2) := by decide +kernel
theorem dX5_quarrels_72 : decode cX5_quarrels 72 = .ok (.iaload, 1) := by decide +kernel
theorem dX5_quarrels_73 : decode cX5_quarrels 73 = .ok (.aload_n 0, 1) := by decide +kernel
theorem dX5_quarrels_74 : decode cX5_quarrels 74 = .ok (.getfield 7, 3) := by decide +kernel
theorem dX5_quarrels_77 : decode cX5_quarrels 77 = .ok (.iload_n 2, 1) := by decide +kernel
theorem dX5_quarrels_78 : decode cX5_quarrels 78 = .ok (.iaload, 1) := by decide +kernel
theorem dX5_quarrels_79 : decode cX5_quarrels 79 = .ok (.isub, 1) := by decide +kernel
theorem dX5_quarrels_80 : decode cX5_quarrels 80 = .ok (.iload_n 3, 1) := by decide +kernel
theorem dX5_quarrels_81 : decode cX5_quarrels 81 = .ok (.iload 5, 2) := by decide +kernel
theorem dX5_quarrels_83 : decode cX5_quarrels 83 = .ok (.invokevirtual 96, 3) := by decide +kernel
theorem dX5_quarrels_86 : decode cX5_quarrels 86 = .ok (.ireturn, 1) := by decide +kernel
theorem dX5_quarrels_87 : decode cX5_quarrels 87 = .ok (.aload_n 0, 1) := by decide +kernel
theorem dX5_quarrels_88 : decode cX5_quarrels 88 = .ok (.iload 4, 2) := by decide +kernel
theorem dX5_quarrels_90 : decode cX5_quarrels 90 = .ok (.iload_n 2, 1) := by decide +kernel
theorem dX5_quarrels_91 : decode cX5_quarrels 91 = .ok (.invokevirtual 92, 3) := by decide +kernel
theorem dX5_quarrels_94 : decode cX5_quarrels 94 = .ok (.ifCond .eq 32, 3) := by decide +kernel
theorem dX5_quarrels_97 : decode cX5_quarrels 97 = .ok (.aload_n 0, 1) := by decide +kernel
theorem dX5_quarrels_98 : decode cX5_quarrels 98 = .ok (.iload_n 1, 1) := by decide +kernel
theorem dX5_quarrels_99 : decode cX5_quarrels 99 = .ok (.aload_n 0, 1) := by decide +kernel
theorem dX5_quarrels_100 : decode cX5_quarrels 100 = .ok (.getfield 7, 3) := by decide +kernel
theorem dX5_quarrels_103 : decode cX5_quarrels 103 = .ok (.iload_n 2, 1) := by decide +kernel
theorem dX5_quarrels_104 : decode cX5_quarrels 104 = .ok (.iaload, 1) := by decide +kernel
theorem dX5_quarrels_105 : decode cX5_quarrels 105 = .ok (.aload_n 0, 1) := by decide +kernel
theorem dX5_quarrels_106 : decode cX5_quarrels 106 = .ok (.getfield 7, 3) := by decide +kernel
theorem dX5_quarrels_109 : decode cX5_quarrels 109 = .ok (.iload 4, 2) := by decide +kernel
theorem dX5_quarrels_111 : decode cX5_quarrels 111 = .ok (.iaload, 1) := by decide +kernel
theorem dX5_quarrels_112 : decode cX5_quarrels 112 = .ok (.isub, 1) := by decide +kernel
theorem dX5_quarrels_113 : decode cX5_quarrels 113 = .ok (.iload 5, 2) := by decide +kernel
theorem dX5_quarrels_115 : decode cX5_quarrels 115 = .ok (.iload_n 3, 1) := by decide +kernel
theorem dX5_quarrels_116 : decode cX5_quarrels 116 = .ok (.invokevirtual 96, 3) := by decide +kernel
theorem dX5_quarrels_119 : decode cX5_quarrels 119 = .ok (.ifCond .eq 7, 3) := by decide +kernel
theorem dX5_quarrels_122 : decode cX5_quarrels 122 = .ok (.iconst 1, 1) := by decide +kernel
theorem dX5_quarrels_123 : decode cX5_quarrels 123 = .ok (.goto 4, 3) := by decide +kernel
theorem dX5_quarrels_126 : decode cX5_quarrels 126 = .ok (.iconst 0, 1) := by decide +kernel
theorem dX5_quarrels_127 : decode cX5_quarrels 127 = .ok (.ireturn, 1) := by decide +kernel
theorem dX5_breaks_0 : decode cX5_breaks 0 = .ok (.aload_n 0, 1) := by decide +kernel
theorem dX5_breaks_1 : decode cX5_breaks 1 = .ok (.getfield 19, 3) := by decide +kernel
theorem dX5_breaks_4 : decode cX5_breaks 4 = .ok (.iload_n 1, 1) := by decide +kernel
theorem dX5_breaks_5 : decode cX5_breaks 5 = .ok (.iaload, 1) := by decide +kernel
theorem dX5_breaks_6 : decode cX5_breaks 6 = .ok (.iconst 1, 1) := by decide +kernel
theorem dX5_breaks_7 : decode cX5_breaks 7 = .ok (.if_icmp .ne 15, 3) := by decide +kernel
theorem dX5_breaks_10 : decode cX5_breaks 10 = .ok (.iload 4, 2) := by decide +kernel
theorem dX5_breaks_12 : decode cX5_breaks 12 = .ok (.iload_n 3, 1) := by decide +kernel
theorem dX5_breaks_13 : decode cX5_breaks 13 = .ok (.if_icmp .le 7, 3) := by decide +kernel
theorem dX5_breaks_16 : decode cX5_breaks 16 = .ok (.iconst 1, 1) := by decide +kernel
theorem dX5_breaks_17 : decode cX5_breaks 17 = .ok (.goto 4, 3) := by decide +kernel
theorem dX5_breaks_20 : decode cX5_breaks 20 = .ok (.iconst 0, 1) := by decide +kernel
theorem dX5_breaks_21 : decode cX5_breaks 21 = .ok (.ireturn, 1) := by decide +kernel
theorem dX5_breaks_22 : decode cX5_breaks 22 = .ok (.aload_n 0, 1) := by decide +kernel
theorem dX5_breaks_23 : decode cX5_breaks 23 = .ok (.getfield 19, 3) := by decide +kernel
theorem dX5_breaks_26 : decode cX5_breaks 26 = .ok (.iload_n 1, 1) := by decide +kernel
theorem dX5_breaks_27 : decode cX5_breaks 27 = .ok (.iaload, 1) := by decide +kernel
theorem dX5_breaks_28 : decode cX5_breaks 28 = .ok (.iconst 2, 1) := by decide +kernel
theorem dX5_breaks_29 : decode cX5_breaks 29 = .ok (.if_icmp .ne 15, 3) := by decide +kernel
theorem dX5_breaks_32 : decode cX5_breaks 32 = .ok (.iload 4, 2) := by decide +kernel
theorem dX5_breaks_34 : decode cX5_breaks 34 = .ok (.iload_n 3, 1) := by decide +kernel
theorem dX5_breaks_35 : decode cX5_breaks 35 = .ok (.if_icmp .ge 7, 3) := by decide +kernel
theorem dX5_breaks_38 : decode cX5_breaks 38 = .ok (.iconst 1, 1) := by decide +kernel
theorem dX5_breaks_39 : decode cX5_breaks 39 = .ok (.goto 4, 3) := by decide +kernel
theorem dX5_breaks_42 : decode cX5_breaks 42 = .ok (.iconst 0, 1) := by decide +kernel
theorem dX5_breaks_43 : decode cX5_breaks 43 = .ok (.ireturn, 1) := by decide +kernel
theorem dX5_breaks_44 : decode cX5_breaks 44 = .ok (.iload_n 3, 1) := by decide +kernel
theorem dX5_breaks_45 : decode cX5_breaks 45 = .ok (.aload_n 0, 1) := by decide +kernel
theorem dX5_breaks_46 : decode cX5_breaks 46 = .ok (.getfield 22, 3) := by decide +kernel
theorem dX5_breaks_49 : decode cX5_breaks 49 = .ok (.iload_n 1, 1) := by decide +kernel
theorem dX5_breaks_50 : decode cX5_breaks 50 = .ok (.iaload, 1) := by decide +kernel
theorem dX5_breaks_51 : decode cX5_breaks 51 = .ok (.iload_n 2, 1) := by decide +kernel
theorem dX5_breaks_52 : decode cX5_breaks 52 = .ok (.imul, 1) := by decide +kernel
theorem dX5_breaks_53 : decode cX5_breaks 53 = .ok (.isub, 1) := by decide +kernel
theorem dX5_breaks_54 : decode cX5_breaks 54 = .ok (.istore 5, 2) := by decide +kernel
theorem dX5_breaks_56 : decode cX5_breaks 56 = .ok (.iload 4, 2) := by decide +kernel
theorem dX5_breaks_58 : decode cX5_breaks 58 = .ok (.iload 5, 2) := by decide +kernel
theorem dX5_breaks_60 : decode cX5_breaks 60 = .ok (.ifCond .ge 7, 3) := by decide +kernel
theorem dX5_breaks_63 : decode cX5_breaks 63 = .ok (.iconst 0, 1) := by decide +kernel
theorem dX5_breaks_64 : decode cX5_breaks 64 = .ok (.goto 5, 3) := by decide +kernel
theorem dX5_breaks_67 : decode cX5_breaks 67 = .ok (.iload 5, 2) := by decide +kernel
theorem dX5_breaks_69 : decode cX5_breaks 69 = .ok (.if_icmp .eq 7, 3) := by decide +kernel
theorem dX5_breaks_72 : decode cX5_breaks 72 = .ok (.iconst 1, 1) := by decide +kernel
theorem dX5_breaks_73 : decode cX5_breaks 73 = .ok (.goto 4, 3) := by decide +kernel
theorem dX5_breaks_76 : decode cX5_breaks 76 = .ok (.iconst 0, 1) := by decide +kernel
theorem dX5_breaks_77 : decode cX5_breaks 77 = .ok (.ireturn, 1) := by decide +kernel
theorem dX5_doClash_0 : decode cX5_doClash 0 = .ok (.aload_n 0, 1) := by decide +kernel
theorem dX5_doClash_1 : decode cX5_doClash 1 = .ok (.iload_n 3, 1) := by decide +kernel
theorem dX5_doClash_2 : decode cX5_doClash 2 = .ok (.aload_n 0, 1) := by decide +kernel
theorem dX5_doClash_3 : decode cX5_doClash 3 = .ok (.getfield 28, 3) := by decide +kernel
theorem dX5_doClash_6 : decode cX5_doClash 6 = .ok (.iload_n 1, 1) := by decide +kernel
theorem dX5_doClash_7 : decode cX5_doClash 7 = .ok (.iaload, 1) := by decide +kernel
theorem dX5_doClash_8 : decode cX5_doClash 8 = .ok (.aload_n 0, 1) := by decide +kernel
theorem dX5_doClash_9 : decode cX5_doClash 9 = .ok (.getfield 34, 3) := by decide +kernel
theorem dX5_doClash_12 : decode cX5_doClash 12 = .ok (.bipush 6, 2) := by decide +kernel
theorem dX5_doClash_14 : decode cX5_doClash 14 = .ok (.iload_n 1, 1) := by decide +kernel
theorem dX5_doClash_15 : decode cX5_doClash 15 = .ok (.imul, 1) := by decide +kernel
theorem dX5_doClash_16 : decode cX5_doClash 16 = .ok (.iload_n 3, 1) := by decide +kernel
theorem dX5_doClash_17 : decode cX5_doClash 17 = .ok (.iadd, 1) := by decide +kernel
theorem dX5_doClash_18 : decode cX5_doClash 18 = .ok (.iaload, 1) := by decide +kernel
theorem dX5_doClash_19 : decode cX5_doClash 19 = .ok (.aload_n 0, 1) := by decide +kernel
theorem dX5_doClash_20 : decode cX5_doClash 20 = .ok (.getfield 28, 3) := by decide +kernel
theorem dX5_doClash_23 : decode cX5_doClash 23 = .ok (.iload_n 2, 1) := by decide +kernel
theorem dX5_doClash_24 : decode cX5_doClash 24 = .ok (.iaload, 1) := by decide +kernel
theorem dX5_doClash_25 : decode cX5_doClash 25 = .ok (.aload_n 0, 1) := by decide +kernel
theorem dX5_doClash_26 : decode cX5_doClash 26 = .ok (.getfield 34, 3) := by decide +kernel
theorem dX5_doClash_29 : decode cX5_doClash 29 = .ok (.bipush 6, 2) := by decide +kernel
theorem dX5_doClash_31 : decode cX5_doClash 31 = .ok (.iload_n 2, 1) := by decide +kernel
theorem dX5_doClash_32 : decode cX5_doClash 32 = .ok (.imul, 1) := by decide +kernel
theorem dX5_doClash_33 : decode cX5_doClash 33 = .ok (.iload_n 3, 1) := by decide +kernel
theorem dX5_doClash_34 : decode cX5_doClash 34 = .ok (.iadd, 1) := by decide +kernel
theorem dX5_doClash_35 : decode cX5_doClash 35 = .ok (.iaload, 1) := by decide +kernel
theorem dX5_doClash_36 : decode cX5_doClash 36 = .ok (.invokevirtual 100, 3) := by decide +kernel
theorem dX5_doClash_39 : decode cX5_doClash 39 = .ok (.ireturn, 1) := by decide +kernel
theorem dX5_clash_0 : decode cX5_clash 0 = .ok (.aload_n 0, 1) := by decide +kernel
theorem dX5_clash_1 : decode cX5_clash 1 = .ok (.iload_n 1, 1) := by decide +kernel
theorem dX5_clash_2 : decode cX5_clash 2 = .ok (.invokevirtual 89, 3) := by decide +kernel
theorem dX5_clash_5 : decode cX5_clash 5 = .ok (.ifCond .eq 19, 3) := by decide +kernel
theorem dX5_clash_8 : decode cX5_clash 8 = .ok (.aload_n 0, 1) := by decide +kernel
theorem dX5_clash_9 : decode cX5_clash 9 = .ok (.iload_n 2, 1) := by decide +kernel
theorem dX5_clash_10 : decode cX5_clash 10 = .ok (.invokevirtual 89, 3) := by decide +kernel
theorem dX5_clash_13 : decode cX5_clash 13 = .ok (.ifCond .eq 11, 3) := by decide +kernel
theorem dX5_clash_16 : decode cX5_clash 16 = .ok (.aload_n 0, 1) := by decide +kernel
theorem dX5_clash_17 : decode cX5_clash 17 = .ok (.iload_n 3, 1) := by decide +kernel
theorem dX5_clash_18 : decode cX5_clash 18 = .ok (.invokevirtual 82, 3) := by decide +kernel
theorem dX5_clash_21 : decode cX5_clash 21 = .ok (.ifCond .ne 5, 3) := by decide +kernel
theorem dX5_clash_24 : decode cX5_clash 24 = .ok (.iconst (-1), 1) := by decide +kernel
theorem dX5_clash_25 : decode cX5_clash 25 = .ok (.ireturn, 1) := by decide +kernel
theorem dX5_clash_26 : decode cX5_clash 26 = .ok (.aload_n 0, 1) := by decide +kernel
theorem dX5_clash_27 : decode cX5_clash 27 = .ok (.iload_n 1, 1) := by decide +kernel
theorem dX5_clash_28 : decode cX5_clash 28 = .ok (.iload_n 2, 1) := by decide +kernel
theorem dX5_clash_29 : decode cX5_clash 29 = .ok (.iload_n 3, 1) := by decide +kernel
theorem dX5_clash_30 : decode cX5_clash 30 = .ok (.invokevirtual 104, 3) := by decide +kernel
theorem dX5_clash_33 : decode cX5_clash 33 = .ok (.ifCond .eq 7, 3) := by decide +kernel
theorem dX5_clash_36 : decode cX5_clash 36 = .ok (.iconst 1, 1) := by decide +kernel
theorem dX5_clash_37 : decode cX5_clash 37 = .ok (.goto 4, 3) := by decide +kernel
theorem dX5_clash_40 : decode cX5_clash 40 = .ok (.iconst 0, 1) := by decide +kernel
theorem dX5_clash_41 : decode cX5_clash 41 = .ok (.ireturn, 1) := by decide +kernel
theorem dX5_noiseOf_0 : decode cX5_noiseOf 0 = .ok (.iconst 0, 1) := by decide +kernel
theorem dX5_noiseOf_1 : decode cX5_noiseOf 1 = .ok (.istore_n 3, 1) := by decide +kernel
theorem dX5_noiseOf_2 : decode cX5_noiseOf 2 = .ok (.iconst 0, 1) := by decide +kernel
theorem dX5_noiseOf_3 : decode cX5_noiseOf 3 = .ok (.istore 4, 2) := by decide +kernel
theorem dX5_noiseOf_5 : decode cX5_noiseOf 5 = .ok (.iload 4, 2) := by decide +kernel
theorem dX5_noiseOf_7 : decode cX5_noiseOf 7 = .ok (.aload_n 0, 1) := by decide +kernel
theorem dX5_noiseOf_8 : decode cX5_noiseOf 8 = .ok (.getfield 72, 3) := by decide +kernel
theorem dX5_noiseOf_11 : decode cX5_noiseOf 11 = .ok (.if_icmp .ge 34, 3) := by decide +kernel
theorem dX5_noiseOf_14 : decode cX5_noiseOf 14 = .ok (.iload_n 3, 1) := by decide +kernel
theorem dX5_noiseOf_15 : decode cX5_noiseOf 15 = .ok (.aload_n 0, 1) := by decide +kernel
theorem dX5_noiseOf_16 : decode cX5_noiseOf 16 = .ok (.iload_n 1, 1) := by decide +kernel
theorem dX5_noiseOf_17 : decode cX5_noiseOf 17 = .ok (.iload_n 2, 1) := by decide +kernel
theorem dX5_noiseOf_18 : decode cX5_noiseOf 18 = .ok (.iload 4, 2) := by decide +kernel
theorem dX5_noiseOf_20 : decode cX5_noiseOf 20 = .ok (.invokevirtual 104, 3) := by decide +kernel
theorem dX5_noiseOf_23 : decode cX5_noiseOf 23 = .ok (.ifCond .eq 13, 3) := by decide +kernel
theorem dX5_noiseOf_26 : decode cX5_noiseOf 26 = .ok (.aload_n 0, 1) := by decide +kernel
theorem dX5_noiseOf_27 : decode cX5_noiseOf 27 = .ok (.getfield 25, 3) := by decide +kernel
theorem dX5_noiseOf_30 : decode cX5_noiseOf 30 = .ok (.iload 4, 2) := by decide +kernel
theorem dX5_noiseOf_32 : decode cX5_noiseOf 32 = .ok (.iaload, 1) := by decide +kernel
theorem dX5_noiseOf_33 : decode cX5_noiseOf 33 = .ok (.goto 4, 3) := by decide +kernel
theorem dX5_noiseOf_36 : decode cX5_noiseOf 36 = .ok (.iconst 0, 1) := by decide +kernel
theorem dX5_noiseOf_37 : decode cX5_noiseOf 37 = .ok (.iadd, 1) := by decide +kernel
theorem dX5_noiseOf_38 : decode cX5_noiseOf 38 = .ok (.istore_n 3, 1) := by decide +kernel
theorem dX5_noiseOf_39 : decode cX5_noiseOf 39 = .ok (.iinc 4 1, 3) := by decide +kernel
theorem dX5_noiseOf_42 : decode cX5_noiseOf 42 = .ok (.goto (-37), 3) := by decide +kernel
theorem dX5_noiseOf_45 : decode cX5_noiseOf 45 = .ok (.iload_n 3, 1) := by decide +kernel
theorem dX5_noiseOf_46 : decode cX5_noiseOf 46 = .ok (.ireturn, 1) := by decide +kernel
theorem dX5_noise_0 : decode cX5_noise 0 = .ok (.aload_n 0, 1) := by decide +kernel
theorem dX5_noise_1 : decode cX5_noise 1 = .ok (.iload_n 1, 1) := by decide +kernel
theorem dX5_noise_2 : decode cX5_noise 2 = .ok (.invokevirtual 89, 3) := by decide +kernel
theorem dX5_noise_5 : decode cX5_noise 5 = .ok (.ifCond .eq 20, 3) := by decide +kernel
theorem dX5_noise_8 : decode cX5_noise 8 = .ok (.aload_n 0, 1) := by decide +kernel
theorem dX5_noise_9 : decode cX5_noise 9 = .ok (.iload_n 2, 1) := by decide +kernel
theorem dX5_noise_10 : decode cX5_noise 10 = .ok (.invokevirtual 89, 3) := by decide +kernel
theorem dX5_noise_13 : decode cX5_noise 13 = .ok (.ifCond .eq 12, 3) := by decide +kernel
theorem dX5_noise_16 : decode cX5_noise 16 = .ok (.aload_n 0, 1) := by decide +kernel
theorem dX5_noise_17 : decode cX5_noise 17 = .ok (.iload_n 1, 1) := by decide +kernel
theorem dX5_noise_18 : decode cX5_noise 18 = .ok (.iload_n 2, 1) := by decide +kernel
theorem dX5_noise_19 : decode cX5_noise 19 = .ok (.invokevirtual 107, 3) := by decide +kernel
theorem dX5_noise_22 : decode cX5_noise 22 = .ok (.goto 4, 3) := by decide +kernel
theorem dX5_noise_25 : decode cX5_noise 25 = .ok (.iconst (-1), 1) := by decide +kernel
theorem dX5_noise_26 : decode cX5_noise 26 = .ok (.ireturn, 1) := by decide +kernel
theorem dX5_costOf_0 : decode cX5_costOf 0 = .ok (.iconst 0, 1) := by decide +kernel
theorem dX5_costOf_1 : decode cX5_costOf 1 = .ok (.istore_n 2, 1) := by decide +kernel
theorem dX5_costOf_2 : decode cX5_costOf 2 = .ok (.iconst 0, 1) := by decide +kernel
theorem dX5_costOf_3 : decode cX5_costOf 3 = .ok (.istore_n 3, 1) := by decide +kernel
theorem dX5_costOf_4 : decode cX5_costOf 4 = .ok (.iload_n 3, 1) := by decide +kernel
theorem dX5_costOf_5 : decode cX5_costOf 5 = .ok (.aload_n 0, 1) := by decide +kernel
theorem dX5_costOf_6 : decode cX5_costOf 6 = .ok (.getfield 64, 3) := by decide +kernel
theorem dX5_costOf_9 : decode cX5_costOf 9 = .ok (.if_icmp .ge 81, 3) := by decide +kernel
theorem dX5_costOf_12 : decode cX5_costOf 12 = .ok (.iconst 0, 1) := by decide +kernel
theorem dX5_costOf_13 : decode cX5_costOf 13 = .ok (.istore 4, 2) := by decide +kernel
theorem dX5_costOf_15 : decode cX5_costOf 15 = .ok (.iload 4, 2) := by decide +kernel
theorem dX5_costOf_17 : decode cX5_costOf 17 = .ok (.iload_n 3, 1) := by decide +kernel
theorem dX5_costOf_18 : decode cX5_costOf 18 = .ok (.if_icmp .ge 45, 3) := by decide +kernel
theorem dX5_costOf_21 : decode cX5_costOf 21 = .ok (.aload_n 1, 1) := by decide +kernel
theorem dX5_costOf_22 : decode cX5_costOf 22 = .ok (.iload_n 3, 1) := by decide +kernel
theorem dX5_costOf_23 : decode cX5_costOf 23 = .ok (.iaload, 1) := by decide +kernel
theorem dX5_costOf_24 : decode cX5_costOf 24 = .ok (.ifCond .lt 39, 3) := by decide +kernel
theorem dX5_costOf_27 : decode cX5_costOf 27 = .ok (.iload_n 2, 1) := by decide +kernel
theorem dX5_costOf_28 : decode cX5_costOf 28 = .ok (.aload_n 1, 1) := by decide +kernel
theorem dX5_costOf_29 : decode cX5_costOf 29 = .ok (.iload 4, 2) := by decide +kernel
theorem dX5_costOf_31 : decode cX5_costOf 31 = .ok (.iaload, 1) := by decide +kernel
theorem dX5_costOf_32 : decode cX5_costOf 32 = .ok (.ifCond .ge 7, 3) := by decide +kernel
theorem dX5_costOf_35 : decode cX5_costOf 35 = .ok (.iconst 0, 1) := by decide +kernel
theorem dX5_costOf_36 : decode cX5_costOf 36 = .ok (.goto 19, 3) := by decide +kernel
theorem dX5_costOf_39 : decode cX5_costOf 39 = .ok (.aload_n 0, 1) := by decide +kernel
theorem dX5_costOf_40 : decode cX5_costOf 40 = .ok (.getfield 52, 3) := by decide +kernel
theorem dX5_costOf_43 : decode cX5_costOf 43 = .ok (.bipush 16, 2) := by decide +kernel
theorem dX5_costOf_45 : decode cX5_costOf 45 = .ok (.aload_n 1, 1) := by decide +kernel
theorem dX5_costOf_46 : decode cX5_costOf 46 = .ok (.iload_n 3, 1) := by decide +kernel
theorem dX5_costOf_47 : decode cX5_costOf 47 = .ok (.iaload, 1) := by decide +kernel
theorem dX5_costOf_48 : decode cX5_costOf 48 = .ok (.imul, 1) := by decide +kernel
theorem dX5_costOf_49 : decode cX5_costOf 49 = .ok (.aload_n 1, 1) := by decide +kernel
theorem dX5_costOf_50 : decode cX5_costOf 50 = .ok (.iload 4, 2) := by decide +kernel
theorem dX5_costOf_52 : decode cX5_costOf 52 = .ok (.iaload, 1) := by decide +kernel
theorem dX5_costOf_53 : decode cX5_costOf 53 = .ok (.iadd, 1) := by decide +kernel
theorem dX5_costOf_54 : decode cX5_costOf 54 = .ok (.iaload, 1) := by decide +kernel
theorem dX5_costOf_55 : decode cX5_costOf 55 = .ok (.iadd, 1) := by decide +kernel
theorem dX5_costOf_56 : decode cX5_costOf 56 = .ok (.istore_n 2, 1) := by decide +kernel
theorem dX5_costOf_57 : decode cX5_costOf 57 = .ok (.iinc 4 1, 3) := by decide +kernel
theorem dX5_costOf_60 : decode cX5_costOf 60 = .ok (.goto (-45), 3) := by decide +kernel
theorem dX5_costOf_63 : decode cX5_costOf 63 = .ok (.iload_n 2, 1) := by decide +kernel
theorem dX5_costOf_64 : decode cX5_costOf 64 = .ok (.aload_n 1, 1) := by decide +kernel
theorem dX5_costOf_65 : decode cX5_costOf 65 = .ok (.iload_n 3, 1) := by decide +kernel
theorem dX5_costOf_66 : decode cX5_costOf 66 = .ok (.iaload, 1) := by decide +kernel
theorem dX5_costOf_67 : decode cX5_costOf 67 = .ok (.ifCond .ge 7, 3) := by decide +kernel
theorem dX5_costOf_70 : decode cX5_costOf 70 = .ok (.iconst 0, 1) := by decide +kernel
theorem dX5_costOf_71 : decode cX5_costOf 71 = .ok (.goto 11, 3) := by decide +kernel
theorem dX5_costOf_74 : decode cX5_costOf 74 = .ok (.aload_n 0, 1) := by decide +kernel
theorem dX5_costOf_75 : decode cX5_costOf 75 = .ok (.getfield 31, 3) := by decide +kernel
theorem dX5_costOf_78 : decode cX5_costOf 78 = .ok (.aload_n 1, 1) := by decide +kernel
theorem dX5_costOf_79 : decode cX5_costOf 79 = .ok (.iload_n 3, 1) := by decide +kernel
theorem dX5_costOf_80 : decode cX5_costOf 80 = .ok (.iaload, 1) := by decide +kernel
theorem dX5_costOf_81 : decode cX5_costOf 81 = .ok (.iaload, 1) := by decide +kernel
theorem dX5_costOf_82 : decode cX5_costOf 82 = .ok (.iadd, 1) := by decide +kernel
theorem dX5_costOf_83 : decode cX5_costOf 83 = .ok (.istore_n 2, 1) := by decide +kernel
theorem dX5_costOf_84 : decode cX5_costOf 84 = .ok (.iinc 3 1, 3) := by decide +kernel
theorem dX5_costOf_87 : decode cX5_costOf 87 = .ok (.goto (-83), 3) := by decide +kernel
theorem dX5_costOf_90 : decode cX5_costOf 90 = .ok (.iload_n 2, 1) := by decide +kernel
theorem dX5_costOf_91 : decode cX5_costOf 91 = .ok (.ireturn, 1) := by decide +kernel
theorem dX5_findNoises_0 : decode cX5_findNoises 0 = .ok (.iconst 0, 1) := by decide +kernel
theorem dX5_findNoises_1 : decode cX5_findNoises 1 = .ok (.istore_n 1, 1) := by decide +kernel
theorem dX5_findNoises_2 : decode cX5_findNoises 2 = .ok (.iload_n 1, 1) := by decide +kernel
theorem dX5_findNoises_3 : decode cX5_findNoises 3 = .ok (.aload_n 0, 1) := by decide +kernel
theorem dX5_findNoises_4 : decode cX5_findNoises 4 = .ok (.getfield 75, 3) := by decide +kernel
theorem dX5_findNoises_7 : decode cX5_findNoises 7 = .ok (.if_icmp .ge 42, 3) := by decide +kernel
theorem dX5_findNoises_10 : decode cX5_findNoises 10 = .ok (.iconst 0, 1) := by decide +kernel
theorem dX5_findNoises_11 : decode cX5_findNoises 11 = .ok (.istore_n 2, 1) := by decide +kernel
theorem dX5_findNoises_12 : decode cX5_findNoises 12 = .ok (.iload_n 2, 1) := by decide +kernel
theorem dX5_findNoises_13 : decode cX5_findNoises 13 = .ok (.aload_n 0, 1) := by decide +kernel
theorem dX5_findNoises_14 : decode cX5_findNoises 14 = .ok (.getfield 75, 3) := by decide +kernel
theorem dX5_findNoises_17 : decode cX5_findNoises 17 = .ok (.if_icmp .ge 26, 3) := by decide +kernel
theorem dX5_findNoises_20 : decode cX5_findNoises 20 = .ok (.aload_n 0, 1) := by decide +kernel
theorem dX5_findNoises_21 : decode cX5_findNoises 21 = .ok (.getfield 52, 3) := by decide +kernel
theorem dX5_findNoises_24 : decode cX5_findNoises 24 = .ok (.bipush 16, 2) := by decide +kernel
theorem dX5_findNoises_26 : decode cX5_findNoises 26 = .ok (.iload_n 1, 1) := by decide +kernel
theorem dX5_findNoises_27 : decode cX5_findNoises 27 = .ok (.imul, 1) := by decide +kernel
theorem dX5_findNoises_28 : decode cX5_findNoises 28 = .ok (.iload_n 2, 1) := by decide +kernel
theorem dX5_findNoises_29 : decode cX5_findNoises 29 = .ok (.iadd, 1) := by decide +kernel
theorem dX5_findNoises_30 : decode cX5_findNoises 30 = .ok (.aload_n 0, 1) := by decide +kernel
theorem dX5_findNoises_31 : decode cX5_findNoises 31 = .ok (.iload_n 1, 1) := by decide +kernel
theorem dX5_findNoises_32 : decode cX5_findNoises 32 = .ok (.iload_n 2, 1) := by decide +kernel
theorem dX5_findNoises_33 : decode cX5_findNoises 33 = .ok (.invokevirtual 107, 3) := by decide +kernel
theorem dX5_findNoises_36 : decode cX5_findNoises 36 = .ok (.iastore, 1) := by decide +kernel
theorem dX5_findNoises_37 : decode cX5_findNoises 37 = .ok (.iinc 2 1, 3) := by decide +kernel
theorem dX5_findNoises_40 : decode cX5_findNoises 40 = .ok (.goto (-28), 3) := by decide +kernel
theorem dX5_findNoises_43 : decode cX5_findNoises 43 = .ok (.iinc 1 1, 3) := by decide +kernel
theorem dX5_findNoises_46 : decode cX5_findNoises 46 = .ok (.goto (-44), 3) := by decide +kernel
theorem dX5_findNoises_49 : decode cX5_findNoises 49 = .ok (.return_, 1) := by decide +kernel
theorem dX5_nextTake_0 : decode cX5_nextTake 0 = .ok (.iload_n 2, 1) := by decide +kernel
theorem dX5_nextTake_1 : decode cX5_nextTake 1 = .ok (.iconst 1, 1) := by decide +kernel
theorem dX5_nextTake_2 : decode cX5_nextTake 2 = .ok (.iadd, 1) := by decide +kernel
theorem dX5_nextTake_3 : decode cX5_nextTake 3 = .ok (.istore_n 3, 1) := by decide +kernel
theorem dX5_nextTake_4 : decode cX5_nextTake 4 = .ok (.iload_n 3, 1) := by decide +kernel
theorem dX5_nextTake_5 : decode cX5_nextTake 5 = .ok (.aload_n 0, 1) := by decide +kernel
theorem dX5_nextTake_6 : decode cX5_nextTake 6 = .ok (.getfield 75, 3) := by decide +kernel
theorem dX5_nextTake_9 : decode cX5_nextTake 9 = .ok (.if_icmp .ge 21, 3) := by decide +kernel
theorem dX5_nextTake_12 : decode cX5_nextTake 12 = .ok (.aload_n 0, 1) := by decide +kernel
theorem dX5_nextTake_13 : decode cX5_nextTake 13 = .ok (.getfield 28, 3) := by decide +kernel
theorem dX5_nextTake_16 : decode cX5_nextTake 16 = .ok (.iload_n 3, 1) := by decide +kernel
theorem dX5_nextTake_17 : decode cX5_nextTake 17 = .ok (.iaload, 1) := by decide +kernel
theorem dX5_nextTake_18 : decode cX5_nextTake 18 = .ok (.iload_n 1, 1) := by decide +kernel
theorem dX5_nextTake_19 : decode cX5_nextTake 19 = .ok (.if_icmp .ne 5, 3) := by decide +kernel
theorem dX5_nextTake_22 : decode cX5_nextTake 22 = .ok (.iload_n 3, 1) := by decide +kernel
theorem dX5_nextTake_23 : decode cX5_nextTake 23 = .ok (.ireturn, 1) := by decide +kernel
theorem dX5_nextTake_24 : decode cX5_nextTake 24 = .ok (.iinc 3 1, 3) := by decide +kernel
theorem dX5_nextTake_27 : decode cX5_nextTake 27 = .ok (.goto (-23), 3) := by decide +kernel
theorem dX5_nextTake_30 : decode cX5_nextTake 30 = .ok (.iconst (-1), 1) := by decide +kernel
theorem dX5_nextTake_31 : decode cX5_nextTake 31 = .ok (.ireturn, 1) := by decide +kernel
theorem dX5_findCut_0 : decode cX5_findCut 0 = .ok (.aload_n 0, 1) := by decide +kernel
theorem dX5_findCut_1 : decode cX5_findCut 1 = .ok (.invokevirtual 111, 3) := by decide +kernel
theorem dX5_findCut_4 : decode cX5_findCut 4 = .ok (.iconst 0, 1) := by decide +kernel
theorem dX5_findCut_5 : decode cX5_findCut 5 = .ok (.istore_n 1, 1) := by decide +kernel
theorem dX5_findCut_6 : decode cX5_findCut 6 = .ok (.iload_n 1, 1) := by decide +kernel
theorem dX5_findCut_7 : decode cX5_findCut 7 = .ok (.aload_n 0, 1) := by decide +kernel
theorem dX5_findCut_8 : decode cX5_findCut 8 = .ok (.getfield 64, 3) := by decide +kernel
theorem dX5_findCut_11 : decode cX5_findCut 11 = .ok (.if_icmp .ge 21, 3) := by decide +kernel
theorem dX5_findCut_14 : decode cX5_findCut 14 = .ok (.aload_n 0, 1) := by decide +kernel
theorem dX5_findCut_15 : decode cX5_findCut 15 = .ok (.getfield 46, 3) := by decide +kernel
theorem dX5_findCut_18 : decode cX5_findCut 18 = .ok (.iload_n 1, 1) := by decide +kernel
theorem dX5_findCut_19 : decode cX5_findCut 19 = .ok (.aload_n 0, 1) := by decide +kernel
theorem dX5_findCut_20 : decode cX5_findCut 20 = .ok (.iload_n 1, 1) := by decide +kernel
theorem dX5_findCut_21 : decode cX5_findCut 21 = .ok (.iconst (-1), 1) := by decide +kernel
theorem dX5_findCut_22 : decode cX5_findCut 22 = .ok (.invokevirtual 114, 3) := by decide +kernel
theorem dX5_findCut_25 : decode cX5_findCut 25 = .ok (.iastore, 1) := by decide +kernel
theorem dX5_findCut_26 : decode cX5_findCut 26 = .ok (.iinc 1 1, 3) := by decide +kernel
theorem dX5_findCut_29 : decode cX5_findCut 29 = .ok (.goto (-23), 3) := by decide +kernel
theorem dX5_findCut_32 : decode cX5_findCut 32 = .ok (.aload_n 0, 1) := by decide +kernel
theorem dX5_findCut_33 : decode cX5_findCut 33 = .ok (.iconst (-1), 1) := by decide +kernel
theorem dX5_findCut_34 : decode cX5_findCut 34 = .ok (.putfield 117, 3) := by decide +kernel
theorem dX5_findCut_37 : decode cX5_findCut 37 = .ok (.iconst 1, 1) := by decide +kernel
theorem dX5_findCut_38 : decode cX5_findCut 38 = .ok (.istore_n 1, 1) := by decide +kernel
theorem dX5_findCut_39 : decode cX5_findCut 39 = .ok (.iload_n 1, 1) := by decide +kernel
theorem dX5_findCut_40 : decode cX5_findCut 40 = .ok (.ifCond .eq 146, 3) := by decide +kernel
theorem dX5_findCut_43 : decode cX5_findCut 43 = .ok (.aload_n 0, 1) := by decide +kernel
theorem dX5_findCut_44 : decode cX5_findCut 44 = .ok (.aload_n 0, 1) := by decide +kernel
theorem dX5_findCut_45 : decode cX5_findCut 45 = .ok (.getfield 46, 3) := by decide +kernel
theorem dX5_findCut_48 : decode cX5_findCut 48 = .ok (.invokevirtual 120, 3) := by decide +kernel
theorem dX5_findCut_51 : decode cX5_findCut 51 = .ok (.istore_n 2, 1) := by decide +kernel
theorem dX5_findCut_52 : decode cX5_findCut 52 = .ok (.aload_n 0, 1) := by decide +kernel
theorem dX5_findCut_53 : decode cX5_findCut 53 = .ok (.getfield 117, 3) := by decide +kernel
theorem dX5_findCut_56 : decode cX5_findCut 56 = .ok (.ifCond .lt 11, 3) := by decide +kernel
theorem dX5_findCut_59 : decode cX5_findCut 59 = .ok (.iload_n 2, 1) := by decide +kernel
theorem dX5_findCut_60 : decode cX5_findCut 60 = .ok (.aload_n 0, 1) := by decide +kernel
theorem dX5_findCut_61 : decode cX5_findCut 61 = .ok (.getfield 117, 3) := by decide +kernel
theorem dX5_findCut_64 : decode cX5_findCut 64 = .ok (.if_icmp .ge 36, 3) := by decide +kernel
theorem dX5_findCut_67 : decode cX5_findCut 67 = .ok (.aload_n 0, 1) := by decide +kernel
theorem dX5_findCut_68 : decode cX5_findCut 68 = .ok (.iload_n 2, 1) := by decide +kernel
theorem dX5_findCut_69 : decode cX5_findCut 69 = .ok (.putfield 117, 3) := by decide +kernel
theorem dX5_findCut_72 : decode cX5_findCut 72 = .ok (.iconst 0, 1) := by decide +kernel
theorem dX5_findCut_73 : decode cX5_findCut 73 = .ok (.istore_n 3, 1) := by decide +kernel
theorem dX5_findCut_74 : decode cX5_findCut 74 = .ok (.iload_n 3, 1) := by decide +kernel
theorem dX5_findCut_75 : decode cX5_findCut 75 = .ok (.aload_n 0, 1) := by decide +kernel
theorem dX5_findCut_76 : decode cX5_findCut 76 = .ok (.getfield 64, 3) := by decide +kernel
theorem dX5_findCut_79 : decode cX5_findCut 79 = .ok (.if_icmp .ge 21, 3) := by decide +kernel
theorem dX5_findCut_82 : decode cX5_findCut 82 = .ok (.aload_n 0, 1) := by decide +kernel
theorem dX5_findCut_83 : decode cX5_findCut 83 = .ok (.getfield 49, 3) := by decide +kernel
theorem dX5_findCut_86 : decode cX5_findCut 86 = .ok (.iload_n 3, 1) := by decide +kernel
theorem dX5_findCut_87 : decode cX5_findCut 87 = .ok (.aload_n 0, 1) := by decide +kernel
theorem dX5_findCut_88 : decode cX5_findCut 88 = .ok (.getfield 46, 3) := by decide +kernel
theorem dX5_findCut_91 : decode cX5_findCut 91 = .ok (.iload_n 3, 1) := by decide +kernel
theorem dX5_findCut_92 : decode cX5_findCut 92 = .ok (.iaload, 1) := by decide +kernel
theorem dX5_findCut_93 : decode cX5_findCut 93 = .ok (.iastore, 1) := by decide +kernel
theorem dX5_findCut_94 : decode cX5_findCut 94 = .ok (.iinc 3 1, 3) := by decide +kernel
theorem dX5_findCut_97 : decode cX5_findCut 97 = .ok (.goto (-23), 3) := by decide +kernel
theorem dX5_findCut_100 : decode cX5_findCut 100 = .ok (.aload_n 0, 1) := by decide +kernel
theorem dX5_findCut_101 : decode cX5_findCut 101 = .ok (.getfield 64, 3) := by decide +kernel
theorem dX5_findCut_104 : decode cX5_findCut 104 = .ok (.iconst 1, 1) := by decide +kernel
theorem dX5_findCut_105 : decode cX5_findCut 105 = .ok (.isub, 1) := by decide +kernel
theorem dX5_findCut_106 : decode cX5_findCut 106 = .ok (.istore_n 3, 1) := by decide +kernel
theorem dX5_findCut_107 : decode cX5_findCut 107 = .ok (.iload_n 3, 1) := by decide +kernel
theorem dX5_findCut_108 : decode cX5_findCut 108 = .ok (.ifCond .lt 44, 3) := by decide +kernel
theorem dX5_findCut_111 : decode cX5_findCut 111 = .ok (.aload_n 0, 1) := by decide +kernel
theorem dX5_findCut_112 : decode cX5_findCut 112 = .ok (.getfield 46, 3) := by decide +kernel
theorem dX5_findCut_115 : decode cX5_findCut 115 = .ok (.iload_n 3, 1) := by decide +kernel
theorem dX5_findCut_116 : decode cX5_findCut 116 = .ok (.iaload, 1) := by decide +kernel
theorem dX5_findCut_117 : decode cX5_findCut 117 = .ok (.ifCond .lt 17, 3) := by decide +kernel
theorem dX5_findCut_120 : decode cX5_findCut 120 = .ok (.aload_n 0, 1) := by decide +kernel
theorem dX5_findCut_121 : decode cX5_findCut 121 = .ok (.iload_n 3, 1) := by decide +kernel
theorem dX5_findCut_122 : decode cX5_findCut 122 = .ok (.aload_n 0, 1) := by decide +kernel
theorem dX5_findCut_123 : decode cX5_findCut 123 = .ok (.getfield 46, 3) := by decide +kernel
theorem dX5_findCut_126 : decode cX5_findCut 126 = .ok (.iload_n 3, 1) := by decide +kernel
theorem dX5_findCut_127 : decode cX5_findCut 127 = .ok (.iaload, 1) := by decide +kernel
theorem dX5_findCut_128 : decode cX5_findCut 128 = .ok (.invokevirtual 114, 3) := by decide +kernel
theorem dX5_findCut_131 : decode cX5_findCut 131 = .ok (.ifCond .ge 21, 3) := by decide +kernel
theorem dX5_findCut_134 : decode cX5_findCut 134 = .ok (.aload_n 0, 1) := by decide +kernel
theorem dX5_findCut_135 : decode cX5_findCut 135 = .ok (.getfield 46, 3) := by decide +kernel
theorem dX5_findCut_138 : decode cX5_findCut 138 = .ok (.iload_n 3, 1) := by decide +kernel
theorem dX5_findCut_139 : decode cX5_findCut 139 = .ok (.aload_n 0, 1) := by decide +kernel
theorem dX5_findCut_140 : decode cX5_findCut 140 = .ok (.iload_n 3, 1) := by decide +kernel
theorem dX5_findCut_141 : decode cX5_findCut 141 = .ok (.iconst (-1), 1) := by decide +kernel
theorem dX5_findCut_142 : decode cX5_findCut 142 = .ok (.invokevirtual 114, 3) := by decide +kernel
theorem dX5_findCut_145 : decode cX5_findCut 145 = .ok (.iastore, 1) := by decide +kernel
theorem dX5_findCut_146 : decode cX5_findCut 146 = .ok (.iinc 3 (-1), 3) := by decide +kernel
theorem dX5_findCut_149 : decode cX5_findCut 149 = .ok (.goto (-42), 3) := by decide +kernel
theorem dX5_findCut_152 : decode cX5_findCut 152 = .ok (.iload_n 3, 1) := by decide +kernel
theorem dX5_findCut_153 : decode cX5_findCut 153 = .ok (.ifCond .lt 7, 3) := by decide +kernel
theorem dX5_findCut_156 : decode cX5_findCut 156 = .ok (.iconst 1, 1) := by decide +kernel
theorem dX5_findCut_157 : decode cX5_findCut 157 = .ok (.goto 4, 3) := by decide +kernel
theorem dX5_findCut_160 : decode cX5_findCut 160 = .ok (.iconst 0, 1) := by decide +kernel
theorem dX5_findCut_161 : decode cX5_findCut 161 = .ok (.istore_n 1, 1) := by decide +kernel
theorem dX5_findCut_162 : decode cX5_findCut 162 = .ok (.iload_n 1, 1) := by decide +kernel
theorem dX5_findCut_163 : decode cX5_findCut 163 = .ok (.ifCond .eq 20, 3) := by decide +kernel
theorem dX5_findCut_166 : decode cX5_findCut 166 = .ok (.aload_n 0, 1) := by decide +kernel
theorem dX5_findCut_167 : decode cX5_findCut 167 = .ok (.getfield 46, 3) := by decide +kernel
theorem dX5_findCut_170 : decode cX5_findCut 170 = .ok (.iload_n 3, 1) := by decide +kernel
theorem dX5_findCut_171 : decode cX5_findCut 171 = .ok (.aload_n 0, 1) := by decide +kernel
theorem dX5_findCut_172 : decode cX5_findCut 172 = .ok (.iload_n 3, 1) := by decide +kernel
theorem dX5_findCut_173 : decode cX5_findCut 173 = .ok (.aload_n 0, 1) := by decide +kernel
theorem dX5_findCut_174 : decode cX5_findCut 174 = .ok (.getfield 46, 3) := by decide +kernel
