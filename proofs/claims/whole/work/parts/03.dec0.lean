theorem dX0_init_0 : decode cX0_init 0 = .ok (.aload_n 0, 1) := by decide +kernel
theorem dX0_init_1 : decode cX0_init 1 = .ok (.invokespecial 3, 3) := by decide +kernel
theorem dX0_init_4 : decode cX0_init 4 = .ok (.aload_n 0, 1) := by decide +kernel
theorem dX0_init_5 : decode cX0_init 5 = .ok (.iconst 0, 1) := by decide +kernel
theorem dX0_init_6 : decode cX0_init 6 = .ok (.putfield 9, 3) := by decide +kernel
theorem dX0_init_9 : decode cX0_init 9 = .ok (.aload_n 0, 1) := by decide +kernel
theorem dX0_init_10 : decode cX0_init 10 = .ok (.bipush 6, 2) := by decide +kernel
theorem dX0_init_12 : decode cX0_init 12 = .ok (.newarray .int, 2) := by decide +kernel
theorem dX0_init_14 : decode cX0_init 14 = .ok (.putfield 15, 3) := by decide +kernel
theorem dX0_init_17 : decode cX0_init 17 = .ok (.aload_n 0, 1) := by decide +kernel
theorem dX0_init_18 : decode cX0_init 18 = .ok (.bipush 6, 2) := by decide +kernel
theorem dX0_init_20 : decode cX0_init 20 = .ok (.newarray .int, 2) := by decide +kernel
theorem dX0_init_22 : decode cX0_init 22 = .ok (.putfield 19, 3) := by decide +kernel
theorem dX0_init_25 : decode cX0_init 25 = .ok (.aload_n 0, 1) := by decide +kernel
theorem dX0_init_26 : decode cX0_init 26 = .ok (.sipush 256, 3) := by decide +kernel
theorem dX0_init_29 : decode cX0_init 29 = .ok (.newarray .int, 2) := by decide +kernel
theorem dX0_init_31 : decode cX0_init 31 = .ok (.putfield 22, 3) := by decide +kernel
theorem dX0_init_34 : decode cX0_init 34 = .ok (.return_, 1) := by decide +kernel
theorem dX0_find_0 : decode cX0_find 0 = .ok (.aload_n 0, 1) := by decide +kernel
theorem dX0_find_1 : decode cX0_find 1 = .ok (.aload_n 1, 1) := by decide +kernel
theorem dX0_find_2 : decode cX0_find 2 = .ok (.invokevirtual 25, 3) := by decide +kernel
theorem dX0_find_5 : decode cX0_find 5 = .ok (.aload_n 0, 1) := by decide +kernel
theorem dX0_find_6 : decode cX0_find 6 = .ok (.ldc 29, 2) := by decide +kernel
theorem dX0_find_8 : decode cX0_find 8 = .ok (.putfield 9, 3) := by decide +kernel
theorem dX0_find_11 : decode cX0_find 11 = .ok (.aload_n 0, 1) := by decide +kernel
theorem dX0_find_12 : decode cX0_find 12 = .ok (.aload_n 1, 1) := by decide +kernel
theorem dX0_find_13 : decode cX0_find 13 = .ok (.iconst 0, 1) := by decide +kernel
theorem dX0_find_14 : decode cX0_find 14 = .ok (.iconst 0, 1) := by decide +kernel
theorem dX0_find_15 : decode cX0_find 15 = .ok (.invokestatic 30, 3) := by decide +kernel
theorem dX0_find_18 : decode cX0_find 18 = .ok (.return_, 1) := by decide +kernel
theorem dX0_reckonNoises_0 : decode cX0_reckonNoises 0 = .ok (.iconst 0, 1) := by decide +kernel
theorem dX0_reckonNoises_1 : decode cX0_reckonNoises 1 = .ok (.istore_n 2, 1) := by decide +kernel
theorem dX0_reckonNoises_2 : decode cX0_reckonNoises 2 = .ok (.iload_n 2, 1) := by decide +kernel
theorem dX0_reckonNoises_3 : decode cX0_reckonNoises 3 = .ok (.aload_n 1, 1) := by decide +kernel
theorem dX0_reckonNoises_4 : decode cX0_reckonNoises 4 = .ok (.getfield 34, 3) := by decide +kernel
theorem dX0_reckonNoises_7 : decode cX0_reckonNoises 7 = .ok (.if_icmp .ge 56, 3) := by decide +kernel
theorem dX0_reckonNoises_10 : decode cX0_reckonNoises 10 = .ok (.iconst 0, 1) := by decide +kernel
theorem dX0_reckonNoises_11 : decode cX0_reckonNoises 11 = .ok (.istore_n 3, 1) := by decide +kernel
theorem dX0_reckonNoises_12 : decode cX0_reckonNoises 12 = .ok (.iload_n 3, 1) := by decide +kernel
theorem dX0_reckonNoises_13 : decode cX0_reckonNoises 13 = .ok (.iload_n 2, 1) := by decide +kernel
theorem dX0_reckonNoises_14 : decode cX0_reckonNoises 14 = .ok (.if_icmp .ge 43, 3) := by decide +kernel
theorem dX0_reckonNoises_17 : decode cX0_reckonNoises 17 = .ok (.aload_n 1, 1) := by decide +kernel
theorem dX0_reckonNoises_18 : decode cX0_reckonNoises 18 = .ok (.iload_n 2, 1) := by decide +kernel
theorem dX0_reckonNoises_19 : decode cX0_reckonNoises 19 = .ok (.iload_n 3, 1) := by decide +kernel
theorem dX0_reckonNoises_20 : decode cX0_reckonNoises 20 = .ok (.invokevirtual 39, 3) := by decide +kernel
theorem dX0_reckonNoises_23 : decode cX0_reckonNoises 23 = .ok (.istore 4, 2) := by decide +kernel
theorem dX0_reckonNoises_25 : decode cX0_reckonNoises 25 = .ok (.aload_n 0, 1) := by decide +kernel
theorem dX0_reckonNoises_26 : decode cX0_reckonNoises 26 = .ok (.getfield 22, 3) := by decide +kernel
theorem dX0_reckonNoises_29 : decode cX0_reckonNoises 29 = .ok (.iload_n 2, 1) := by decide +kernel
theorem dX0_reckonNoises_30 : decode cX0_reckonNoises 30 = .ok (.bipush 16, 2) := by decide +kernel
theorem dX0_reckonNoises_32 : decode cX0_reckonNoises 32 = .ok (.imul, 1) := by decide +kernel
theorem dX0_reckonNoises_33 : decode cX0_reckonNoises 33 = .ok (.iload_n 3, 1) := by decide +kernel
theorem dX0_reckonNoises_34 : decode cX0_reckonNoises 34 = .ok (.iadd, 1) := by decide +kernel
theorem dX0_reckonNoises_35 : decode cX0_reckonNoises 35 = .ok (.iload 4, 2) := by decide +kernel
theorem dX0_reckonNoises_37 : decode cX0_reckonNoises 37 = .ok (.iastore, 1) := by decide +kernel
theorem dX0_reckonNoises_38 : decode cX0_reckonNoises 38 = .ok (.aload_n 0, 1) := by decide +kernel
theorem dX0_reckonNoises_39 : decode cX0_reckonNoises 39 = .ok (.getfield 22, 3) := by decide +kernel
theorem dX0_reckonNoises_42 : decode cX0_reckonNoises 42 = .ok (.iload_n 3, 1) := by decide +kernel
theorem dX0_reckonNoises_43 : decode cX0_reckonNoises 43 = .ok (.bipush 16, 2) := by decide +kernel
theorem dX0_reckonNoises_45 : decode cX0_reckonNoises 45 = .ok (.imul, 1) := by decide +kernel
theorem dX0_reckonNoises_46 : decode cX0_reckonNoises 46 = .ok (.iload_n 2, 1) := by decide +kernel
theorem dX0_reckonNoises_47 : decode cX0_reckonNoises 47 = .ok (.iadd, 1) := by decide +kernel
theorem dX0_reckonNoises_48 : decode cX0_reckonNoises 48 = .ok (.iload 4, 2) := by decide +kernel
theorem dX0_reckonNoises_50 : decode cX0_reckonNoises 50 = .ok (.iastore, 1) := by decide +kernel
theorem dX0_reckonNoises_51 : decode cX0_reckonNoises 51 = .ok (.iinc 3 1, 3) := by decide +kernel
theorem dX0_reckonNoises_54 : decode cX0_reckonNoises 54 = .ok (.goto (-42), 3) := by decide +kernel
theorem dX0_reckonNoises_57 : decode cX0_reckonNoises 57 = .ok (.iinc 2 1, 3) := by decide +kernel
theorem dX0_reckonNoises_60 : decode cX0_reckonNoises 60 = .ok (.goto (-58), 3) := by decide +kernel
theorem dX0_reckonNoises_63 : decode cX0_reckonNoises 63 = .ok (.return_, 1) := by decide +kernel
theorem dX0_tryFrom_0 : decode cX0_tryFrom 0 = .ok (.iload_n 3, 1) := by decide +kernel
theorem dX0_tryFrom_1 : decode cX0_tryFrom 1 = .ok (.aload_n 0, 1) := by decide +kernel
theorem dX0_tryFrom_2 : decode cX0_tryFrom 2 = .ok (.getfield 9, 3) := by decide +kernel
theorem dX0_tryFrom_5 : decode cX0_tryFrom 5 = .ok (.if_icmp .lt 4, 3) := by decide +kernel
theorem dX0_tryFrom_8 : decode cX0_tryFrom 8 = .ok (.return_, 1) := by decide +kernel
theorem dX0_tryFrom_9 : decode cX0_tryFrom 9 = .ok (.iload_n 2, 1) := by decide +kernel
theorem dX0_tryFrom_10 : decode cX0_tryFrom 10 = .ok (.aload_n 1, 1) := by decide +kernel
theorem dX0_tryFrom_11 : decode cX0_tryFrom 11 = .ok (.getfield 43, 3) := by decide +kernel
theorem dX0_tryFrom_14 : decode cX0_tryFrom 14 = .ok (.if_icmp .ge 9, 3) := by decide +kernel
theorem dX0_tryFrom_17 : decode cX0_tryFrom 17 = .ok (.iload_n 2, 1) := by decide +kernel
theorem dX0_tryFrom_18 : decode cX0_tryFrom 18 = .ok (.bipush 6, 2) := by decide +kernel
theorem dX0_tryFrom_20 : decode cX0_tryFrom 20 = .ok (.if_icmp .lt 24, 3) := by decide +kernel
theorem dX0_tryFrom_23 : decode cX0_tryFrom 23 = .ok (.aload_n 0, 1) := by decide +kernel
theorem dX0_tryFrom_24 : decode cX0_tryFrom 24 = .ok (.iload_n 3, 1) := by decide +kernel
theorem dX0_tryFrom_25 : decode cX0_tryFrom 25 = .ok (.putfield 9, 3) := by decide +kernel
theorem dX0_tryFrom_28 : decode cX0_tryFrom 28 = .ok (.aload_n 0, 1) := by decide +kernel
theorem dX0_tryFrom_29 : decode cX0_tryFrom 29 = .ok (.getfield 19, 3) := by decide +kernel
theorem dX0_tryFrom_32 : decode cX0_tryFrom 32 = .ok (.iconst 0, 1) := by decide +kernel
theorem dX0_tryFrom_33 : decode cX0_tryFrom 33 = .ok (.aload_n 0, 1) := by decide +kernel
theorem dX0_tryFrom_34 : decode cX0_tryFrom 34 = .ok (.getfield 15, 3) := by decide +kernel
theorem dX0_tryFrom_37 : decode cX0_tryFrom 37 = .ok (.iconst 0, 1) := by decide +kernel
theorem dX0_tryFrom_38 : decode cX0_tryFrom 38 = .ok (.bipush 6, 2) := by decide +kernel
theorem dX0_tryFrom_40 : decode cX0_tryFrom 40 = .ok (.invokestatic 46, 3) := by decide +kernel
theorem dX0_tryFrom_43 : decode cX0_tryFrom 43 = .ok (.return_, 1) := by decide +kernel
theorem dX0_tryFrom_44 : decode cX0_tryFrom 44 = .ok (.iconst 0, 1) := by decide +kernel
theorem dX0_tryFrom_45 : decode cX0_tryFrom 45 = .ok (.istore 4, 2) := by decide +kernel
theorem dX0_tryFrom_47 : decode cX0_tryFrom 47 = .ok (.iconst 0, 1) := by decide +kernel
theorem dX0_tryFrom_48 : decode cX0_tryFrom 48 = .ok (.istore 5, 2) := by decide +kernel
theorem dX0_tryFrom_50 : decode cX0_tryFrom 50 = .ok (.iload 5, 2) := by decide +kernel
theorem dX0_tryFrom_52 : decode cX0_tryFrom 52 = .ok (.aload_n 1, 1) := by decide +kernel
theorem dX0_tryFrom_53 : decode cX0_tryFrom 53 = .ok (.getfield 34, 3) := by decide +kernel
theorem dX0_tryFrom_56 : decode cX0_tryFrom 56 = .ok (.if_icmp .ge 56, 3) := by decide +kernel
theorem dX0_tryFrom_59 : decode cX0_tryFrom 59 = .ok (.aload_n 1, 1) := by decide +kernel
theorem dX0_tryFrom_60 : decode cX0_tryFrom 60 = .ok (.getfield 52, 3) := by decide +kernel
theorem dX0_tryFrom_63 : decode cX0_tryFrom 63 = .ok (.iload 5, 2) := by decide +kernel
theorem dX0_tryFrom_65 : decode cX0_tryFrom 65 = .ok (.iaload, 1) := by decide +kernel
theorem dX0_tryFrom_66 : decode cX0_tryFrom 66 = .ok (.iload_n 2, 1) := by decide +kernel
theorem dX0_tryFrom_67 : decode cX0_tryFrom 67 = .ok (.if_icmp .ne 39, 3) := by decide +kernel
theorem dX0_tryFrom_70 : decode cX0_tryFrom 70 = .ok (.iconst 1, 1) := by decide +kernel
theorem dX0_tryFrom_71 : decode cX0_tryFrom 71 = .ok (.istore 4, 2) := by decide +kernel
theorem dX0_tryFrom_73 : decode cX0_tryFrom 73 = .ok (.aload_n 0, 1) := by decide +kernel
theorem dX0_tryFrom_74 : decode cX0_tryFrom 74 = .ok (.getfield 19, 3) := by decide +kernel
theorem dX0_tryFrom_77 : decode cX0_tryFrom 77 = .ok (.iload_n 2, 1) := by decide +kernel
theorem dX0_tryFrom_78 : decode cX0_tryFrom 78 = .ok (.iload 5, 2) := by decide +kernel
theorem dX0_tryFrom_80 : decode cX0_tryFrom 80 = .ok (.iastore, 1) := by decide +kernel
theorem dX0_tryFrom_81 : decode cX0_tryFrom 81 = .ok (.aload_n 0, 1) := by decide +kernel
theorem dX0_tryFrom_82 : decode cX0_tryFrom 82 = .ok (.aload_n 1, 1) := by decide +kernel
theorem dX0_tryFrom_83 : decode cX0_tryFrom 83 = .ok (.iload_n 2, 1) := by decide +kernel
theorem dX0_tryFrom_84 : decode cX0_tryFrom 84 = .ok (.iconst 1, 1) := by decide +kernel
theorem dX0_tryFrom_85 : decode cX0_tryFrom 85 = .ok (.iadd, 1) := by decide +kernel
theorem dX0_tryFrom_86 : decode cX0_tryFrom 86 = .ok (.iload_n 3, 1) := by decide +kernel
theorem dX0_tryFrom_87 : decode cX0_tryFrom 87 = .ok (.aload_n 1, 1) := by decide +kernel
theorem dX0_tryFrom_88 : decode cX0_tryFrom 88 = .ok (.getfield 55, 3) := by decide +kernel
theorem dX0_tryFrom_91 : decode cX0_tryFrom 91 = .ok (.iload 5, 2) := by decide +kernel
theorem dX0_tryFrom_93 : decode cX0_tryFrom 93 = .ok (.iaload, 1) := by decide +kernel
theorem dX0_tryFrom_94 : decode cX0_tryFrom 94 = .ok (.iadd, 1) := by decide +kernel
theorem dX0_tryFrom_95 : decode cX0_tryFrom 95 = .ok (.aload_n 0, 1) := by decide +kernel
theorem dX0_tryFrom_96 : decode cX0_tryFrom 96 = .ok (.iload_n 2, 1) := by decide +kernel
theorem dX0_tryFrom_97 : decode cX0_tryFrom 97 = .ok (.iload 5, 2) := by decide +kernel
theorem dX0_tryFrom_99 : decode cX0_tryFrom 99 = .ok (.invokevirtual 58, 3) := by decide +kernel
theorem dX0_tryFrom_102 : decode cX0_tryFrom 102 = .ok (.iadd, 1) := by decide +kernel
theorem dX0_tryFrom_103 : decode cX0_tryFrom 103 = .ok (.invokestatic 30, 3) := by decide +kernel
theorem dX0_tryFrom_106 : decode cX0_tryFrom 106 = .ok (.iinc 5 1, 3) := by decide +kernel
theorem dX0_tryFrom_109 : decode cX0_tryFrom 109 = .ok (.goto (-59), 3) := by decide +kernel
theorem dX0_tryFrom_112 : decode cX0_tryFrom 112 = .ok (.iload 4, 2) := by decide +kernel
theorem dX0_tryFrom_114 : decode cX0_tryFrom 114 = .ok (.ifCond .ne 19, 3) := by decide +kernel
theorem dX0_tryFrom_117 : decode cX0_tryFrom 117 = .ok (.aload_n 0, 1) := by decide +kernel
theorem dX0_tryFrom_118 : decode cX0_tryFrom 118 = .ok (.getfield 19, 3) := by decide +kernel
theorem dX0_tryFrom_121 : decode cX0_tryFrom 121 = .ok (.iload_n 2, 1) := by decide +kernel
theorem dX0_tryFrom_122 : decode cX0_tryFrom 122 = .ok (.iconst (-1), 1) := by decide +kernel
theorem dX0_tryFrom_123 : decode cX0_tryFrom 123 = .ok (.iastore, 1) := by decide +kernel
theorem dX0_tryFrom_124 : decode cX0_tryFrom 124 = .ok (.aload_n 0, 1) := by decide +kernel
theorem dX0_tryFrom_125 : decode cX0_tryFrom 125 = .ok (.aload_n 1, 1) := by decide +kernel
theorem dX0_tryFrom_126 : decode cX0_tryFrom 126 = .ok (.iload_n 2, 1) := by decide +kernel
theorem dX0_tryFrom_127 : decode cX0_tryFrom 127 = .ok (.iconst 1, 1) := by decide +kernel
theorem dX0_tryFrom_128 : decode cX0_tryFrom 128 = .ok (.iadd, 1) := by decide +kernel
theorem dX0_tryFrom_129 : decode cX0_tryFrom 129 = .ok (.iload_n 3, 1) := by decide +kernel
theorem dX0_tryFrom_130 : decode cX0_tryFrom 130 = .ok (.invokestatic 30, 3) := by decide +kernel
theorem dX0_tryFrom_133 : decode cX0_tryFrom 133 = .ok (.return_, 1) := by decide +kernel
theorem dX0_noiseWithEarlier_0 : decode cX0_noiseWithEarlier 0 = .ok (.iconst 0, 1) := by decide +kernel
theorem dX0_noiseWithEarlier_1 : decode cX0_noiseWithEarlier 1 = .ok (.istore_n 3, 1) := by decide +kernel
theorem dX0_noiseWithEarlier_2 : decode cX0_noiseWithEarlier 2 = .ok (.iconst 0, 1) := by decide +kernel
theorem dX0_noiseWithEarlier_3 : decode cX0_noiseWithEarlier 3 = .ok (.istore 4, 2) := by decide +kernel
theorem dX0_noiseWithEarlier_5 : decode cX0_noiseWithEarlier 5 = .ok (.iload 4, 2) := by decide +kernel
theorem dX0_noiseWithEarlier_7 : decode cX0_noiseWithEarlier 7 = .ok (.iload_n 1, 1) := by decide +kernel
theorem dX0_noiseWithEarlier_8 : decode cX0_noiseWithEarlier 8 = .ok (.if_icmp .ge 40, 3) := by decide +kernel
theorem dX0_noiseWithEarlier_11 : decode cX0_noiseWithEarlier 11 = .ok (.aload_n 0, 1) := by decide +kernel
theorem dX0_noiseWithEarlier_12 : decode cX0_noiseWithEarlier 12 = .ok (.getfield 19, 3) := by decide +kernel
theorem dX0_noiseWithEarlier_15 : decode cX0_noiseWithEarlier 15 = .ok (.iload 4, 2) := by decide +kernel
theorem dX0_noiseWithEarlier_17 : decode cX0_noiseWithEarlier 17 = .ok (.iaload, 1) := by decide +kernel
theorem dX0_noiseWithEarlier_18 : decode cX0_noiseWithEarlier 18 = .ok (.iconst (-1), 1) := by decide +kernel
theorem dX0_noiseWithEarlier_19 : decode cX0_noiseWithEarlier 19 = .ok (.if_icmp .eq 23, 3) := by decide +kernel
theorem dX0_noiseWithEarlier_22 : decode cX0_noiseWithEarlier 22 = .ok (.iload_n 3, 1) := by decide +kernel
theorem dX0_noiseWithEarlier_23 : decode cX0_noiseWithEarlier 23 = .ok (.aload_n 0, 1) := by decide +kernel
theorem dX0_noiseWithEarlier_24 : decode cX0_noiseWithEarlier 24 = .ok (.getfield 22, 3) := by decide +kernel
theorem dX0_noiseWithEarlier_27 : decode cX0_noiseWithEarlier 27 = .ok (.iload_n 2, 1) := by decide +kernel
theorem dX0_noiseWithEarlier_28 : decode cX0_noiseWithEarlier 28 = .ok (.bipush 16, 2) := by decide +kernel
theorem dX0_noiseWithEarlier_30 : decode cX0_noiseWithEarlier 30 = .ok (.imul, 1) := by decide +kernel
theorem dX0_noiseWithEarlier_31 : decode cX0_noiseWithEarlier 31 = .ok (.aload_n 0, 1) := by decide +kernel
theorem dX0_noiseWithEarlier_32 : decode cX0_noiseWithEarlier 32 = .ok (.getfield 19, 3) := by decide +kernel
theorem dX0_noiseWithEarlier_35 : decode cX0_noiseWithEarlier 35 = .ok (.iload 4, 2) := by decide +kernel
theorem dX0_noiseWithEarlier_37 : decode cX0_noiseWithEarlier 37 = .ok (.iaload, 1) := by decide +kernel
theorem dX0_noiseWithEarlier_38 : decode cX0_noiseWithEarlier 38 = .ok (.iadd, 1) := by decide +kernel
theorem dX0_noiseWithEarlier_39 : decode cX0_noiseWithEarlier 39 = .ok (.iaload, 1) := by decide +kernel
theorem dX0_noiseWithEarlier_40 : decode cX0_noiseWithEarlier 40 = .ok (.iadd, 1) := by decide +kernel
theorem dX0_noiseWithEarlier_41 : decode cX0_noiseWithEarlier 41 = .ok (.istore_n 3, 1) := by decide +kernel
theorem dX0_noiseWithEarlier_42 : decode cX0_noiseWithEarlier 42 = .ok (.iinc 4 1, 3) := by decide +kernel
theorem dX0_noiseWithEarlier_45 : decode cX0_noiseWithEarlier 45 = .ok (.goto (-40), 3) := by decide +kernel
theorem dX0_noiseWithEarlier_48 : decode cX0_noiseWithEarlier 48 = .ok (.iload_n 3, 1) := by decide +kernel
theorem dX0_noiseWithEarlier_49 : decode cX0_noiseWithEarlier 49 = .ok (.ireturn, 1) := by decide +kernel
theorem dX1_init_0 : decode cX1_init 0 = .ok (.aload_n 0, 1) := by decide +kernel
theorem dX1_init_1 : decode cX1_init 1 = .ok (.invokespecial 3, 3) := by decide +kernel
theorem dX1_init_4 : decode cX1_init 4 = .ok (.aload_n 0, 1) := by decide +kernel
theorem dX1_init_5 : decode cX1_init 5 = .ok (.bipush 6, 2) := by decide +kernel
theorem dX1_init_7 : decode cX1_init 7 = .ok (.newarray .int, 2) := by decide +kernel
theorem dX1_init_9 : decode cX1_init 9 = .ok (.putfield 9, 3) := by decide +kernel
theorem dX1_init_12 : decode cX1_init 12 = .ok (.return_, 1) := by decide +kernel
theorem dX1_find_0 : decode cX1_find 0 = .ok (.iconst 0, 1) := by decide +kernel
theorem dX1_find_1 : decode cX1_find 1 = .ok (.istore_n 2, 1) := by decide +kernel
theorem dX1_find_2 : decode cX1_find 2 = .ok (.iload_n 2, 1) := by decide +kernel
theorem dX1_find_3 : decode cX1_find 3 = .ok (.aload_n 1, 1) := by decide +kernel
theorem dX1_find_4 : decode cX1_find 4 = .ok (.getfield 15, 3) := by decide +kernel
theorem dX1_find_7 : decode cX1_find 7 = .ok (.if_icmp .ge 53, 3) := by decide +kernel
theorem dX1_find_10 : decode cX1_find 10 = .ok (.aload_n 0, 1) := by decide +kernel
theorem dX1_find_11 : decode cX1_find 11 = .ok (.getfield 9, 3) := by decide +kernel
theorem dX1_find_14 : decode cX1_find 14 = .ok (.iload_n 2, 1) := by decide +kernel
theorem dX1_find_15 : decode cX1_find 15 = .ok (.iconst 0, 1) := by decide +kernel
theorem dX1_find_16 : decode cX1_find 16 = .ok (.iastore, 1) := by decide +kernel
theorem dX1_find_17 : decode cX1_find 17 = .ok (.iconst 0, 1) := by decide +kernel
theorem dX1_find_18 : decode cX1_find 18 = .ok (.istore_n 3, 1) := by decide +kernel
theorem dX1_find_19 : decode cX1_find 19 = .ok (.iload_n 3, 1) := by decide +kernel
theorem dX1_find_20 : decode cX1_find 20 = .ok (.aload_n 1, 1) := by decide +kernel
theorem dX1_find_21 : decode cX1_find 21 = .ok (.getfield 15, 3) := by decide +kernel
theorem dX1_find_24 : decode cX1_find 24 = .ok (.if_icmp .ge 30, 3) := by decide +kernel
theorem dX1_find_27 : decode cX1_find 27 = .ok (.aload_n 1, 1) := by decide +kernel
theorem dX1_find_28 : decode cX1_find 28 = .ok (.iload_n 2, 1) := by decide +kernel
theorem dX1_find_29 : decode cX1_find 29 = .ok (.iload_n 3, 1) := by decide +kernel
theorem dX1_find_30 : decode cX1_find 30 = .ok (.invokevirtual 21, 3) := by decide +kernel
theorem dX1_find_33 : decode cX1_find 33 = .ok (.ifCond .le 15, 3) := by decide +kernel
theorem dX1_find_36 : decode cX1_find 36 = .ok (.aload_n 0, 1) := by decide +kernel
theorem dX1_find_37 : decode cX1_find 37 = .ok (.getfield 9, 3) := by decide +kernel
theorem dX1_find_40 : decode cX1_find 40 = .ok (.iload_n 2, 1) := by decide +kernel
theorem dX1_find_41 : decode cX1_find 41 = .ok (.dup2, 1) := by decide +kernel
theorem dX1_find_42 : decode cX1_find 42 = .ok (.iaload, 1) := by decide +kernel
theorem dX1_find_43 : decode cX1_find 43 = .ok (.iconst 1, 1) := by decide +kernel
theorem dX1_find_44 : decode cX1_find 44 = .ok (.iload_n 3, 1) := by decide +kernel
theorem dX1_find_45 : decode cX1_find 45 = .ok (.ishl, 1) := by decide +kernel
theorem dX1_find_46 : decode cX1_find 46 = .ok (.ior, 1) := by decide +kernel
theorem dX1_find_47 : decode cX1_find 47 = .ok (.iastore, 1) := by decide +kernel
theorem dX1_find_48 : decode cX1_find 48 = .ok (.iinc 3 1, 3) := by decide +kernel
theorem dX1_find_51 : decode cX1_find 51 = .ok (.goto (-32), 3) := by decide +kernel
theorem dX1_find_54 : decode cX1_find 54 = .ok (.iinc 2 1, 3) := by decide +kernel
theorem dX1_find_57 : decode cX1_find 57 = .ok (.goto (-55), 3) := by decide +kernel
theorem dX1_find_60 : decode cX1_find 60 = .ok (.return_, 1) := by decide +kernel
theorem dX1_leastReshoots_0 : decode cX1_leastReshoots 0 = .ok (.iconst 1, 1) := by decide +kernel
theorem dX1_leastReshoots_1 : decode cX1_leastReshoots 1 = .ok (.iload_n 1, 1) := by decide +kernel
theorem dX1_leastReshoots_2 : decode cX1_leastReshoots 2 = .ok (.ishl, 1) := by decide +kernel
theorem dX1_leastReshoots_3 : decode cX1_leastReshoots 3 = .ok (.iconst 1, 1) := by decide +kernel
theorem dX1_leastReshoots_4 : decode cX1_leastReshoots 4 = .ok (.isub, 1) := by decide +kernel
theorem dX1_leastReshoots_5 : decode cX1_leastReshoots 5 = .ok (.istore_n 2, 1) := by decide +kernel
theorem dX1_leastReshoots_6 : decode cX1_leastReshoots 6 = .ok (.iload_n 2, 1) := by decide +kernel
theorem dX1_leastReshoots_7 : decode cX1_leastReshoots 7 = .ok (.istore_n 3, 1) := by decide +kernel
theorem dX1_leastReshoots_8 : decode cX1_leastReshoots 8 = .ok (.iconst 0, 1) := by decide +kernel
theorem dX1_leastReshoots_9 : decode cX1_leastReshoots 9 = .ok (.istore 4, 2) := by decide +kernel
theorem dX1_leastReshoots_11 : decode cX1_leastReshoots 11 = .ok (.iload 4, 2) := by decide +kernel
theorem dX1_leastReshoots_13 : decode cX1_leastReshoots 13 = .ok (.iload_n 2, 1) := by decide +kernel
theorem dX1_leastReshoots_14 : decode cX1_leastReshoots 14 = .ok (.if_icmp .ge 37, 3) := by decide +kernel
theorem dX1_leastReshoots_17 : decode cX1_leastReshoots 17 = .ok (.iload 4, 2) := by decide +kernel
theorem dX1_leastReshoots_19 : decode cX1_leastReshoots 19 = .ok (.invokestatic 25, 3) := by decide +kernel
theorem dX1_leastReshoots_22 : decode cX1_leastReshoots 22 = .ok (.iload_n 3, 1) := by decide +kernel
theorem dX1_leastReshoots_23 : decode cX1_leastReshoots 23 = .ok (.invokestatic 25, 3) := by decide +kernel
theorem dX1_leastReshoots_26 : decode cX1_leastReshoots 26 = .ok (.if_icmp .ge 19, 3) := by decide +kernel
theorem dX1_leastReshoots_29 : decode cX1_leastReshoots 29 = .ok (.aload_n 0, 1) := by decide +kernel
theorem dX1_leastReshoots_30 : decode cX1_leastReshoots 30 = .ok (.iload_n 2, 1) := by decide +kernel
theorem dX1_leastReshoots_31 : decode cX1_leastReshoots 31 = .ok (.iload 4, 2) := by decide +kernel
theorem dX1_leastReshoots_33 : decode cX1_leastReshoots 33 = .ok (.iconst (-1), 1) := by decide +kernel
theorem dX1_leastReshoots_34 : decode cX1_leastReshoots 34 = .ok (.ixor, 1) := by decide +kernel
theorem dX1_leastReshoots_35 : decode cX1_leastReshoots 35 = .ok (.iand, 1) := by decide +kernel
theorem dX1_leastReshoots_36 : decode cX1_leastReshoots 36 = .ok (.invokevirtual 31, 3) := by decide +kernel
theorem dX1_leastReshoots_39 : decode cX1_leastReshoots 39 = .ok (.ifCond .eq 6, 3) := by decide +kernel
theorem dX1_leastReshoots_42 : decode cX1_leastReshoots 42 = .ok (.iload 4, 2) := by decide +kernel
theorem dX1_leastReshoots_44 : decode cX1_leastReshoots 44 = .ok (.istore_n 3, 1) := by decide +kernel
theorem dX1_leastReshoots_45 : decode cX1_leastReshoots 45 = .ok (.iinc 4 1, 3) := by decide +kernel
theorem dX1_leastReshoots_48 : decode cX1_leastReshoots 48 = .ok (.goto (-37), 3) := by decide +kernel
theorem dX1_leastReshoots_51 : decode cX1_leastReshoots 51 = .ok (.iload_n 3, 1) := by decide +kernel
theorem dX1_leastReshoots_52 : decode cX1_leastReshoots 52 = .ok (.ireturn, 1) := by decide +kernel
theorem dX1_isPeaceful_0 : decode cX1_isPeaceful 0 = .ok (.iconst 0, 1) := by decide +kernel
theorem dX1_isPeaceful_1 : decode cX1_isPeaceful 1 = .ok (.istore_n 2, 1) := by decide +kernel
theorem dX1_isPeaceful_2 : decode cX1_isPeaceful 2 = .ok (.iload_n 2, 1) := by decide +kernel
theorem dX1_isPeaceful_3 : decode cX1_isPeaceful 3 = .ok (.bipush 6, 2) := by decide +kernel
theorem dX1_isPeaceful_5 : decode cX1_isPeaceful 5 = .ok (.if_icmp .ge 30, 3) := by decide +kernel
theorem dX1_isPeaceful_8 : decode cX1_isPeaceful 8 = .ok (.iload_n 1, 1) := by decide +kernel
theorem dX1_isPeaceful_9 : decode cX1_isPeaceful 9 = .ok (.iload_n 2, 1) := by decide +kernel
theorem dX1_isPeaceful_10 : decode cX1_isPeaceful 10 = .ok (.invokestatic 35, 3) := by decide +kernel
theorem dX1_isPeaceful_13 : decode cX1_isPeaceful 13 = .ok (.ifCond .eq 16, 3) := by decide +kernel
theorem dX1_isPeaceful_16 : decode cX1_isPeaceful 16 = .ok (.aload_n 0, 1) := by decide +kernel
theorem dX1_isPeaceful_17 : decode cX1_isPeaceful 17 = .ok (.getfield 9, 3) := by decide +kernel
theorem dX1_isPeaceful_20 : decode cX1_isPeaceful 20 = .ok (.iload_n 2, 1) := by decide +kernel
theorem dX1_isPeaceful_21 : decode cX1_isPeaceful 21 = .ok (.iaload, 1) := by decide +kernel
theorem dX1_isPeaceful_22 : decode cX1_isPeaceful 22 = .ok (.iload_n 1, 1) := by decide +kernel
theorem dX1_isPeaceful_23 : decode cX1_isPeaceful 23 = .ok (.iand, 1) := by decide +kernel
theorem dX1_isPeaceful_24 : decode cX1_isPeaceful 24 = .ok (.ifCond .eq 5, 3) := by decide +kernel
theorem dX1_isPeaceful_27 : decode cX1_isPeaceful 27 = .ok (.iconst 0, 1) := by decide +kernel
theorem dX1_isPeaceful_28 : decode cX1_isPeaceful 28 = .ok (.ireturn, 1) := by decide +kernel
theorem dX1_isPeaceful_29 : decode cX1_isPeaceful 29 = .ok (.iinc 2 1, 3) := by decide +kernel
theorem dX1_isPeaceful_32 : decode cX1_isPeaceful 32 = .ok (.goto (-30), 3) := by decide +kernel
theorem dX1_isPeaceful_35 : decode cX1_isPeaceful 35 = .ok (.iconst 1, 1) := by decide +kernel
theorem dX1_isPeaceful_36 : decode cX1_isPeaceful 36 = .ok (.ireturn, 1) := by decide +kernel
theorem dX2_init_0 : decode cX2_init 0 = .ok (.aload_n 0, 1) := by decide +kernel
theorem dX2_init_1 : decode cX2_init 1 = .ok (.invokespecial 3, 3) := by decide +kernel
theorem dX2_init_4 : decode cX2_init 4 = .ok (.aload_n 0, 1) := by decide +kernel
theorem dX2_init_5 : decode cX2_init 5 = .ok (.bipush 6, 2) := by decide +kernel
theorem dX2_init_7 : decode cX2_init 7 = .ok (.newarray .int, 2) := by decide +kernel
theorem dX2_init_9 : decode cX2_init 9 = .ok (.putfield 9, 3) := by decide +kernel
theorem dX2_init_12 : decode cX2_init 12 = .ok (.aload_n 0, 1) := by decide +kernel
theorem dX2_init_13 : decode cX2_init 13 = .ok (.bipush 6, 2) := by decide +kernel
theorem dX2_init_15 : decode cX2_init 15 = .ok (.newarray .int, 2) := by decide +kernel
theorem dX2_init_17 : decode cX2_init 17 = .ok (.putfield 15, 3) := by decide +kernel
theorem dX2_init_20 : decode cX2_init 20 = .ok (.aload_n 0, 1) := by decide +kernel
theorem dX2_init_21 : decode cX2_init 21 = .ok (.bipush 6, 2) := by decide +kernel
theorem dX2_init_23 : decode cX2_init 23 = .ok (.newarray .int, 2) := by decide +kernel
theorem dX2_init_25 : decode cX2_init 25 = .ok (.putfield 18, 3) := by decide +kernel
theorem dX2_init_28 : decode cX2_init 28 = .ok (.return_, 1) := by decide +kernel
theorem dX2_sizeOf_0 : decode cX2_sizeOf 0 = .ok (.iconst 0, 1) := by decide +kernel
theorem dX2_sizeOf_1 : decode cX2_sizeOf 1 = .ok (.aload_n 0, 1) := by decide +kernel
theorem dX2_sizeOf_2 : decode cX2_sizeOf 2 = .ok (.getfield 15, 3) := by decide +kernel
theorem dX2_sizeOf_5 : decode cX2_sizeOf 5 = .ok (.iload_n 1, 1) := by decide +kernel
theorem dX2_sizeOf_6 : decode cX2_sizeOf 6 = .ok (.iaload, 1) := by decide +kernel
theorem dX2_sizeOf_7 : decode cX2_sizeOf 7 = .ok (.aload_n 0, 1) := by decide +kernel
theorem dX2_sizeOf_8 : decode cX2_sizeOf 8 = .ok (.getfield 9, 3) := by decide +kernel
theorem dX2_sizeOf_11 : decode cX2_sizeOf 11 = .ok (.iload_n 1, 1) := by decide +kernel
theorem dX2_sizeOf_12 : decode cX2_sizeOf 12 = .ok (.iaload, 1) := by decide +kernel
theorem dX2_sizeOf_13 : decode cX2_sizeOf 13 = .ok (.isub, 1) := by decide +kernel
theorem dX2_sizeOf_14 : decode cX2_sizeOf 14 = .ok (.iconst 1, 1) := by decide +kernel
theorem dX2_sizeOf_15 : decode cX2_sizeOf 15 = .ok (.iadd, 1) := by decide +kernel
theorem dX2_sizeOf_16 : decode cX2_sizeOf 16 = .ok (.invokestatic 21, 3) := by decide +kernel
theorem dX2_sizeOf_19 : decode cX2_sizeOf 19 = .ok (.ireturn, 1) := by decide +kernel
theorem dX2_find_0 : decode cX2_find 0 = .ok (.aload_n 0, 1) := by decide +kernel
theorem dX2_find_1 : decode cX2_find 1 = .ok (.getfield 9, 3) := by decide +kernel
theorem dX2_find_4 : decode cX2_find 4 = .ok (.iload_n 2, 1) := by decide +kernel
theorem dX2_find_5 : decode cX2_find 5 = .ok (.iconst 0, 1) := by decide +kernel
theorem dX2_find_6 : decode cX2_find 6 = .ok (.iastore, 1) := by decide +kernel
theorem dX2_find_7 : decode cX2_find 7 = .ok (.aload_n 0, 1) := by decide +kernel
theorem dX2_find_8 : decode cX2_find 8 = .ok (.getfield 15, 3) := by decide +kernel
theorem dX2_find_11 : decode cX2_find 11 = .ok (.iload_n 2, 1) := by decide +kernel
theorem dX2_find_12 : decode cX2_find 12 = .ok (.bipush 99, 2) := by decide +kernel
theorem dX2_find_14 : decode cX2_find 14 = .ok (.iastore, 1) := by decide +kernel
theorem dX2_find_15 : decode cX2_find 15 = .ok (.iconst 0, 1) := by decide +kernel
theorem dX2_find_16 : decode cX2_find 16 = .ok (.istore 4, 2) := by decide +kernel
theorem dX2_find_18 : decode cX2_find 18 = .ok (.iload 4, 2) := by decide +kernel
theorem dX2_find_20 : decode cX2_find 20 = .ok (.aload_n 1, 1) := by decide +kernel
theorem dX2_find_21 : decode cX2_find 21 = .ok (.getfield 27, 3) := by decide +kernel
theorem dX2_find_24 : decode cX2_find 24 = .ok (.if_icmp .ge 57, 3) := by decide +kernel
theorem dX2_find_27 : decode cX2_find 27 = .ok (.aload_n 1, 1) := by decide +kernel
theorem dX2_find_28 : decode cX2_find 28 = .ok (.getfield 33, 3) := by decide +kernel
theorem dX2_find_31 : decode cX2_find 31 = .ok (.iload 4, 2) := by decide +kernel
theorem dX2_find_33 : decode cX2_find 33 = .ok (.iaload, 1) := by decide +kernel
theorem dX2_find_34 : decode cX2_find 34 = .ok (.istore 5, 2) := by decide +kernel
theorem dX2_find_36 : decode cX2_find 36 = .ok (.iload 4, 2) := by decide +kernel
theorem dX2_find_38 : decode cX2_find 38 = .ok (.iload_n 2, 1) := by decide +kernel
theorem dX2_find_39 : decode cX2_find 39 = .ok (.if_icmp .eq 36, 3) := by decide +kernel
theorem dX2_find_42 : decode cX2_find 42 = .ok (.iload 5, 2) := by decide +kernel
theorem dX2_find_44 : decode cX2_find 44 = .ok (.iconst (-1), 1) := by decide +kernel
theorem dX2_find_45 : decode cX2_find 45 = .ok (.if_icmp .eq 30, 3) := by decide +kernel
theorem dX2_find_48 : decode cX2_find 48 = .ok (.aload_n 1, 1) := by decide +kernel
theorem dX2_find_49 : decode cX2_find 49 = .ok (.iload 5, 2) := by decide +kernel
theorem dX2_find_51 : decode cX2_find 51 = .ok (.iload_n 3, 1) := by decide +kernel
theorem dX2_find_52 : decode cX2_find 52 = .ok (.invokevirtual 36, 3) := by decide +kernel
theorem dX2_find_55 : decode cX2_find 55 = .ok (.iconst (-1), 1) := by decide +kernel
theorem dX2_find_56 : decode cX2_find 56 = .ok (.if_icmp .eq 19, 3) := by decide +kernel
theorem dX2_find_59 : decode cX2_find 59 = .ok (.aload_n 0, 1) := by decide +kernel
theorem dX2_find_60 : decode cX2_find 60 = .ok (.aload_n 1, 1) := by decide +kernel
theorem dX2_find_61 : decode cX2_find 61 = .ok (.iload_n 2, 1) := by decide +kernel
theorem dX2_find_62 : decode cX2_find 62 = .ok (.iload_n 3, 1) := by decide +kernel
theorem dX2_find_63 : decode cX2_find 63 = .ok (.iload 4, 2) := by decide +kernel
theorem dX2_find_65 : decode cX2_find 65 = .ok (.aload_n 1, 1) := by decide +kernel
theorem dX2_find_66 : decode cX2_find 66 = .ok (.iload 5, 2) := by decide +kernel
theorem dX2_find_68 : decode cX2_find 68 = .ok (.iload_n 3, 1) := by decide +kernel
theorem dX2_find_69 : decode cX2_find 69 = .ok (.invokevirtual 36, 3) := by decide +kernel
theorem dX2_find_72 : decode cX2_find 72 = .ok (.invokevirtual 39, 3) := by decide +kernel
theorem dX2_find_75 : decode cX2_find 75 = .ok (.iinc 4 1, 3) := by decide +kernel
theorem dX2_find_78 : decode cX2_find 78 = .ok (.goto (-60), 3) := by decide +kernel
theorem dX2_find_81 : decode cX2_find 81 = .ok (.return_, 1) := by decide +kernel
theorem dX2_narrowBy_0 : decode cX2_narrowBy 0 = .ok (.aload_n 1, 1) := by decide +kernel
theorem dX2_narrowBy_1 : decode cX2_narrowBy 1 = .ok (.getfield 43, 3) := by decide +kernel
theorem dX2_narrowBy_4 : decode cX2_narrowBy 4 = .ok (.iload_n 3, 1) := by decide +kernel
theorem dX2_narrowBy_5 : decode cX2_narrowBy 5 = .ok (.iaload, 1) := by decide +kernel
theorem dX2_narrowBy_6 : decode cX2_narrowBy 6 = .ok (.ifCond .ne 29, 3) := by decide +kernel
theorem dX2_narrowBy_9 : decode cX2_narrowBy 9 = .ok (.aload_n 1, 1) := by decide +kernel
theorem dX2_narrowBy_10 : decode cX2_narrowBy 10 = .ok (.getfield 46, 3) := by decide +kernel
theorem dX2_narrowBy_13 : decode cX2_narrowBy 13 = .ok (.iload_n 2, 1) := by decide +kernel
theorem dX2_narrowBy_14 : decode cX2_narrowBy 14 = .ok (.iaload, 1) := by decide +kernel
theorem dX2_narrowBy_15 : decode cX2_narrowBy 15 = .ok (.aload_n 1, 1) := by decide +kernel
theorem dX2_narrowBy_16 : decode cX2_narrowBy 16 = .ok (.getfield 46, 3) := by decide +kernel
theorem dX2_narrowBy_19 : decode cX2_narrowBy 19 = .ok (.iload 4, 2) := by decide +kernel
theorem dX2_narrowBy_21 : decode cX2_narrowBy 21 = .ok (.iaload, 1) := by decide +kernel
theorem dX2_narrowBy_22 : decode cX2_narrowBy 22 = .ok (.if_icmp .ne 12, 3) := by decide +kernel
theorem dX2_narrowBy_25 : decode cX2_narrowBy 25 = .ok (.aload_n 0, 1) := by decide +kernel
theorem dX2_narrowBy_26 : decode cX2_narrowBy 26 = .ok (.iload_n 2, 1) := by decide +kernel
theorem dX2_narrowBy_27 : decode cX2_narrowBy 27 = .ok (.iload 5, 2) := by decide +kernel
theorem dX2_narrowBy_29 : decode cX2_narrowBy 29 = .ok (.iload 5, 2) := by decide +kernel
theorem dX2_narrowBy_31 : decode cX2_narrowBy 31 = .ok (.invokevirtual 49, 3) := by decide +kernel
theorem dX2_narrowBy_34 : decode cX2_narrowBy 34 = .ok (.return_, 1) := by decide +kernel
theorem dX2_narrowBy_35 : decode cX2_narrowBy 35 = .ok (.aload_n 1, 1) := by decide +kernel
theorem dX2_narrowBy_36 : decode cX2_narrowBy 36 = .ok (.iload 4, 2) := by decide +kernel
theorem dX2_narrowBy_38 : decode cX2_narrowBy 38 = .ok (.iload_n 2, 1) := by decide +kernel
theorem dX2_narrowBy_39 : decode cX2_narrowBy 39 = .ok (.invokevirtual 53, 3) := by decide +kernel
theorem dX2_narrowBy_42 : decode cX2_narrowBy 42 = .ok (.lookupswitch 74 #[(1, 26), (2, 50)], 26) := by decide +kernel
theorem dX2_narrowBy_68 : decode cX2_narrowBy 68 = .ok (.aload_n 0, 1) := by decide +kernel
theorem dX2_narrowBy_69 : decode cX2_narrowBy 69 = .ok (.iload_n 2, 1) := by decide +kernel
theorem dX2_narrowBy_70 : decode cX2_narrowBy 70 = .ok (.aload_n 1, 1) := by decide +kernel
theorem dX2_narrowBy_71 : decode cX2_narrowBy 71 = .ok (.getfield 43, 3) := by decide +kernel
theorem dX2_narrowBy_74 : decode cX2_narrowBy 74 = .ok (.iload_n 3, 1) := by decide +kernel
theorem dX2_narrowBy_75 : decode cX2_narrowBy 75 = .ok (.iaload, 1) := by decide +kernel
theorem dX2_narrowBy_76 : decode cX2_narrowBy 76 = .ok (.iload 5, 2) := by decide +kernel
theorem dX2_narrowBy_78 : decode cX2_narrowBy 78 = .ok (.aload_n 1, 1) := by decide +kernel
theorem dX2_narrowBy_79 : decode cX2_narrowBy 79 = .ok (.iload_n 3, 1) := by decide +kernel
theorem dX2_narrowBy_80 : decode cX2_narrowBy 80 = .ok (.iload 4, 2) := by decide +kernel
theorem dX2_narrowBy_82 : decode cX2_narrowBy 82 = .ok (.iload_n 2, 1) := by decide +kernel
theorem dX2_narrowBy_83 : decode cX2_narrowBy 83 = .ok (.invokevirtual 56, 3) := by decide +kernel
theorem dX2_narrowBy_86 : decode cX2_narrowBy 86 = .ok (.invokevirtual 60, 3) := by decide +kernel
theorem dX2_narrowBy_89 : decode cX2_narrowBy 89 = .ok (.goto 27, 3) := by decide +kernel
theorem dX2_narrowBy_92 : decode cX2_narrowBy 92 = .ok (.aload_n 0, 1) := by decide +kernel
theorem dX2_narrowBy_93 : decode cX2_narrowBy 93 = .ok (.iload_n 2, 1) := by decide +kernel
theorem dX2_narrowBy_94 : decode cX2_narrowBy 94 = .ok (.aload_n 1, 1) := by decide +kernel
theorem dX2_narrowBy_95 : decode cX2_narrowBy 95 = .ok (.getfield 43, 3) := by decide +kernel
theorem dX2_narrowBy_98 : decode cX2_narrowBy 98 = .ok (.iload_n 3, 1) := by decide +kernel
theorem dX2_narrowBy_99 : decode cX2_narrowBy 99 = .ok (.iaload, 1) := by decide +kernel
theorem dX2_narrowBy_100 : decode cX2_narrowBy 100 = .ok (.iload 5, 2) := by decide +kernel
theorem dX2_narrowBy_102 : decode cX2_narrowBy 102 = .ok (.aload_n 1, 1) := by decide +kernel
theorem dX2_narrowBy_103 : decode cX2_narrowBy 103 = .ok (.iload_n 3, 1) := by decide +kernel
theorem dX2_narrowBy_104 : decode cX2_narrowBy 104 = .ok (.iload_n 2, 1) := by decide +kernel
theorem dX2_narrowBy_105 : decode cX2_narrowBy 105 = .ok (.iload 4, 2) := by decide +kernel
theorem dX2_narrowBy_107 : decode cX2_narrowBy 107 = .ok (.invokevirtual 56, 3) := by decide +kernel
theorem dX2_narrowBy_110 : decode cX2_narrowBy 110 = .ok (.invokevirtual 64, 3) := by decide +kernel
theorem dX2_narrowBy_113 : decode cX2_narrowBy 113 = .ok (.goto 3, 3) := by decide +kernel
theorem dX2_narrowBy_116 : decode cX2_narrowBy 116 = .ok (.return_, 1) := by decide +kernel
theorem dX2_narrowAfter_0 : decode cX2_narrowAfter 0 = .ok (.iload_n 2, 1) := by decide +kernel
theorem dX2_narrowAfter_1 : decode cX2_narrowAfter 1 = .ok (.tableswitch 72 1 3 #[27, 37, 48], 27) := by decide +kernel
theorem dX2_narrowAfter_28 : decode cX2_narrowAfter 28 = .ok (.aload_n 0, 1) := by decide +kernel
theorem dX2_narrowAfter_29 : decode cX2_narrowAfter 29 = .ok (.iload_n 1, 1) := by decide +kernel
theorem dX2_narrowAfter_30 : decode cX2_narrowAfter 30 = .ok (.iconst 0, 1) := by decide +kernel
theorem dX2_narrowAfter_31 : decode cX2_narrowAfter 31 = .ok (.iload_n 3, 1) := by decide +kernel
theorem dX2_narrowAfter_32 : decode cX2_narrowAfter 32 = .ok (.invokevirtual 49, 3) := by decide +kernel
theorem dX2_narrowAfter_35 : decode cX2_narrowAfter 35 = .ok (.goto 38, 3) := by decide +kernel
theorem dX2_narrowAfter_38 : decode cX2_narrowAfter 38 = .ok (.aload_n 0, 1) := by decide +kernel
theorem dX2_narrowAfter_39 : decode cX2_narrowAfter 39 = .ok (.iload_n 1, 1) := by decide +kernel
theorem dX2_narrowAfter_40 : decode cX2_narrowAfter 40 = .ok (.iload_n 3, 1) := by decide +kernel
theorem dX2_narrowAfter_41 : decode cX2_narrowAfter 41 = .ok (.bipush 99, 2) := by decide +kernel
theorem dX2_narrowAfter_43 : decode cX2_narrowAfter 43 = .ok (.invokevirtual 49, 3) := by decide +kernel
theorem dX2_narrowAfter_46 : decode cX2_narrowAfter 46 = .ok (.goto 27, 3) := by decide +kernel
theorem dX2_narrowAfter_49 : decode cX2_narrowAfter 49 = .ok (.aload_n 0, 1) := by decide +kernel
theorem dX2_narrowAfter_50 : decode cX2_narrowAfter 50 = .ok (.iload_n 1, 1) := by decide +kernel
theorem dX2_narrowAfter_51 : decode cX2_narrowAfter 51 = .ok (.iconst 0, 1) := by decide +kernel
theorem dX2_narrowAfter_52 : decode cX2_narrowAfter 52 = .ok (.iload_n 3, 1) := by decide +kernel
theorem dX2_narrowAfter_53 : decode cX2_narrowAfter 53 = .ok (.iload 4, 2) := by decide +kernel
theorem dX2_narrowAfter_55 : decode cX2_narrowAfter 55 = .ok (.isub, 1) := by decide +kernel
theorem dX2_narrowAfter_56 : decode cX2_narrowAfter 56 = .ok (.invokestatic 21, 3) := by decide +kernel
theorem dX2_narrowAfter_59 : decode cX2_narrowAfter 59 = .ok (.iconst 0, 1) := by decide +kernel
theorem dX2_narrowAfter_60 : decode cX2_narrowAfter 60 = .ok (.iload_n 3, 1) := by decide +kernel
theorem dX2_narrowAfter_61 : decode cX2_narrowAfter 61 = .ok (.iload 4, 2) := by decide +kernel
theorem dX2_narrowAfter_63 : decode cX2_narrowAfter 63 = .ok (.isub, 1) := by decide +kernel
theorem dX2_narrowAfter_64 : decode cX2_narrowAfter 64 = .ok (.invokestatic 21, 3) := by decide +kernel
theorem dX2_narrowAfter_67 : decode cX2_narrowAfter 67 = .ok (.invokevirtual 49, 3) := by decide +kernel
theorem dX2_narrowAfter_70 : decode cX2_narrowAfter 70 = .ok (.goto 3, 3) := by decide +kernel
theorem dX2_narrowAfter_73 : decode cX2_narrowAfter 73 = .ok (.return_, 1) := by decide +kernel
theorem dX2_narrowBefore_0 : decode cX2_narrowBefore 0 = .ok (.iload_n 2, 1) := by decide +kernel
theorem dX2_narrowBefore_1 : decode cX2_narrowBefore 1 = .ok (.tableswitch 72 1 3 #[27, 38, 48], 27) := by decide +kernel
theorem dX2_narrowBefore_28 : decode cX2_narrowBefore 28 = .ok (.aload_n 0, 1) := by decide +kernel
theorem dX2_narrowBefore_29 : decode cX2_narrowBefore 29 = .ok (.iload_n 1, 1) := by decide +kernel
theorem dX2_narrowBefore_30 : decode cX2_narrowBefore 30 = .ok (.iload_n 3, 1) := by decide +kernel
theorem dX2_narrowBefore_31 : decode cX2_narrowBefore 31 = .ok (.bipush 99, 2) := by decide +kernel
theorem dX2_narrowBefore_33 : decode cX2_narrowBefore 33 = .ok (.invokevirtual 49, 3) := by decide +kernel
theorem dX2_narrowBefore_36 : decode cX2_narrowBefore 36 = .ok (.goto 37, 3) := by decide +kernel
theorem dX2_narrowBefore_39 : decode cX2_narrowBefore 39 = .ok (.aload_n 0, 1) := by decide +kernel
theorem dX2_narrowBefore_40 : decode cX2_narrowBefore 40 = .ok (.iload_n 1, 1) := by decide +kernel
theorem dX2_narrowBefore_41 : decode cX2_narrowBefore 41 = .ok (.iconst 0, 1) := by decide +kernel
theorem dX2_narrowBefore_42 : decode cX2_narrowBefore 42 = .ok (.iload_n 3, 1) := by decide +kernel
theorem dX2_narrowBefore_43 : decode cX2_narrowBefore 43 = .ok (.invokevirtual 49, 3) := by decide +kernel
theorem dX2_narrowBefore_46 : decode cX2_narrowBefore 46 = .ok (.goto 27, 3) := by decide +kernel
theorem dX2_narrowBefore_49 : decode cX2_narrowBefore 49 = .ok (.aload_n 0, 1) := by decide +kernel
theorem dX2_narrowBefore_50 : decode cX2_narrowBefore 50 = .ok (.iload_n 1, 1) := by decide +kernel
theorem dX2_narrowBefore_51 : decode cX2_narrowBefore 51 = .ok (.iload_n 3, 1) := by decide +kernel
theorem dX2_narrowBefore_52 : decode cX2_narrowBefore 52 = .ok (.ifCond .ne 7, 3) := by decide +kernel
theorem dX2_narrowBefore_55 : decode cX2_narrowBefore 55 = .ok (.iconst 0, 1) := by decide +kernel
theorem dX2_narrowBefore_56 : decode cX2_narrowBefore 56 = .ok (.goto 7, 3) := by decide +kernel
theorem dX2_narrowBefore_59 : decode cX2_narrowBefore 59 = .ok (.iload_n 3, 1) := by decide +kernel
theorem dX2_narrowBefore_60 : decode cX2_narrowBefore 60 = .ok (.iload 4, 2) := by decide +kernel
theorem dX2_narrowBefore_62 : decode cX2_narrowBefore 62 = .ok (.iadd, 1) := by decide +kernel
theorem dX2_narrowBefore_63 : decode cX2_narrowBefore 63 = .ok (.iload_n 3, 1) := by decide +kernel
theorem dX2_narrowBefore_64 : decode cX2_narrowBefore 64 = .ok (.iload 4, 2) := by decide +kernel
theorem dX2_narrowBefore_66 : decode cX2_narrowBefore 66 = .ok (.iadd, 1) := by decide +kernel
theorem dX2_narrowBefore_67 : decode cX2_narrowBefore 67 = .ok (.invokevirtual 49, 3) := by decide +kernel
theorem dX2_narrowBefore_70 : decode cX2_narrowBefore 70 = .ok (.goto 3, 3) := by decide +kernel
theorem dX2_narrowBefore_73 : decode cX2_narrowBefore 73 = .ok (.return_, 1) := by decide +kernel
theorem dX2_keepWithin_0 : decode cX2_keepWithin 0 = .ok (.aload_n 0, 1) := by decide +kernel
theorem dX2_keepWithin_1 : decode cX2_keepWithin 1 = .ok (.getfield 9, 3) := by decide +kernel
theorem dX2_keepWithin_4 : decode cX2_keepWithin 4 = .ok (.iload_n 1, 1) := by decide +kernel
theorem dX2_keepWithin_5 : decode cX2_keepWithin 5 = .ok (.aload_n 0, 1) := by decide +kernel
theorem dX2_keepWithin_6 : decode cX2_keepWithin 6 = .ok (.getfield 9, 3) := by decide +kernel
theorem dX2_keepWithin_9 : decode cX2_keepWithin 9 = .ok (.iload_n 1, 1) := by decide +kernel
theorem dX2_keepWithin_10 : decode cX2_keepWithin 10 = .ok (.iaload, 1) := by decide +kernel
theorem dX2_keepWithin_11 : decode cX2_keepWithin 11 = .ok (.iload_n 2, 1) := by decide +kernel
theorem dX2_keepWithin_12 : decode cX2_keepWithin 12 = .ok (.invokestatic 21, 3) := by decide +kernel
theorem dX2_keepWithin_15 : decode cX2_keepWithin 15 = .ok (.iastore, 1) := by decide +kernel
theorem dX2_keepWithin_16 : decode cX2_keepWithin 16 = .ok (.aload_n 0, 1) := by decide +kernel
theorem dX2_keepWithin_17 : decode cX2_keepWithin 17 = .ok (.getfield 15, 3) := by decide +kernel
theorem dX2_keepWithin_20 : decode cX2_keepWithin 20 = .ok (.iload_n 1, 1) := by decide +kernel
theorem dX2_keepWithin_21 : decode cX2_keepWithin 21 = .ok (.aload_n 0, 1) := by decide +kernel
theorem dX2_keepWithin_22 : decode cX2_keepWithin 22 = .ok (.getfield 15, 3) := by decide +kernel
theorem dX2_keepWithin_25 : decode cX2_keepWithin 25 = .ok (.iload_n 1, 1) := by decide +kernel
theorem dX2_keepWithin_26 : decode cX2_keepWithin 26 = .ok (.iaload, 1) := by decide +kernel
theorem dX2_keepWithin_27 : decode cX2_keepWithin 27 = .ok (.iload_n 3, 1) := by decide +kernel
theorem dX2_keepWithin_28 : decode cX2_keepWithin 28 = .ok (.invokestatic 67, 3) := by decide +kernel
theorem dX2_keepWithin_31 : decode cX2_keepWithin 31 = .ok (.iastore, 1) := by decide +kernel
theorem dX2_keepWithin_32 : decode cX2_keepWithin 32 = .ok (.return_, 1) := by decide +kernel
theorem dX2_findDoubles_0 : decode cX2_findDoubles 0 = .ok (.iconst 0, 1) := by decide +kernel
theorem dX2_findDoubles_1 : decode cX2_findDoubles 1 = .ok (.istore 4, 2) := by decide +kernel
theorem dX2_findDoubles_3 : decode cX2_findDoubles 3 = .ok (.iload 4, 2) := by decide +kernel
theorem dX2_findDoubles_5 : decode cX2_findDoubles 5 = .ok (.aload_n 1, 1) := by decide +kernel
theorem dX2_findDoubles_6 : decode cX2_findDoubles 6 = .ok (.getfield 27, 3) := by decide +kernel
theorem dX2_findDoubles_9 : decode cX2_findDoubles 9 = .ok (.if_icmp .ge 38, 3) := by decide +kernel
theorem dX2_findDoubles_12 : decode cX2_findDoubles 12 = .ok (.iload_n 3, 1) := by decide +kernel
theorem dX2_findDoubles_13 : decode cX2_findDoubles 13 = .ok (.iload 4, 2) := by decide +kernel
theorem dX2_findDoubles_15 : decode cX2_findDoubles 15 = .ok (.invokestatic 70, 3) := by decide +kernel
theorem dX2_findDoubles_18 : decode cX2_findDoubles 18 = .ok (.ifCond .eq 23, 3) := by decide +kernel
theorem dX2_findDoubles_21 : decode cX2_findDoubles 21 = .ok (.aload_n 0, 1) := by decide +kernel
theorem dX2_findDoubles_22 : decode cX2_findDoubles 22 = .ok (.aload_n 1, 1) := by decide +kernel
theorem dX2_findDoubles_23 : decode cX2_findDoubles 23 = .ok (.iload 4, 2) := by decide +kernel
theorem dX2_findDoubles_25 : decode cX2_findDoubles 25 = .ok (.iload_n 2, 1) := by decide +kernel
theorem dX2_findDoubles_26 : decode cX2_findDoubles 26 = .ok (.invokevirtual 74, 3) := by decide +kernel
theorem dX2_findDoubles_29 : decode cX2_findDoubles 29 = .ok (.aload_n 0, 1) := by decide +kernel
theorem dX2_findDoubles_30 : decode cX2_findDoubles 30 = .ok (.iload 4, 2) := by decide +kernel
theorem dX2_findDoubles_32 : decode cX2_findDoubles 32 = .ok (.invokevirtual 78, 3) := by decide +kernel
theorem dX2_findDoubles_35 : decode cX2_findDoubles 35 = .ok (.ifCond .ne 6, 3) := by decide +kernel
theorem dX2_findDoubles_38 : decode cX2_findDoubles 38 = .ok (.bipush (-4), 2) := by decide +kernel
theorem dX2_findDoubles_40 : decode cX2_findDoubles 40 = .ok (.ireturn, 1) := by decide +kernel
theorem dX2_findDoubles_41 : decode cX2_findDoubles 41 = .ok (.iinc 4 1, 3) := by decide +kernel
theorem dX2_findDoubles_44 : decode cX2_findDoubles 44 = .ok (.goto (-41), 3) := by decide +kernel
theorem dX2_findDoubles_47 : decode cX2_findDoubles 47 = .ok (.aload_n 0, 1) := by decide +kernel
theorem dX2_findDoubles_48 : decode cX2_findDoubles 48 = .ok (.iload_n 3, 1) := by decide +kernel
theorem dX2_findDoubles_49 : decode cX2_findDoubles 49 = .ok (.invokevirtual 82, 3) := by decide +kernel
theorem dX2_findDoubles_52 : decode cX2_findDoubles 52 = .ok (.ireturn, 1) := by decide +kernel
theorem dX2_fillDoublesRow_0 : decode cX2_fillDoublesRow 0 = .ok (.iload_n 1, 1) := by decide +kernel
theorem dX2_fillDoublesRow_1 : decode cX2_fillDoublesRow 1 = .ok (.istore_n 2, 1) := by decide +kernel
theorem dX2_fillDoublesRow_2 : decode cX2_fillDoublesRow 2 = .ok (.iconst 0, 1) := by decide +kernel
theorem dX2_fillDoublesRow_3 : decode cX2_fillDoublesRow 3 = .ok (.istore_n 3, 1) := by decide +kernel
theorem dX2_fillDoublesRow_4 : decode cX2_fillDoublesRow 4 = .ok (.iload_n 2, 1) := by decide +kernel
theorem dX2_fillDoublesRow_5 : decode cX2_fillDoublesRow 5 = .ok (.ifCond .eq 38, 3) := by decide +kernel
theorem dX2_fillDoublesRow_8 : decode cX2_fillDoublesRow 8 = .ok (.iload_n 3, 1) := by decide +kernel
theorem dX2_fillDoublesRow_9 : decode cX2_fillDoublesRow 9 = .ok (.bipush 6, 2) := by decide +kernel
theorem dX2_fillDoublesRow_11 : decode cX2_fillDoublesRow 11 = .ok (.if_icmp .ge 32, 3) := by decide +kernel
theorem dX2_fillDoublesRow_14 : decode cX2_fillDoublesRow 14 = .ok (.aload_n 0, 1) := by decide +kernel
theorem dX2_fillDoublesRow_15 : decode cX2_fillDoublesRow 15 = .ok (.iload_n 2, 1) := by decide +kernel
theorem dX2_fillDoublesRow_16 : decode cX2_fillDoublesRow 16 = .ok (.invokevirtual 85, 3) := by decide +kernel
theorem dX2_fillDoublesRow_19 : decode cX2_fillDoublesRow 19 = .ok (.istore 4, 2) := by decide +kernel
theorem dX2_fillDoublesRow_21 : decode cX2_fillDoublesRow 21 = .ok (.aload_n 0, 1) := by decide +kernel
theorem dX2_fillDoublesRow_22 : decode cX2_fillDoublesRow 22 = .ok (.getfield 18, 3) := by decide +kernel
theorem dX2_fillDoublesRow_25 : decode cX2_fillDoublesRow 25 = .ok (.iload_n 3, 1) := by decide +kernel
theorem dX2_fillDoublesRow_26 : decode cX2_fillDoublesRow 26 = .ok (.iload 4, 2) := by decide +kernel
theorem dX2_fillDoublesRow_28 : decode cX2_fillDoublesRow 28 = .ok (.iastore, 1) := by decide +kernel
theorem dX2_fillDoublesRow_29 : decode cX2_fillDoublesRow 29 = .ok (.iinc 3 1, 3) := by decide +kernel
theorem dX2_fillDoublesRow_32 : decode cX2_fillDoublesRow 32 = .ok (.aload_n 0, 1) := by decide +kernel
theorem dX2_fillDoublesRow_33 : decode cX2_fillDoublesRow 33 = .ok (.iload_n 2, 1) := by decide +kernel
theorem dX2_fillDoublesRow_34 : decode cX2_fillDoublesRow 34 = .ok (.iload 4, 2) := by decide +kernel
theorem dX2_fillDoublesRow_36 : decode cX2_fillDoublesRow 36 = .ok (.invokevirtual 88, 3) := by decide +kernel
theorem dX2_fillDoublesRow_39 : decode cX2_fillDoublesRow 39 = .ok (.istore_n 2, 1) := by decide +kernel
theorem dX2_fillDoublesRow_40 : decode cX2_fillDoublesRow 40 = .ok (.goto (-36), 3) := by decide +kernel
theorem dX2_fillDoublesRow_43 : decode cX2_fillDoublesRow 43 = .ok (.iload_n 3, 1) := by decide +kernel
theorem dX2_fillDoublesRow_44 : decode cX2_fillDoublesRow 44 = .ok (.ireturn, 1) := by decide +kernel
theorem dX2_leastHighOf_0 : decode cX2_leastHighOf 0 = .ok (.bipush 99, 2) := by decide +kernel
theorem dX2_leastHighOf_2 : decode cX2_leastHighOf 2 = .ok (.istore_n 2, 1) := by decide +kernel
theorem dX2_leastHighOf_3 : decode cX2_leastHighOf 3 = .ok (.iconst 0, 1) := by decide +kernel
theorem dX2_leastHighOf_4 : decode cX2_leastHighOf 4 = .ok (.istore_n 3, 1) := by decide +kernel
theorem dX2_leastHighOf_5 : decode cX2_leastHighOf 5 = .ok (.iload_n 3, 1) := by decide +kernel
theorem dX2_leastHighOf_6 : decode cX2_leastHighOf 6 = .ok (.bipush 6, 2) := by decide +kernel
theorem dX2_leastHighOf_8 : decode cX2_leastHighOf 8 = .ok (.if_icmp .ge 28, 3) := by decide +kernel
theorem dX2_leastHighOf_11 : decode cX2_leastHighOf 11 = .ok (.iload_n 1, 1) := by decide +kernel
theorem dX2_leastHighOf_12 : decode cX2_leastHighOf 12 = .ok (.iload_n 3, 1) := by decide +kernel
theorem dX2_leastHighOf_13 : decode cX2_leastHighOf 13 = .ok (.invokestatic 70, 3) := by decide +kernel
theorem dX2_leastHighOf_16 : decode cX2_leastHighOf 16 = .ok (.ifCond .eq 14, 3) := by decide +kernel
theorem dX2_leastHighOf_19 : decode cX2_leastHighOf 19 = .ok (.iload_n 2, 1) := by decide +kernel
theorem dX2_leastHighOf_20 : decode cX2_leastHighOf 20 = .ok (.aload_n 0, 1) := by decide +kernel
theorem dX2_leastHighOf_21 : decode cX2_leastHighOf 21 = .ok (.getfield 15, 3) := by decide +kernel
theorem dX2_leastHighOf_24 : decode cX2_leastHighOf 24 = .ok (.iload_n 3, 1) := by decide +kernel
theorem dX2_leastHighOf_25 : decode cX2_leastHighOf 25 = .ok (.iaload, 1) := by decide +kernel
theorem dX2_leastHighOf_26 : decode cX2_leastHighOf 26 = .ok (.invokestatic 67, 3) := by decide +kernel
theorem dX2_leastHighOf_29 : decode cX2_leastHighOf 29 = .ok (.istore_n 2, 1) := by decide +kernel
theorem dX2_leastHighOf_30 : decode cX2_leastHighOf 30 = .ok (.iinc 3 1, 3) := by decide +kernel
theorem dX2_leastHighOf_33 : decode cX2_leastHighOf 33 = .ok (.goto (-28), 3) := by decide +kernel
theorem dX2_leastHighOf_36 : decode cX2_leastHighOf 36 = .ok (.iload_n 2, 1) := by decide +kernel
theorem dX2_leastHighOf_37 : decode cX2_leastHighOf 37 = .ok (.ireturn, 1) := by decide +kernel
theorem dX2_withoutServed_0 : decode cX2_withoutServed 0 = .ok (.iload_n 1, 1) := by decide +kernel
theorem dX2_withoutServed_1 : decode cX2_withoutServed 1 = .ok (.istore_n 3, 1) := by decide +kernel
theorem dX2_withoutServed_2 : decode cX2_withoutServed 2 = .ok (.iconst 0, 1) := by decide +kernel
theorem dX2_withoutServed_3 : decode cX2_withoutServed 3 = .ok (.istore 4, 2) := by decide +kernel
theorem dX2_withoutServed_5 : decode cX2_withoutServed 5 = .ok (.iload 4, 2) := by decide +kernel
theorem dX2_withoutServed_7 : decode cX2_withoutServed 7 = .ok (.bipush 6, 2) := by decide +kernel
theorem dX2_withoutServed_9 : decode cX2_withoutServed 9 = .ok (.if_icmp .ge 38, 3) := by decide +kernel
theorem dX2_withoutServed_12 : decode cX2_withoutServed 12 = .ok (.iload_n 1, 1) := by decide +kernel
theorem dX2_withoutServed_13 : decode cX2_withoutServed 13 = .ok (.iload 4, 2) := by decide +kernel
theorem dX2_withoutServed_15 : decode cX2_withoutServed 15 = .ok (.invokestatic 70, 3) := by decide +kernel
theorem dX2_withoutServed_18 : decode cX2_withoutServed 18 = .ok (.ifCond .eq 23, 3) := by decide +kernel
theorem dX2_withoutServed_21 : decode cX2_withoutServed 21 = .ok (.aload_n 0, 1) := by decide +kernel
theorem dX2_withoutServed_22 : decode cX2_withoutServed 22 = .ok (.getfield 9, 3) := by decide +kernel
theorem dX2_withoutServed_25 : decode cX2_withoutServed 25 = .ok (.iload 4, 2) := by decide +kernel
theorem dX2_withoutServed_27 : decode cX2_withoutServed 27 = .ok (.iaload, 1) := by decide +kernel
theorem dX2_withoutServed_28 : decode cX2_withoutServed 28 = .ok (.iload_n 2, 1) := by decide +kernel
theorem dX2_withoutServed_29 : decode cX2_withoutServed 29 = .ok (.if_icmp .gt 12, 3) := by decide +kernel
theorem dX2_withoutServed_32 : decode cX2_withoutServed 32 = .ok (.iload_n 3, 1) := by decide +kernel
theorem dX2_withoutServed_33 : decode cX2_withoutServed 33 = .ok (.iconst 1, 1) := by decide +kernel
theorem dX2_withoutServed_34 : decode cX2_withoutServed 34 = .ok (.iload 4, 2) := by decide +kernel
theorem dX2_withoutServed_36 : decode cX2_withoutServed 36 = .ok (.ishl, 1) := by decide +kernel
theorem dX2_withoutServed_37 : decode cX2_withoutServed 37 = .ok (.iconst (-1), 1) := by decide +kernel
theorem dX2_withoutServed_38 : decode cX2_withoutServed 38 = .ok (.ixor, 1) := by decide +kernel
theorem dX2_withoutServed_39 : decode cX2_withoutServed 39 = .ok (.iand, 1) := by decide +kernel
theorem dX2_withoutServed_40 : decode cX2_withoutServed 40 = .ok (.istore_n 3, 1) := by decide +kernel
theorem dX2_withoutServed_41 : decode cX2_withoutServed 41 = .ok (.iinc 4 1, 3) := by decide +kernel
theorem dX2_withoutServed_44 : decode cX2_withoutServed 44 = .ok (.goto (-39), 3) := by decide +kernel
theorem dX2_withoutServed_47 : decode cX2_withoutServed 47 = .ok (.iload_n 3, 1) := by decide +kernel
theorem dX2_withoutServed_48 : decode cX2_withoutServed 48 = .ok (.ireturn, 1) := by decide +kernel
theorem dX3_init_0 : decode cX3_init 0 = .ok (.aload_n 0, 1) := by decide +kernel
theorem dX3_init_1 : decode cX3_init 1 = .ok (.invokespecial 3, 3) := by decide +kernel
theorem dX3_init_4 : decode cX3_init 4 = .ok (.aload_n 0, 1) := by decide +kernel
theorem dX3_init_5 : decode cX3_init 5 = .ok (.iconst 0, 1) := by decide +kernel
theorem dX3_init_6 : decode cX3_init 6 = .ok (.putfield 9, 3) := by decide +kernel
theorem dX3_init_9 : decode cX3_init 9 = .ok (.aload_n 0, 1) := by decide +kernel
theorem dX3_init_10 : decode cX3_init 10 = .ok (.bipush 6, 2) := by decide +kernel
theorem dX3_init_12 : decode cX3_init 12 = .ok (.newarray .int, 2) := by decide +kernel
theorem dX3_init_14 : decode cX3_init 14 = .ok (.putfield 15, 3) := by decide +kernel
theorem dX3_init_17 : decode cX3_init 17 = .ok (.aload_n 0, 1) := by decide +kernel
theorem dX3_init_18 : decode cX3_init 18 = .ok (.bipush 6, 2) := by decide +kernel
theorem dX3_init_20 : decode cX3_init 20 = .ok (.newarray .int, 2) := by decide +kernel
theorem dX3_init_22 : decode cX3_init 22 = .ok (.putfield 19, 3) := by decide +kernel
theorem dX3_init_25 : decode cX3_init 25 = .ok (.aload_n 0, 1) := by decide +kernel
theorem dX3_init_26 : decode cX3_init 26 = .ok (.bipush 6, 2) := by decide +kernel
theorem dX3_init_28 : decode cX3_init 28 = .ok (.newarray .int, 2) := by decide +kernel
theorem dX3_init_30 : decode cX3_init 30 = .ok (.putfield 22, 3) := by decide +kernel
theorem dX3_init_33 : decode cX3_init 33 = .ok (.aload_n 0, 1) := by decide +kernel
theorem dX3_init_34 : decode cX3_init 34 = .ok (.iconst 0, 1) := by decide +kernel
theorem dX3_init_35 : decode cX3_init 35 = .ok (.putfield 25, 3) := by decide +kernel
theorem dX3_init_38 : decode cX3_init 38 = .ok (.aload_n 0, 1) := by decide +kernel
theorem dX3_init_39 : decode cX3_init 39 = .ok (.bipush 6, 2) := by decide +kernel
theorem dX3_init_41 : decode cX3_init 41 = .ok (.newarray .int, 2) := by decide +kernel
theorem dX3_init_43 : decode cX3_init 43 = .ok (.putfield 28, 3) := by decide +kernel
theorem dX3_init_46 : decode cX3_init 46 = .ok (.aload_n 0, 1) := by decide +kernel
theorem dX3_init_47 : decode cX3_init 47 = .ok (.bipush 6, 2) := by decide +kernel
theorem dX3_init_49 : decode cX3_init 49 = .ok (.newarray .int, 2) := by decide +kernel
theorem dX3_init_51 : decode cX3_init 51 = .ok (.putfield 31, 3) := by decide +kernel
theorem dX3_init_54 : decode cX3_init 54 = .ok (.aload_n 0, 1) := by decide +kernel
theorem dX3_init_55 : decode cX3_init 55 = .ok (.bipush 6, 2) := by decide +kernel
theorem dX3_init_57 : decode cX3_init 57 = .ok (.newarray .int, 2) := by decide +kernel
theorem dX3_init_59 : decode cX3_init 59 = .ok (.putfield 34, 3) := by decide +kernel
theorem dX3_init_62 : decode cX3_init 62 = .ok (.aload_n 0, 1) := by decide +kernel
theorem dX3_init_63 : decode cX3_init 63 = .ok (.iconst 0, 1) := by decide +kernel
theorem dX3_init_64 : decode cX3_init 64 = .ok (.putfield 37, 3) := by decide +kernel
theorem dX3_init_67 : decode cX3_init 67 = .ok (.aload_n 0, 1) := by decide +kernel
theorem dX3_init_68 : decode cX3_init 68 = .ok (.bipush 16, 2) := by decide +kernel
theorem dX3_init_70 : decode cX3_init 70 = .ok (.newarray .int, 2) := by decide +kernel
theorem dX3_init_72 : decode cX3_init 72 = .ok (.putfield 40, 3) := by decide +kernel
theorem dX3_init_75 : decode cX3_init 75 = .ok (.aload_n 0, 1) := by decide +kernel
theorem dX3_init_76 : decode cX3_init 76 = .ok (.bipush 16, 2) := by decide +kernel
theorem dX3_init_78 : decode cX3_init 78 = .ok (.newarray .int, 2) := by decide +kernel
theorem dX3_init_80 : decode cX3_init 80 = .ok (.putfield 43, 3) := by decide +kernel
theorem dX3_init_83 : decode cX3_init 83 = .ok (.aload_n 0, 1) := by decide +kernel
theorem dX3_init_84 : decode cX3_init 84 = .ok (.bipush 96, 2) := by decide +kernel
theorem dX3_init_86 : decode cX3_init 86 = .ok (.newarray .int, 2) := by decide +kernel
theorem dX3_init_88 : decode cX3_init 88 = .ok (.putfield 46, 3) := by decide +kernel
theorem dX3_init_91 : decode cX3_init 91 = .ok (.aload_n 0, 1) := by decide +kernel
theorem dX3_init_92 : decode cX3_init 92 = .ok (.getfield 46, 3) := by decide +kernel
theorem dX3_init_95 : decode cX3_init 95 = .ok (.iconst (-1), 1) := by decide +kernel
theorem dX3_init_96 : decode cX3_init 96 = .ok (.invokestatic 49, 3) := by decide +kernel
theorem dX3_init_99 : decode cX3_init 99 = .ok (.aload_n 0, 1) := by decide +kernel
theorem dX3_init_100 : decode cX3_init 100 = .ok (.getfield 22, 3) := by decide +kernel
theorem dX3_init_103 : decode cX3_init 103 = .ok (.iconst (-1), 1) := by decide +kernel
theorem dX3_init_104 : decode cX3_init 104 = .ok (.invokestatic 49, 3) := by decide +kernel
theorem dX3_init_107 : decode cX3_init 107 = .ok (.return_, 1) := by decide +kernel
theorem dX3_becomeLike_0 : decode cX3_becomeLike 0 = .ok (.aload_n 0, 1) := by decide +kernel
theorem dX3_becomeLike_1 : decode cX3_becomeLike 1 = .ok (.aload_n 1, 1) := by decide +kernel
theorem dX3_becomeLike_2 : decode cX3_becomeLike 2 = .ok (.getfield 9, 3) := by decide +kernel
theorem dX3_becomeLike_5 : decode cX3_becomeLike 5 = .ok (.putfield 9, 3) := by decide +kernel
theorem dX3_becomeLike_8 : decode cX3_becomeLike 8 = .ok (.aload_n 1, 1) := by decide +kernel
theorem dX3_becomeLike_9 : decode cX3_becomeLike 9 = .ok (.getfield 15, 3) := by decide +kernel
theorem dX3_becomeLike_12 : decode cX3_becomeLike 12 = .ok (.iconst 0, 1) := by decide +kernel
theorem dX3_becomeLike_13 : decode cX3_becomeLike 13 = .ok (.aload_n 0, 1) := by decide +kernel
theorem dX3_becomeLike_14 : decode cX3_becomeLike 14 = .ok (.getfield 15, 3) := by decide +kernel
theorem dX3_becomeLike_17 : decode cX3_becomeLike 17 = .ok (.iconst 0, 1) := by decide +kernel
theorem dX3_becomeLike_18 : decode cX3_becomeLike 18 = .ok (.bipush 6, 2) := by decide +kernel
theorem dX3_becomeLike_20 : decode cX3_becomeLike 20 = .ok (.invokestatic 55, 3) := by decide +kernel
theorem dX3_becomeLike_23 : decode cX3_becomeLike 23 = .ok (.aload_n 1, 1) := by decide +kernel
theorem dX3_becomeLike_24 : decode cX3_becomeLike 24 = .ok (.getfield 19, 3) := by decide +kernel
theorem dX3_becomeLike_27 : decode cX3_becomeLike 27 = .ok (.iconst 0, 1) := by decide +kernel
theorem dX3_becomeLike_28 : decode cX3_becomeLike 28 = .ok (.aload_n 0, 1) := by decide +kernel
theorem dX3_becomeLike_29 : decode cX3_becomeLike 29 = .ok (.getfield 19, 3) := by decide +kernel
theorem dX3_becomeLike_32 : decode cX3_becomeLike 32 = .ok (.iconst 0, 1) := by decide +kernel
theorem dX3_becomeLike_33 : decode cX3_becomeLike 33 = .ok (.bipush 6, 2) := by decide +kernel
theorem dX3_becomeLike_35 : decode cX3_becomeLike 35 = .ok (.invokestatic 55, 3) := by decide +kernel
theorem dX3_becomeLike_38 : decode cX3_becomeLike 38 = .ok (.aload_n 1, 1) := by decide +kernel
theorem dX3_becomeLike_39 : decode cX3_becomeLike 39 = .ok (.getfield 22, 3) := by decide +kernel
theorem dX3_becomeLike_42 : decode cX3_becomeLike 42 = .ok (.iconst 0, 1) := by decide +kernel
theorem dX3_becomeLike_43 : decode cX3_becomeLike 43 = .ok (.aload_n 0, 1) := by decide +kernel
theorem dX3_becomeLike_44 : decode cX3_becomeLike 44 = .ok (.getfield 22, 3) := by decide +kernel
theorem dX3_becomeLike_47 : decode cX3_becomeLike 47 = .ok (.iconst 0, 1) := by decide +kernel
theorem dX3_becomeLike_48 : decode cX3_becomeLike 48 = .ok (.bipush 6, 2) := by decide +kernel
theorem dX3_becomeLike_50 : decode cX3_becomeLike 50 = .ok (.invokestatic 55, 3) := by decide +kernel
theorem dX3_becomeLike_53 : decode cX3_becomeLike 53 = .ok (.aload_n 0, 1) := by decide +kernel
theorem dX3_becomeLike_54 : decode cX3_becomeLike 54 = .ok (.aload_n 1, 1) := by decide +kernel
theorem dX3_becomeLike_55 : decode cX3_becomeLike 55 = .ok (.getfield 25, 3) := by decide +kernel
theorem dX3_becomeLike_58 : decode cX3_becomeLike 58 = .ok (.putfield 25, 3) := by decide +kernel
theorem dX3_becomeLike_61 : decode cX3_becomeLike 61 = .ok (.aload_n 1, 1) := by decide +kernel
theorem dX3_becomeLike_62 : decode cX3_becomeLike 62 = .ok (.getfield 28, 3) := by decide +kernel
theorem dX3_becomeLike_65 : decode cX3_becomeLike 65 = .ok (.iconst 0, 1) := by decide +kernel
theorem dX3_becomeLike_66 : decode cX3_becomeLike 66 = .ok (.aload_n 0, 1) := by decide +kernel
theorem dX3_becomeLike_67 : decode cX3_becomeLike 67 = .ok (.getfield 28, 3) := by decide +kernel
theorem dX3_becomeLike_70 : decode cX3_becomeLike 70 = .ok (.iconst 0, 1) := by decide +kernel
theorem dX3_becomeLike_71 : decode cX3_becomeLike 71 = .ok (.bipush 6, 2) := by decide +kernel
theorem dX3_becomeLike_73 : decode cX3_becomeLike 73 = .ok (.invokestatic 55, 3) := by decide +kernel
theorem dX3_becomeLike_76 : decode cX3_becomeLike 76 = .ok (.aload_n 1, 1) := by decide +kernel
theorem dX3_becomeLike_77 : decode cX3_becomeLike 77 = .ok (.getfield 31, 3) := by decide +kernel
theorem dX3_becomeLike_80 : decode cX3_becomeLike 80 = .ok (.iconst 0, 1) := by decide +kernel
theorem dX3_becomeLike_81 : decode cX3_becomeLike 81 = .ok (.aload_n 0, 1) := by decide +kernel
theorem dX3_becomeLike_82 : decode cX3_becomeLike 82 = .ok (.getfield 31, 3) := by decide +kernel
theorem dX3_becomeLike_85 : decode cX3_becomeLike 85 = .ok (.iconst 0, 1) := by decide +kernel
theorem dX3_becomeLike_86 : decode cX3_becomeLike 86 = .ok (.bipush 6, 2) := by decide +kernel
theorem dX3_becomeLike_88 : decode cX3_becomeLike 88 = .ok (.invokestatic 55, 3) := by decide +kernel
theorem dX3_becomeLike_91 : decode cX3_becomeLike 91 = .ok (.aload_n 1, 1) := by decide +kernel
theorem dX3_becomeLike_92 : decode cX3_becomeLike 92 = .ok (.getfield 34, 3) := by decide +kernel
theorem dX3_becomeLike_95 : decode cX3_becomeLike 95 = .ok (.iconst 0, 1) := by decide +kernel
theorem dX3_becomeLike_96 : decode cX3_becomeLike 96 = .ok (.aload_n 0, 1) := by decide +kernel
theorem dX3_becomeLike_97 : decode cX3_becomeLike 97 = .ok (.getfield 34, 3) := by decide +kernel
theorem dX3_becomeLike_100 : decode cX3_becomeLike 100 = .ok (.iconst 0, 1) := by decide +kernel
theorem dX3_becomeLike_101 : decode cX3_becomeLike 101 = .ok (.bipush 6, 2) := by decide +kernel
theorem dX3_becomeLike_103 : decode cX3_becomeLike 103 = .ok (.invokestatic 55, 3) := by decide +kernel
theorem dX3_becomeLike_106 : decode cX3_becomeLike 106 = .ok (.aload_n 0, 1) := by decide +kernel
theorem dX3_becomeLike_107 : decode cX3_becomeLike 107 = .ok (.aload_n 1, 1) := by decide +kernel
theorem dX3_becomeLike_108 : decode cX3_becomeLike 108 = .ok (.getfield 37, 3) := by decide +kernel
theorem dX3_becomeLike_111 : decode cX3_becomeLike 111 = .ok (.putfield 37, 3) := by decide +kernel
theorem dX3_becomeLike_114 : decode cX3_becomeLike 114 = .ok (.aload_n 1, 1) := by decide +kernel
theorem dX3_becomeLike_115 : decode cX3_becomeLike 115 = .ok (.getfield 40, 3) := by decide +kernel
theorem dX3_becomeLike_118 : decode cX3_becomeLike 118 = .ok (.iconst 0, 1) := by decide +kernel
theorem dX3_becomeLike_119 : decode cX3_becomeLike 119 = .ok (.aload_n 0, 1) := by decide +kernel
theorem dX3_becomeLike_120 : decode cX3_becomeLike 120 = .ok (.getfield 40, 3) := by decide +kernel
theorem dX3_becomeLike_123 : decode cX3_becomeLike 123 = .ok (.iconst 0, 1) := by decide +kernel
theorem dX3_becomeLike_124 : decode cX3_becomeLike 124 = .ok (.bipush 16, 2) := by decide +kernel
theorem dX3_becomeLike_126 : decode cX3_becomeLike 126 = .ok (.invokestatic 55, 3) := by decide +kernel
theorem dX3_becomeLike_129 : decode cX3_becomeLike 129 = .ok (.aload_n 1, 1) := by decide +kernel
theorem dX3_becomeLike_130 : decode cX3_becomeLike 130 = .ok (.getfield 43, 3) := by decide +kernel
theorem dX3_becomeLike_133 : decode cX3_becomeLike 133 = .ok (.iconst 0, 1) := by decide +kernel
theorem dX3_becomeLike_134 : decode cX3_becomeLike 134 = .ok (.aload_n 0, 1) := by decide +kernel
theorem dX3_becomeLike_135 : decode cX3_becomeLike 135 = .ok (.getfield 43, 3) := by decide +kernel
theorem dX3_becomeLike_138 : decode cX3_becomeLike 138 = .ok (.iconst 0, 1) := by decide +kernel
theorem dX3_becomeLike_139 : decode cX3_becomeLike 139 = .ok (.bipush 16, 2) := by decide +kernel
theorem dX3_becomeLike_141 : decode cX3_becomeLike 141 = .ok (.invokestatic 55, 3) := by decide +kernel
theorem dX3_becomeLike_144 : decode cX3_becomeLike 144 = .ok (.aload_n 1, 1) := by decide +kernel
theorem dX3_becomeLike_145 : decode cX3_becomeLike 145 = .ok (.getfield 46, 3) := by decide +kernel
theorem dX3_becomeLike_148 : decode cX3_becomeLike 148 = .ok (.iconst 0, 1) := by decide +kernel
theorem dX3_becomeLike_149 : decode cX3_becomeLike 149 = .ok (.aload_n 0, 1) := by decide +kernel
theorem dX3_becomeLike_150 : decode cX3_becomeLike 150 = .ok (.getfield 46, 3) := by decide +kernel
theorem dX3_becomeLike_153 : decode cX3_becomeLike 153 = .ok (.iconst 0, 1) := by decide +kernel
theorem dX3_becomeLike_154 : decode cX3_becomeLike 154 = .ok (.bipush 96, 2) := by decide +kernel
theorem dX3_becomeLike_156 : decode cX3_becomeLike 156 = .ok (.invokestatic 55, 3) := by decide +kernel
theorem dX3_becomeLike_159 : decode cX3_becomeLike 159 = .ok (.return_, 1) := by decide +kernel
theorem dX3_isScene_0 : decode cX3_isScene 0 = .ok (.iload_n 1, 1) := by decide +kernel
theorem dX3_isScene_1 : decode cX3_isScene 1 = .ok (.ifCond .lt 15, 3) := by decide +kernel
theorem dX3_isScene_4 : decode cX3_isScene 4 = .ok (.iload_n 1, 1) := by decide +kernel
theorem dX3_isScene_5 : decode cX3_isScene 5 = .ok (.aload_n 0, 1) := by decide +kernel
theorem dX3_isScene_6 : decode cX3_isScene 6 = .ok (.getfield 9, 3) := by decide +kernel
theorem dX3_isScene_9 : decode cX3_isScene 9 = .ok (.if_icmp .ge 7, 3) := by decide +kernel
theorem dX3_isScene_12 : decode cX3_isScene 12 = .ok (.iconst 1, 1) := by decide +kernel
theorem dX3_isScene_13 : decode cX3_isScene 13 = .ok (.goto 4, 3) := by decide +kernel
theorem dX3_isScene_16 : decode cX3_isScene 16 = .ok (.iconst 0, 1) := by decide +kernel
theorem dX3_isScene_17 : decode cX3_isScene 17 = .ok (.ireturn, 1) := by decide +kernel
theorem dX3_isThing_0 : decode cX3_isThing 0 = .ok (.iload_n 1, 1) := by decide +kernel
theorem dX3_isThing_1 : decode cX3_isThing 1 = .ok (.ifCond .lt 15, 3) := by decide +kernel
theorem dX3_isThing_4 : decode cX3_isThing 4 = .ok (.iload_n 1, 1) := by decide +kernel
theorem dX3_isThing_5 : decode cX3_isThing 5 = .ok (.aload_n 0, 1) := by decide +kernel
theorem dX3_isThing_6 : decode cX3_isThing 6 = .ok (.getfield 25, 3) := by decide +kernel
theorem dX3_isThing_9 : decode cX3_isThing 9 = .ok (.if_icmp .ge 7, 3) := by decide +kernel
theorem dX3_isThing_12 : decode cX3_isThing 12 = .ok (.iconst 1, 1) := by decide +kernel
theorem dX3_isThing_13 : decode cX3_isThing 13 = .ok (.goto 4, 3) := by decide +kernel
theorem dX3_isThing_16 : decode cX3_isThing 16 = .ok (.iconst 0, 1) := by decide +kernel
theorem dX3_isThing_17 : decode cX3_isThing 17 = .ok (.ireturn, 1) := by decide +kernel
theorem dX3_isTake_0 : decode cX3_isTake 0 = .ok (.iload_n 1, 1) := by decide +kernel
theorem dX3_isTake_1 : decode cX3_isTake 1 = .ok (.ifCond .lt 15, 3) := by decide +kernel
theorem dX3_isTake_4 : decode cX3_isTake 4 = .ok (.iload_n 1, 1) := by decide +kernel
theorem dX3_isTake_5 : decode cX3_isTake 5 = .ok (.aload_n 0, 1) := by decide +kernel
theorem dX3_isTake_6 : decode cX3_isTake 6 = .ok (.getfield 37, 3) := by decide +kernel
theorem dX3_isTake_9 : decode cX3_isTake 9 = .ok (.if_icmp .ge 7, 3) := by decide +kernel
theorem dX3_isTake_12 : decode cX3_isTake 12 = .ok (.iconst 1, 1) := by decide +kernel
theorem dX3_isTake_13 : decode cX3_isTake 13 = .ok (.goto 4, 3) := by decide +kernel
theorem dX3_isTake_16 : decode cX3_isTake 16 = .ok (.iconst 0, 1) := by decide +kernel
theorem dX3_isTake_17 : decode cX3_isTake 17 = .ok (.ireturn, 1) := by decide +kernel
theorem dX3_isSetOfScenes_0 : decode cX3_isSetOfScenes 0 = .ok (.iload_n 1, 1) := by decide +kernel
theorem dX3_isSetOfScenes_1 : decode cX3_isSetOfScenes 1 = .ok (.ifCond .lt 17, 3) := by decide +kernel
theorem dX3_isSetOfScenes_4 : decode cX3_isSetOfScenes 4 = .ok (.iload_n 1, 1) := by decide +kernel
theorem dX3_isSetOfScenes_5 : decode cX3_isSetOfScenes 5 = .ok (.iconst 1, 1) := by decide +kernel
theorem dX3_isSetOfScenes_6 : decode cX3_isSetOfScenes 6 = .ok (.aload_n 0, 1) := by decide +kernel
theorem dX3_isSetOfScenes_7 : decode cX3_isSetOfScenes 7 = .ok (.getfield 9, 3) := by decide +kernel
theorem dX3_isSetOfScenes_10 : decode cX3_isSetOfScenes 10 = .ok (.ishl, 1) := by decide +kernel
theorem dX3_isSetOfScenes_11 : decode cX3_isSetOfScenes 11 = .ok (.if_icmp .ge 7, 3) := by decide +kernel
theorem dX3_isSetOfScenes_14 : decode cX3_isSetOfScenes 14 = .ok (.iconst 1, 1) := by decide +kernel
theorem dX3_isSetOfScenes_15 : decode cX3_isSetOfScenes 15 = .ok (.goto 4, 3) := by decide +kernel
theorem dX3_isSetOfScenes_18 : decode cX3_isSetOfScenes 18 = .ok (.iconst 0, 1) := by decide +kernel
theorem dX3_isSetOfScenes_19 : decode cX3_isSetOfScenes 19 = .ok (.ireturn, 1) := by decide +kernel
theorem dX3_addScene_0 : decode cX3_addScene 0 = .ok (.aload_n 0, 1) := by decide +kernel
theorem dX3_addScene_1 : decode cX3_addScene 1 = .ok (.getfield 9, 3) := by decide +kernel
theorem dX3_addScene_4 : decode cX3_addScene 4 = .ok (.istore_n 3, 1) := by decide +kernel
theorem dX3_addScene_5 : decode cX3_addScene 5 = .ok (.aload_n 0, 1) := by decide +kernel
theorem dX3_addScene_6 : decode cX3_addScene 6 = .ok (.getfield 15, 3) := by decide +kernel
theorem dX3_addScene_9 : decode cX3_addScene 9 = .ok (.iload_n 3, 1) := by decide +kernel
theorem dX3_addScene_10 : decode cX3_addScene 10 = .ok (.iload_n 1, 1) := by decide +kernel
theorem dX3_addScene_11 : decode cX3_addScene 11 = .ok (.iastore, 1) := by decide +kernel
theorem dX3_addScene_12 : decode cX3_addScene 12 = .ok (.aload_n 0, 1) := by decide +kernel
theorem dX3_addScene_13 : decode cX3_addScene 13 = .ok (.getfield 19, 3) := by decide +kernel
theorem dX3_addScene_16 : decode cX3_addScene 16 = .ok (.iload_n 3, 1) := by decide +kernel
theorem dX3_addScene_17 : decode cX3_addScene 17 = .ok (.iload_n 2, 1) := by decide +kernel
theorem dX3_addScene_18 : decode cX3_addScene 18 = .ok (.iastore, 1) := by decide +kernel
theorem dX3_addScene_19 : decode cX3_addScene 19 = .ok (.aload_n 0, 1) := by decide +kernel
