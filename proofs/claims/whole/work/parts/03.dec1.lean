theorem dX3_addScene_20 : decode cX3_addScene 20 = .ok (.dup, 1) := by decide +kernel
theorem dX3_addScene_21 : decode cX3_addScene 21 = .ok (.getfield 9, 3) := by decide +kernel
theorem dX3_addScene_24 : decode cX3_addScene 24 = .ok (.iconst 1, 1) := by decide +kernel
theorem dX3_addScene_25 : decode cX3_addScene 25 = .ok (.iadd, 1) := by decide +kernel
theorem dX3_addScene_26 : decode cX3_addScene 26 = .ok (.putfield 9, 3) := by decide +kernel
theorem dX3_addScene_29 : decode cX3_addScene 29 = .ok (.iload_n 3, 1) := by decide +kernel
theorem dX3_addScene_30 : decode cX3_addScene 30 = .ok (.ireturn, 1) := by decide +kernel
theorem dX3_addThing_0 : decode cX3_addThing 0 = .ok (.aload_n 0, 1) := by decide +kernel
theorem dX3_addThing_1 : decode cX3_addThing 1 = .ok (.getfield 25, 3) := by decide +kernel
theorem dX3_addThing_4 : decode cX3_addThing 4 = .ok (.istore 4, 2) := by decide +kernel
theorem dX3_addThing_6 : decode cX3_addThing 6 = .ok (.aload_n 0, 1) := by decide +kernel
theorem dX3_addThing_7 : decode cX3_addThing 7 = .ok (.getfield 28, 3) := by decide +kernel
theorem dX3_addThing_10 : decode cX3_addThing 10 = .ok (.iload 4, 2) := by decide +kernel
theorem dX3_addThing_12 : decode cX3_addThing 12 = .ok (.iload_n 1, 1) := by decide +kernel
theorem dX3_addThing_13 : decode cX3_addThing 13 = .ok (.iastore, 1) := by decide +kernel
theorem dX3_addThing_14 : decode cX3_addThing 14 = .ok (.aload_n 0, 1) := by decide +kernel
theorem dX3_addThing_15 : decode cX3_addThing 15 = .ok (.getfield 31, 3) := by decide +kernel
theorem dX3_addThing_18 : decode cX3_addThing 18 = .ok (.iload 4, 2) := by decide +kernel
theorem dX3_addThing_20 : decode cX3_addThing 20 = .ok (.iload_n 2, 1) := by decide +kernel
theorem dX3_addThing_21 : decode cX3_addThing 21 = .ok (.iastore, 1) := by decide +kernel
theorem dX3_addThing_22 : decode cX3_addThing 22 = .ok (.aload_n 0, 1) := by decide +kernel
theorem dX3_addThing_23 : decode cX3_addThing 23 = .ok (.getfield 34, 3) := by decide +kernel
theorem dX3_addThing_26 : decode cX3_addThing 26 = .ok (.iload 4, 2) := by decide +kernel
theorem dX3_addThing_28 : decode cX3_addThing 28 = .ok (.iload_n 3, 1) := by decide +kernel
theorem dX3_addThing_29 : decode cX3_addThing 29 = .ok (.iastore, 1) := by decide +kernel
theorem dX3_addThing_30 : decode cX3_addThing 30 = .ok (.aload_n 0, 1) := by decide +kernel
theorem dX3_addThing_31 : decode cX3_addThing 31 = .ok (.dup, 1) := by decide +kernel
theorem dX3_addThing_32 : decode cX3_addThing 32 = .ok (.getfield 25, 3) := by decide +kernel
theorem dX3_addThing_35 : decode cX3_addThing 35 = .ok (.iconst 1, 1) := by decide +kernel
theorem dX3_addThing_36 : decode cX3_addThing 36 = .ok (.iadd, 1) := by decide +kernel
theorem dX3_addThing_37 : decode cX3_addThing 37 = .ok (.putfield 25, 3) := by decide +kernel
theorem dX3_addThing_40 : decode cX3_addThing 40 = .ok (.iload 4, 2) := by decide +kernel
theorem dX3_addThing_42 : decode cX3_addThing 42 = .ok (.ireturn, 1) := by decide +kernel
theorem dX3_addTake_0 : decode cX3_addTake 0 = .ok (.aload_n 0, 1) := by decide +kernel
theorem dX3_addTake_1 : decode cX3_addTake 1 = .ok (.getfield 37, 3) := by decide +kernel
theorem dX3_addTake_4 : decode cX3_addTake 4 = .ok (.istore_n 3, 1) := by decide +kernel
theorem dX3_addTake_5 : decode cX3_addTake 5 = .ok (.aload_n 0, 1) := by decide +kernel
theorem dX3_addTake_6 : decode cX3_addTake 6 = .ok (.getfield 40, 3) := by decide +kernel
theorem dX3_addTake_9 : decode cX3_addTake 9 = .ok (.iload_n 3, 1) := by decide +kernel
theorem dX3_addTake_10 : decode cX3_addTake 10 = .ok (.iload_n 1, 1) := by decide +kernel
theorem dX3_addTake_11 : decode cX3_addTake 11 = .ok (.iastore, 1) := by decide +kernel
theorem dX3_addTake_12 : decode cX3_addTake 12 = .ok (.aload_n 0, 1) := by decide +kernel
theorem dX3_addTake_13 : decode cX3_addTake 13 = .ok (.getfield 43, 3) := by decide +kernel
theorem dX3_addTake_16 : decode cX3_addTake 16 = .ok (.iload_n 3, 1) := by decide +kernel
theorem dX3_addTake_17 : decode cX3_addTake 17 = .ok (.iload_n 2, 1) := by decide +kernel
theorem dX3_addTake_18 : decode cX3_addTake 18 = .ok (.iastore, 1) := by decide +kernel
theorem dX3_addTake_19 : decode cX3_addTake 19 = .ok (.aload_n 0, 1) := by decide +kernel
theorem dX3_addTake_20 : decode cX3_addTake 20 = .ok (.dup, 1) := by decide +kernel
theorem dX3_addTake_21 : decode cX3_addTake 21 = .ok (.getfield 37, 3) := by decide +kernel
theorem dX3_addTake_24 : decode cX3_addTake 24 = .ok (.iconst 1, 1) := by decide +kernel
theorem dX3_addTake_25 : decode cX3_addTake 25 = .ok (.iadd, 1) := by decide +kernel
theorem dX3_addTake_26 : decode cX3_addTake 26 = .ok (.putfield 37, 3) := by decide +kernel
theorem dX3_addTake_29 : decode cX3_addTake 29 = .ok (.iload_n 3, 1) := by decide +kernel
theorem dX3_addTake_30 : decode cX3_addTake 30 = .ok (.ireturn, 1) := by decide +kernel
theorem dX3_measureOf_0 : decode cX3_measureOf 0 = .ok (.aload_n 0, 1) := by decide +kernel
theorem dX3_measureOf_1 : decode cX3_measureOf 1 = .ok (.getfield 46, 3) := by decide +kernel
theorem dX3_measureOf_4 : decode cX3_measureOf 4 = .ok (.iload_n 1, 1) := by decide +kernel
theorem dX3_measureOf_5 : decode cX3_measureOf 5 = .ok (.bipush 6, 2) := by decide +kernel
theorem dX3_measureOf_7 : decode cX3_measureOf 7 = .ok (.imul, 1) := by decide +kernel
theorem dX3_measureOf_8 : decode cX3_measureOf 8 = .ok (.iload_n 2, 1) := by decide +kernel
theorem dX3_measureOf_9 : decode cX3_measureOf 9 = .ok (.iadd, 1) := by decide +kernel
theorem dX3_measureOf_10 : decode cX3_measureOf 10 = .ok (.iaload, 1) := by decide +kernel
theorem dX3_measureOf_11 : decode cX3_measureOf 11 = .ok (.ireturn, 1) := by decide +kernel
theorem dX3_setMeasure_0 : decode cX3_setMeasure 0 = .ok (.aload_n 0, 1) := by decide +kernel
theorem dX3_setMeasure_1 : decode cX3_setMeasure 1 = .ok (.getfield 46, 3) := by decide +kernel
theorem dX3_setMeasure_4 : decode cX3_setMeasure 4 = .ok (.iload_n 1, 1) := by decide +kernel
theorem dX3_setMeasure_5 : decode cX3_setMeasure 5 = .ok (.bipush 6, 2) := by decide +kernel
theorem dX3_setMeasure_7 : decode cX3_setMeasure 7 = .ok (.imul, 1) := by decide +kernel
theorem dX3_setMeasure_8 : decode cX3_setMeasure 8 = .ok (.iload_n 2, 1) := by decide +kernel
theorem dX3_setMeasure_9 : decode cX3_setMeasure 9 = .ok (.iadd, 1) := by decide +kernel
theorem dX3_setMeasure_10 : decode cX3_setMeasure 10 = .ok (.iload_n 3, 1) := by decide +kernel
theorem dX3_setMeasure_11 : decode cX3_setMeasure 11 = .ok (.iastore, 1) := by decide +kernel
theorem dX3_setMeasure_12 : decode cX3_setMeasure 12 = .ok (.return_, 1) := by decide +kernel
theorem dX3_copyMeasures_0 : decode cX3_copyMeasures 0 = .ok (.iconst 0, 1) := by decide +kernel
theorem dX3_copyMeasures_1 : decode cX3_copyMeasures 1 = .ok (.istore_n 3, 1) := by decide +kernel
theorem dX3_copyMeasures_2 : decode cX3_copyMeasures 2 = .ok (.iconst 0, 1) := by decide +kernel
theorem dX3_copyMeasures_3 : decode cX3_copyMeasures 3 = .ok (.istore 4, 2) := by decide +kernel
theorem dX3_copyMeasures_5 : decode cX3_copyMeasures 5 = .ok (.iload 4, 2) := by decide +kernel
theorem dX3_copyMeasures_7 : decode cX3_copyMeasures 7 = .ok (.aload_n 0, 1) := by decide +kernel
theorem dX3_copyMeasures_8 : decode cX3_copyMeasures 8 = .ok (.getfield 25, 3) := by decide +kernel
theorem dX3_copyMeasures_11 : decode cX3_copyMeasures 11 = .ok (.if_icmp .ge 42, 3) := by decide +kernel
theorem dX3_copyMeasures_14 : decode cX3_copyMeasures 14 = .ok (.aload_n 0, 1) := by decide +kernel
theorem dX3_copyMeasures_15 : decode cX3_copyMeasures 15 = .ok (.iload_n 1, 1) := by decide +kernel
theorem dX3_copyMeasures_16 : decode cX3_copyMeasures 16 = .ok (.iload 4, 2) := by decide +kernel
theorem dX3_copyMeasures_18 : decode cX3_copyMeasures 18 = .ok (.invokevirtual 61, 3) := by decide +kernel
theorem dX3_copyMeasures_21 : decode cX3_copyMeasures 21 = .ok (.istore 5, 2) := by decide +kernel
theorem dX3_copyMeasures_23 : decode cX3_copyMeasures 23 = .ok (.aload_n 0, 1) := by decide +kernel
theorem dX3_copyMeasures_24 : decode cX3_copyMeasures 24 = .ok (.iload_n 2, 1) := by decide +kernel
theorem dX3_copyMeasures_25 : decode cX3_copyMeasures 25 = .ok (.iload 4, 2) := by decide +kernel
theorem dX3_copyMeasures_27 : decode cX3_copyMeasures 27 = .ok (.invokevirtual 61, 3) := by decide +kernel
theorem dX3_copyMeasures_30 : decode cX3_copyMeasures 30 = .ok (.iload 5, 2) := by decide +kernel
theorem dX3_copyMeasures_32 : decode cX3_copyMeasures 32 = .ok (.if_icmp .eq 6, 3) := by decide +kernel
theorem dX3_copyMeasures_35 : decode cX3_copyMeasures 35 = .ok (.iinc 3 1, 3) := by decide +kernel
theorem dX3_copyMeasures_38 : decode cX3_copyMeasures 38 = .ok (.aload_n 0, 1) := by decide +kernel
theorem dX3_copyMeasures_39 : decode cX3_copyMeasures 39 = .ok (.iload_n 2, 1) := by decide +kernel
theorem dX3_copyMeasures_40 : decode cX3_copyMeasures 40 = .ok (.iload 4, 2) := by decide +kernel
theorem dX3_copyMeasures_42 : decode cX3_copyMeasures 42 = .ok (.iload 5, 2) := by decide +kernel
theorem dX3_copyMeasures_44 : decode cX3_copyMeasures 44 = .ok (.invokevirtual 65, 3) := by decide +kernel
theorem dX3_copyMeasures_47 : decode cX3_copyMeasures 47 = .ok (.iinc 4 1, 3) := by decide +kernel
theorem dX3_copyMeasures_50 : decode cX3_copyMeasures 50 = .ok (.goto (-45), 3) := by decide +kernel
theorem dX3_copyMeasures_53 : decode cX3_copyMeasures 53 = .ok (.iload_n 3, 1) := by decide +kernel
theorem dX3_copyMeasures_54 : decode cX3_copyMeasures 54 = .ok (.ireturn, 1) := by decide +kernel
theorem dX3_countTakesOf_0 : decode cX3_countTakesOf 0 = .ok (.iconst 0, 1) := by decide +kernel
theorem dX3_countTakesOf_1 : decode cX3_countTakesOf 1 = .ok (.istore_n 2, 1) := by decide +kernel
theorem dX3_countTakesOf_2 : decode cX3_countTakesOf 2 = .ok (.iconst 0, 1) := by decide +kernel
theorem dX3_countTakesOf_3 : decode cX3_countTakesOf 3 = .ok (.istore_n 3, 1) := by decide +kernel
theorem dX3_countTakesOf_4 : decode cX3_countTakesOf 4 = .ok (.iload_n 3, 1) := by decide +kernel
theorem dX3_countTakesOf_5 : decode cX3_countTakesOf 5 = .ok (.aload_n 0, 1) := by decide +kernel
theorem dX3_countTakesOf_6 : decode cX3_countTakesOf 6 = .ok (.getfield 37, 3) := by decide +kernel
theorem dX3_countTakesOf_9 : decode cX3_countTakesOf 9 = .ok (.if_icmp .ge 22, 3) := by decide +kernel
theorem dX3_countTakesOf_12 : decode cX3_countTakesOf 12 = .ok (.aload_n 0, 1) := by decide +kernel
theorem dX3_countTakesOf_13 : decode cX3_countTakesOf 13 = .ok (.getfield 40, 3) := by decide +kernel
theorem dX3_countTakesOf_16 : decode cX3_countTakesOf 16 = .ok (.iload_n 3, 1) := by decide +kernel
theorem dX3_countTakesOf_17 : decode cX3_countTakesOf 17 = .ok (.iaload, 1) := by decide +kernel
theorem dX3_countTakesOf_18 : decode cX3_countTakesOf 18 = .ok (.iload_n 1, 1) := by decide +kernel
theorem dX3_countTakesOf_19 : decode cX3_countTakesOf 19 = .ok (.if_icmp .ne 6, 3) := by decide +kernel
theorem dX3_countTakesOf_22 : decode cX3_countTakesOf 22 = .ok (.iinc 2 1, 3) := by decide +kernel
theorem dX3_countTakesOf_25 : decode cX3_countTakesOf 25 = .ok (.iinc 3 1, 3) := by decide +kernel
theorem dX3_countTakesOf_28 : decode cX3_countTakesOf 28 = .ok (.goto (-24), 3) := by decide +kernel
theorem dX3_countTakesOf_31 : decode cX3_countTakesOf 31 = .ok (.iload_n 2, 1) := by decide +kernel
theorem dX3_countTakesOf_32 : decode cX3_countTakesOf 32 = .ok (.ireturn, 1) := by decide +kernel
theorem dX3_countThingsShownBy_0 : decode cX3_countThingsShownBy 0 = .ok (.iconst 0, 1) := by decide +kernel
theorem dX3_countThingsShownBy_1 : decode cX3_countThingsShownBy 1 = .ok (.istore_n 2, 1) := by decide +kernel
theorem dX3_countThingsShownBy_2 : decode cX3_countThingsShownBy 2 = .ok (.iconst 0, 1) := by decide +kernel
theorem dX3_countThingsShownBy_3 : decode cX3_countThingsShownBy 3 = .ok (.istore_n 3, 1) := by decide +kernel
theorem dX3_countThingsShownBy_4 : decode cX3_countThingsShownBy 4 = .ok (.iload_n 3, 1) := by decide +kernel
theorem dX3_countThingsShownBy_5 : decode cX3_countThingsShownBy 5 = .ok (.aload_n 0, 1) := by decide +kernel
theorem dX3_countThingsShownBy_6 : decode cX3_countThingsShownBy 6 = .ok (.getfield 25, 3) := by decide +kernel
theorem dX3_countThingsShownBy_9 : decode cX3_countThingsShownBy 9 = .ok (.if_icmp .ge 22, 3) := by decide +kernel
theorem dX3_countThingsShownBy_12 : decode cX3_countThingsShownBy 12 = .ok (.aload_n 0, 1) := by decide +kernel
theorem dX3_countThingsShownBy_13 : decode cX3_countThingsShownBy 13 = .ok (.iload_n 1, 1) := by decide +kernel
theorem dX3_countThingsShownBy_14 : decode cX3_countThingsShownBy 14 = .ok (.iload_n 3, 1) := by decide +kernel
theorem dX3_countThingsShownBy_15 : decode cX3_countThingsShownBy 15 = .ok (.invokevirtual 61, 3) := by decide +kernel
theorem dX3_countThingsShownBy_18 : decode cX3_countThingsShownBy 18 = .ok (.iconst (-1), 1) := by decide +kernel
theorem dX3_countThingsShownBy_19 : decode cX3_countThingsShownBy 19 = .ok (.if_icmp .eq 6, 3) := by decide +kernel
theorem dX3_countThingsShownBy_22 : decode cX3_countThingsShownBy 22 = .ok (.iinc 2 1, 3) := by decide +kernel
theorem dX3_countThingsShownBy_25 : decode cX3_countThingsShownBy 25 = .ok (.iinc 3 1, 3) := by decide +kernel
theorem dX3_countThingsShownBy_28 : decode cX3_countThingsShownBy 28 = .ok (.goto (-24), 3) := by decide +kernel
theorem dX3_countThingsShownBy_31 : decode cX3_countThingsShownBy 31 = .ok (.iload_n 2, 1) := by decide +kernel
theorem dX3_countThingsShownBy_32 : decode cX3_countThingsShownBy 32 = .ok (.ireturn, 1) := by decide +kernel
theorem dX3_countTakesThatShow_0 : decode cX3_countTakesThatShow 0 = .ok (.iconst 0, 1) := by decide +kernel
theorem dX3_countTakesThatShow_1 : decode cX3_countTakesThatShow 1 = .ok (.istore_n 2, 1) := by decide +kernel
theorem dX3_countTakesThatShow_2 : decode cX3_countTakesThatShow 2 = .ok (.iconst 0, 1) := by decide +kernel
theorem dX3_countTakesThatShow_3 : decode cX3_countTakesThatShow 3 = .ok (.istore_n 3, 1) := by decide +kernel
theorem dX3_countTakesThatShow_4 : decode cX3_countTakesThatShow 4 = .ok (.iload_n 3, 1) := by decide +kernel
theorem dX3_countTakesThatShow_5 : decode cX3_countTakesThatShow 5 = .ok (.aload_n 0, 1) := by decide +kernel
theorem dX3_countTakesThatShow_6 : decode cX3_countTakesThatShow 6 = .ok (.getfield 37, 3) := by decide +kernel
theorem dX3_countTakesThatShow_9 : decode cX3_countTakesThatShow 9 = .ok (.if_icmp .ge 22, 3) := by decide +kernel
theorem dX3_countTakesThatShow_12 : decode cX3_countTakesThatShow 12 = .ok (.aload_n 0, 1) := by decide +kernel
theorem dX3_countTakesThatShow_13 : decode cX3_countTakesThatShow 13 = .ok (.iload_n 3, 1) := by decide +kernel
theorem dX3_countTakesThatShow_14 : decode cX3_countTakesThatShow 14 = .ok (.iload_n 1, 1) := by decide +kernel
theorem dX3_countTakesThatShow_15 : decode cX3_countTakesThatShow 15 = .ok (.invokevirtual 61, 3) := by decide +kernel
theorem dX3_countTakesThatShow_18 : decode cX3_countTakesThatShow 18 = .ok (.iconst (-1), 1) := by decide +kernel
theorem dX3_countTakesThatShow_19 : decode cX3_countTakesThatShow 19 = .ok (.if_icmp .eq 6, 3) := by decide +kernel
theorem dX3_countTakesThatShow_22 : decode cX3_countTakesThatShow 22 = .ok (.iinc 2 1, 3) := by decide +kernel
theorem dX3_countTakesThatShow_25 : decode cX3_countTakesThatShow 25 = .ok (.iinc 3 1, 3) := by decide +kernel
theorem dX3_countTakesThatShow_28 : decode cX3_countTakesThatShow 28 = .ok (.goto (-24), 3) := by decide +kernel
theorem dX3_countTakesThatShow_31 : decode cX3_countTakesThatShow 31 = .ok (.iload_n 2, 1) := by decide +kernel
theorem dX3_countTakesThatShow_32 : decode cX3_countTakesThatShow 32 = .ok (.ireturn, 1) := by decide +kernel
theorem dX3_countScenesWithChosen_0 : decode cX3_countScenesWithChosen 0 = .ok (.iconst 0, 1) := by decide +kernel
theorem dX3_countScenesWithChosen_1 : decode cX3_countScenesWithChosen 1 = .ok (.istore_n 1, 1) := by decide +kernel
theorem dX3_countScenesWithChosen_2 : decode cX3_countScenesWithChosen 2 = .ok (.iconst 0, 1) := by decide +kernel
theorem dX3_countScenesWithChosen_3 : decode cX3_countScenesWithChosen 3 = .ok (.istore_n 2, 1) := by decide +kernel
theorem dX3_countScenesWithChosen_4 : decode cX3_countScenesWithChosen 4 = .ok (.iload_n 2, 1) := by decide +kernel
theorem dX3_countScenesWithChosen_5 : decode cX3_countScenesWithChosen 5 = .ok (.aload_n 0, 1) := by decide +kernel
theorem dX3_countScenesWithChosen_6 : decode cX3_countScenesWithChosen 6 = .ok (.getfield 9, 3) := by decide +kernel
theorem dX3_countScenesWithChosen_9 : decode cX3_countScenesWithChosen 9 = .ok (.if_icmp .ge 22, 3) := by decide +kernel
theorem dX3_countScenesWithChosen_12 : decode cX3_countScenesWithChosen 12 = .ok (.aload_n 0, 1) := by decide +kernel
theorem dX3_countScenesWithChosen_13 : decode cX3_countScenesWithChosen 13 = .ok (.getfield 22, 3) := by decide +kernel
theorem dX3_countScenesWithChosen_16 : decode cX3_countScenesWithChosen 16 = .ok (.iload_n 2, 1) := by decide +kernel
theorem dX3_countScenesWithChosen_17 : decode cX3_countScenesWithChosen 17 = .ok (.iaload, 1) := by decide +kernel
theorem dX3_countScenesWithChosen_18 : decode cX3_countScenesWithChosen 18 = .ok (.iconst (-1), 1) := by decide +kernel
theorem dX3_countScenesWithChosen_19 : decode cX3_countScenesWithChosen 19 = .ok (.if_icmp .eq 6, 3) := by decide +kernel
theorem dX3_countScenesWithChosen_22 : decode cX3_countScenesWithChosen 22 = .ok (.iinc 1 1, 3) := by decide +kernel
theorem dX3_countScenesWithChosen_25 : decode cX3_countScenesWithChosen 25 = .ok (.iinc 2 1, 3) := by decide +kernel
theorem dX3_countScenesWithChosen_28 : decode cX3_countScenesWithChosen 28 = .ok (.goto (-24), 3) := by decide +kernel
theorem dX3_countScenesWithChosen_31 : decode cX3_countScenesWithChosen 31 = .ok (.iload_n 1, 1) := by decide +kernel
theorem dX3_countScenesWithChosen_32 : decode cX3_countScenesWithChosen 32 = .ok (.ireturn, 1) := by decide +kernel
theorem dX3_orderOf_0 : decode cX3_orderOf 0 = .ok (.aload_n 0, 1) := by decide +kernel
theorem dX3_orderOf_1 : decode cX3_orderOf 1 = .ok (.getfield 15, 3) := by decide +kernel
theorem dX3_orderOf_4 : decode cX3_orderOf 4 = .ok (.iload_n 1, 1) := by decide +kernel
theorem dX3_orderOf_5 : decode cX3_orderOf 5 = .ok (.iaload, 1) := by decide +kernel
theorem dX3_orderOf_6 : decode cX3_orderOf 6 = .ok (.aload_n 0, 1) := by decide +kernel
theorem dX3_orderOf_7 : decode cX3_orderOf 7 = .ok (.getfield 15, 3) := by decide +kernel
theorem dX3_orderOf_10 : decode cX3_orderOf 10 = .ok (.iload_n 2, 1) := by decide +kernel
theorem dX3_orderOf_11 : decode cX3_orderOf 11 = .ok (.iaload, 1) := by decide +kernel
theorem dX3_orderOf_12 : decode cX3_orderOf 12 = .ok (.isub, 1) := by decide +kernel
theorem dX3_orderOf_13 : decode cX3_orderOf 13 = .ok (.istore_n 3, 1) := by decide +kernel
theorem dX3_orderOf_14 : decode cX3_orderOf 14 = .ok (.iload_n 3, 1) := by decide +kernel
theorem dX3_orderOf_15 : decode cX3_orderOf 15 = .ok (.ifCond .eq 7, 3) := by decide +kernel
theorem dX3_orderOf_18 : decode cX3_orderOf 18 = .ok (.iload_n 3, 1) := by decide +kernel
theorem dX3_orderOf_19 : decode cX3_orderOf 19 = .ok (.goto 16, 3) := by decide +kernel
theorem dX3_orderOf_22 : decode cX3_orderOf 22 = .ok (.aload_n 0, 1) := by decide +kernel
theorem dX3_orderOf_23 : decode cX3_orderOf 23 = .ok (.getfield 19, 3) := by decide +kernel
theorem dX3_orderOf_26 : decode cX3_orderOf 26 = .ok (.iload_n 1, 1) := by decide +kernel
theorem dX3_orderOf_27 : decode cX3_orderOf 27 = .ok (.iaload, 1) := by decide +kernel
theorem dX3_orderOf_28 : decode cX3_orderOf 28 = .ok (.aload_n 0, 1) := by decide +kernel
theorem dX3_orderOf_29 : decode cX3_orderOf 29 = .ok (.getfield 19, 3) := by decide +kernel
theorem dX3_orderOf_32 : decode cX3_orderOf 32 = .ok (.iload_n 2, 1) := by decide +kernel
theorem dX3_orderOf_33 : decode cX3_orderOf 33 = .ok (.iaload, 1) := by decide +kernel
theorem dX3_orderOf_34 : decode cX3_orderOf 34 = .ok (.isub, 1) := by decide +kernel
theorem dX3_orderOf_35 : decode cX3_orderOf 35 = .ok (.istore 4, 2) := by decide +kernel
theorem dX3_orderOf_37 : decode cX3_orderOf 37 = .ok (.iload 4, 2) := by decide +kernel
theorem dX3_orderOf_39 : decode cX3_orderOf 39 = .ok (.ifCond .ne 5, 3) := by decide +kernel
theorem dX3_orderOf_42 : decode cX3_orderOf 42 = .ok (.iconst 0, 1) := by decide +kernel
theorem dX3_orderOf_43 : decode cX3_orderOf 43 = .ok (.ireturn, 1) := by decide +kernel
theorem dX3_orderOf_44 : decode cX3_orderOf 44 = .ok (.iload 4, 2) := by decide +kernel
theorem dX3_orderOf_46 : decode cX3_orderOf 46 = .ok (.ifCond .ge 7, 3) := by decide +kernel
theorem dX3_orderOf_49 : decode cX3_orderOf 49 = .ok (.iconst 1, 1) := by decide +kernel
theorem dX3_orderOf_50 : decode cX3_orderOf 50 = .ok (.goto 4, 3) := by decide +kernel
theorem dX3_orderOf_53 : decode cX3_orderOf 53 = .ok (.iconst 2, 1) := by decide +kernel
theorem dX3_orderOf_54 : decode cX3_orderOf 54 = .ok (.ireturn, 1) := by decide +kernel
theorem dX3_healedBetween_0 : decode cX3_healedBetween 0 = .ok (.aload_n 0, 1) := by decide +kernel
theorem dX3_healedBetween_1 : decode cX3_healedBetween 1 = .ok (.getfield 31, 3) := by decide +kernel
theorem dX3_healedBetween_4 : decode cX3_healedBetween 4 = .ok (.iload_n 1, 1) := by decide +kernel
theorem dX3_healedBetween_5 : decode cX3_healedBetween 5 = .ok (.iaload, 1) := by decide +kernel
theorem dX3_healedBetween_6 : decode cX3_healedBetween 6 = .ok (.aload_n 0, 1) := by decide +kernel
theorem dX3_healedBetween_7 : decode cX3_healedBetween 7 = .ok (.getfield 15, 3) := by decide +kernel
theorem dX3_healedBetween_10 : decode cX3_healedBetween 10 = .ok (.iload_n 3, 1) := by decide +kernel
theorem dX3_healedBetween_11 : decode cX3_healedBetween 11 = .ok (.iaload, 1) := by decide +kernel
theorem dX3_healedBetween_12 : decode cX3_healedBetween 12 = .ok (.aload_n 0, 1) := by decide +kernel
theorem dX3_healedBetween_13 : decode cX3_healedBetween 13 = .ok (.getfield 15, 3) := by decide +kernel
theorem dX3_healedBetween_16 : decode cX3_healedBetween 16 = .ok (.iload_n 2, 1) := by decide +kernel
theorem dX3_healedBetween_17 : decode cX3_healedBetween 17 = .ok (.iaload, 1) := by decide +kernel
theorem dX3_healedBetween_18 : decode cX3_healedBetween 18 = .ok (.isub, 1) := by decide +kernel
theorem dX3_healedBetween_19 : decode cX3_healedBetween 19 = .ok (.imul, 1) := by decide +kernel
theorem dX3_healedBetween_20 : decode cX3_healedBetween 20 = .ok (.ireturn, 1) := by decide +kernel
theorem dX3_doClash_0 : decode cX3_doClash 0 = .ok (.aload_n 0, 1) := by decide +kernel
theorem dX3_doClash_1 : decode cX3_doClash 1 = .ok (.getfield 40, 3) := by decide +kernel
theorem dX3_doClash_4 : decode cX3_doClash 4 = .ok (.iload_n 1, 1) := by decide +kernel
theorem dX3_doClash_5 : decode cX3_doClash 5 = .ok (.iaload, 1) := by decide +kernel
theorem dX3_doClash_6 : decode cX3_doClash 6 = .ok (.istore 4, 2) := by decide +kernel
theorem dX3_doClash_8 : decode cX3_doClash 8 = .ok (.aload_n 0, 1) := by decide +kernel
theorem dX3_doClash_9 : decode cX3_doClash 9 = .ok (.getfield 40, 3) := by decide +kernel
theorem dX3_doClash_12 : decode cX3_doClash 12 = .ok (.iload_n 2, 1) := by decide +kernel
theorem dX3_doClash_13 : decode cX3_doClash 13 = .ok (.iaload, 1) := by decide +kernel
theorem dX3_doClash_14 : decode cX3_doClash 14 = .ok (.istore 5, 2) := by decide +kernel
theorem dX3_doClash_16 : decode cX3_doClash 16 = .ok (.aload_n 0, 1) := by decide +kernel
theorem dX3_doClash_17 : decode cX3_doClash 17 = .ok (.iload_n 1, 1) := by decide +kernel
theorem dX3_doClash_18 : decode cX3_doClash 18 = .ok (.iload_n 3, 1) := by decide +kernel
theorem dX3_doClash_19 : decode cX3_doClash 19 = .ok (.invokevirtual 61, 3) := by decide +kernel
theorem dX3_doClash_22 : decode cX3_doClash 22 = .ok (.istore 6, 2) := by decide +kernel
theorem dX3_doClash_24 : decode cX3_doClash 24 = .ok (.aload_n 0, 1) := by decide +kernel
theorem dX3_doClash_25 : decode cX3_doClash 25 = .ok (.iload_n 2, 1) := by decide +kernel
theorem dX3_doClash_26 : decode cX3_doClash 26 = .ok (.iload_n 3, 1) := by decide +kernel
theorem dX3_doClash_27 : decode cX3_doClash 27 = .ok (.invokevirtual 61, 3) := by decide +kernel
theorem dX3_doClash_30 : decode cX3_doClash 30 = .ok (.istore 7, 2) := by decide +kernel
theorem dX3_doClash_32 : decode cX3_doClash 32 = .ok (.iload 4, 2) := by decide +kernel
theorem dX3_doClash_34 : decode cX3_doClash 34 = .ok (.iload 5, 2) := by decide +kernel
theorem dX3_doClash_36 : decode cX3_doClash 36 = .ok (.if_icmp .eq 15, 3) := by decide +kernel
theorem dX3_doClash_39 : decode cX3_doClash 39 = .ok (.iload 6, 2) := by decide +kernel
theorem dX3_doClash_41 : decode cX3_doClash 41 = .ok (.iconst (-1), 1) := by decide +kernel
theorem dX3_doClash_42 : decode cX3_doClash 42 = .ok (.if_icmp .eq 9, 3) := by decide +kernel
theorem dX3_doClash_45 : decode cX3_doClash 45 = .ok (.iload 7, 2) := by decide +kernel
theorem dX3_doClash_47 : decode cX3_doClash 47 = .ok (.iconst (-1), 1) := by decide +kernel
theorem dX3_doClash_48 : decode cX3_doClash 48 = .ok (.if_icmp .ne 5, 3) := by decide +kernel
theorem dX3_doClash_51 : decode cX3_doClash 51 = .ok (.iconst 0, 1) := by decide +kernel
theorem dX3_doClash_52 : decode cX3_doClash 52 = .ok (.ireturn, 1) := by decide +kernel
theorem dX3_doClash_53 : decode cX3_doClash 53 = .ok (.aload_n 0, 1) := by decide +kernel
theorem dX3_doClash_54 : decode cX3_doClash 54 = .ok (.getfield 28, 3) := by decide +kernel
theorem dX3_doClash_57 : decode cX3_doClash 57 = .ok (.iload_n 3, 1) := by decide +kernel
theorem dX3_doClash_58 : decode cX3_doClash 58 = .ok (.iaload, 1) := by decide +kernel
theorem dX3_doClash_59 : decode cX3_doClash 59 = .ok (.ifCond .ne 33, 3) := by decide +kernel
theorem dX3_doClash_62 : decode cX3_doClash 62 = .ok (.aload_n 0, 1) := by decide +kernel
theorem dX3_doClash_63 : decode cX3_doClash 63 = .ok (.getfield 15, 3) := by decide +kernel
theorem dX3_doClash_66 : decode cX3_doClash 66 = .ok (.iload 4, 2) := by decide +kernel
theorem dX3_doClash_68 : decode cX3_doClash 68 = .ok (.iaload, 1) := by decide +kernel
theorem dX3_doClash_69 : decode cX3_doClash 69 = .ok (.aload_n 0, 1) := by decide +kernel
theorem dX3_doClash_70 : decode cX3_doClash 70 = .ok (.getfield 15, 3) := by decide +kernel
theorem dX3_doClash_73 : decode cX3_doClash 73 = .ok (.iload 5, 2) := by decide +kernel
theorem dX3_doClash_75 : decode cX3_doClash 75 = .ok (.iaload, 1) := by decide +kernel
theorem dX3_doClash_76 : decode cX3_doClash 76 = .ok (.if_icmp .ne 14, 3) := by decide +kernel
theorem dX3_doClash_79 : decode cX3_doClash 79 = .ok (.iload 6, 2) := by decide +kernel
theorem dX3_doClash_81 : decode cX3_doClash 81 = .ok (.iload 7, 2) := by decide +kernel
theorem dX3_doClash_83 : decode cX3_doClash 83 = .ok (.if_icmp .eq 7, 3) := by decide +kernel
theorem dX3_doClash_86 : decode cX3_doClash 86 = .ok (.iconst 1, 1) := by decide +kernel
theorem dX3_doClash_87 : decode cX3_doClash 87 = .ok (.goto 4, 3) := by decide +kernel
theorem dX3_doClash_90 : decode cX3_doClash 90 = .ok (.iconst 0, 1) := by decide +kernel
theorem dX3_doClash_91 : decode cX3_doClash 91 = .ok (.ireturn, 1) := by decide +kernel
theorem dX3_doClash_92 : decode cX3_doClash 92 = .ok (.aload_n 0, 1) := by decide +kernel
theorem dX3_doClash_93 : decode cX3_doClash 93 = .ok (.iload 4, 2) := by decide +kernel
theorem dX3_doClash_95 : decode cX3_doClash 95 = .ok (.iload 5, 2) := by decide +kernel
theorem dX3_doClash_97 : decode cX3_doClash 97 = .ok (.invokevirtual 69, 3) := by decide +kernel
theorem dX3_doClash_100 : decode cX3_doClash 100 = .ok (.lookupswitch 66 #[(1, 28), (2, 47)], 28) := by decide +kernel
theorem dX3_doClash_128 : decode cX3_doClash 128 = .ok (.aload_n 0, 1) := by decide +kernel
theorem dX3_doClash_129 : decode cX3_doClash 129 = .ok (.iload_n 3, 1) := by decide +kernel
theorem dX3_doClash_130 : decode cX3_doClash 130 = .ok (.iload 6, 2) := by decide +kernel
theorem dX3_doClash_132 : decode cX3_doClash 132 = .ok (.iload 7, 2) := by decide +kernel
theorem dX3_doClash_134 : decode cX3_doClash 134 = .ok (.aload_n 0, 1) := by decide +kernel
theorem dX3_doClash_135 : decode cX3_doClash 135 = .ok (.iload_n 3, 1) := by decide +kernel
theorem dX3_doClash_136 : decode cX3_doClash 136 = .ok (.iload 4, 2) := by decide +kernel
theorem dX3_doClash_138 : decode cX3_doClash 138 = .ok (.iload 5, 2) := by decide +kernel
theorem dX3_doClash_140 : decode cX3_doClash 140 = .ok (.invokevirtual 72, 3) := by decide +kernel
theorem dX3_doClash_143 : decode cX3_doClash 143 = .ok (.invokevirtual 76, 3) := by decide +kernel
theorem dX3_doClash_146 : decode cX3_doClash 146 = .ok (.ireturn, 1) := by decide +kernel
theorem dX3_doClash_147 : decode cX3_doClash 147 = .ok (.aload_n 0, 1) := by decide +kernel
theorem dX3_doClash_148 : decode cX3_doClash 148 = .ok (.iload_n 3, 1) := by decide +kernel
theorem dX3_doClash_149 : decode cX3_doClash 149 = .ok (.iload 7, 2) := by decide +kernel
theorem dX3_doClash_151 : decode cX3_doClash 151 = .ok (.iload 6, 2) := by decide +kernel
theorem dX3_doClash_153 : decode cX3_doClash 153 = .ok (.aload_n 0, 1) := by decide +kernel
theorem dX3_doClash_154 : decode cX3_doClash 154 = .ok (.iload_n 3, 1) := by decide +kernel
theorem dX3_doClash_155 : decode cX3_doClash 155 = .ok (.iload 5, 2) := by decide +kernel
theorem dX3_doClash_157 : decode cX3_doClash 157 = .ok (.iload 4, 2) := by decide +kernel
theorem dX3_doClash_159 : decode cX3_doClash 159 = .ok (.invokevirtual 72, 3) := by decide +kernel
theorem dX3_doClash_162 : decode cX3_doClash 162 = .ok (.invokevirtual 76, 3) := by decide +kernel
theorem dX3_doClash_165 : decode cX3_doClash 165 = .ok (.ireturn, 1) := by decide +kernel
theorem dX3_doClash_166 : decode cX3_doClash 166 = .ok (.iconst 0, 1) := by decide +kernel
theorem dX3_doClash_167 : decode cX3_doClash 167 = .ok (.ireturn, 1) := by decide +kernel
theorem dX3_breaksLaw_0 : decode cX3_breaksLaw 0 = .ok (.aload_n 0, 1) := by decide +kernel
theorem dX3_breaksLaw_1 : decode cX3_breaksLaw 1 = .ok (.getfield 28, 3) := by decide +kernel
theorem dX3_breaksLaw_4 : decode cX3_breaksLaw 4 = .ok (.iload_n 1, 1) := by decide +kernel
theorem dX3_breaksLaw_5 : decode cX3_breaksLaw 5 = .ok (.iaload, 1) := by decide +kernel
theorem dX3_breaksLaw_6 : decode cX3_breaksLaw 6 = .ok (.tableswitch 66 1 3 #[26, 37, 48], 26) := by decide +kernel
theorem dX3_breaksLaw_32 : decode cX3_breaksLaw 32 = .ok (.iload_n 3, 1) := by decide +kernel
theorem dX3_breaksLaw_33 : decode cX3_breaksLaw 33 = .ok (.iload_n 2, 1) := by decide +kernel
theorem dX3_breaksLaw_34 : decode cX3_breaksLaw 34 = .ok (.if_icmp .le 7, 3) := by decide +kernel
theorem dX3_breaksLaw_37 : decode cX3_breaksLaw 37 = .ok (.iconst 1, 1) := by decide +kernel
theorem dX3_breaksLaw_38 : decode cX3_breaksLaw 38 = .ok (.goto 4, 3) := by decide +kernel
theorem dX3_breaksLaw_41 : decode cX3_breaksLaw 41 = .ok (.iconst 0, 1) := by decide +kernel
theorem dX3_breaksLaw_42 : decode cX3_breaksLaw 42 = .ok (.ireturn, 1) := by decide +kernel
theorem dX3_breaksLaw_43 : decode cX3_breaksLaw 43 = .ok (.iload_n 3, 1) := by decide +kernel
theorem dX3_breaksLaw_44 : decode cX3_breaksLaw 44 = .ok (.iload_n 2, 1) := by decide +kernel
theorem dX3_breaksLaw_45 : decode cX3_breaksLaw 45 = .ok (.if_icmp .ge 7, 3) := by decide +kernel
theorem dX3_breaksLaw_48 : decode cX3_breaksLaw 48 = .ok (.iconst 1, 1) := by decide +kernel
theorem dX3_breaksLaw_49 : decode cX3_breaksLaw 49 = .ok (.goto 4, 3) := by decide +kernel
theorem dX3_breaksLaw_52 : decode cX3_breaksLaw 52 = .ok (.iconst 0, 1) := by decide +kernel
theorem dX3_breaksLaw_53 : decode cX3_breaksLaw 53 = .ok (.ireturn, 1) := by decide +kernel
theorem dX3_breaksLaw_54 : decode cX3_breaksLaw 54 = .ok (.iload_n 3, 1) := by decide +kernel
theorem dX3_breaksLaw_55 : decode cX3_breaksLaw 55 = .ok (.iconst 0, 1) := by decide +kernel
theorem dX3_breaksLaw_56 : decode cX3_breaksLaw 56 = .ok (.iload_n 2, 1) := by decide +kernel
theorem dX3_breaksLaw_57 : decode cX3_breaksLaw 57 = .ok (.iload 4, 2) := by decide +kernel
theorem dX3_breaksLaw_59 : decode cX3_breaksLaw 59 = .ok (.isub, 1) := by decide +kernel
theorem dX3_breaksLaw_60 : decode cX3_breaksLaw 60 = .ok (.invokestatic 80, 3) := by decide +kernel
theorem dX3_breaksLaw_63 : decode cX3_breaksLaw 63 = .ok (.if_icmp .eq 7, 3) := by decide +kernel
theorem dX3_breaksLaw_66 : decode cX3_breaksLaw 66 = .ok (.iconst 1, 1) := by decide +kernel
theorem dX3_breaksLaw_67 : decode cX3_breaksLaw 67 = .ok (.goto 4, 3) := by decide +kernel
theorem dX3_breaksLaw_70 : decode cX3_breaksLaw 70 = .ok (.iconst 0, 1) := by decide +kernel
theorem dX3_breaksLaw_71 : decode cX3_breaksLaw 71 = .ok (.ireturn, 1) := by decide +kernel
theorem dX3_breaksLaw_72 : decode cX3_breaksLaw 72 = .ok (.iconst 0, 1) := by decide +kernel
theorem dX3_breaksLaw_73 : decode cX3_breaksLaw 73 = .ok (.ireturn, 1) := by decide +kernel
theorem dX3_noiseOf_0 : decode cX3_noiseOf 0 = .ok (.iconst 0, 1) := by decide +kernel
theorem dX3_noiseOf_1 : decode cX3_noiseOf 1 = .ok (.istore_n 3, 1) := by decide +kernel
theorem dX3_noiseOf_2 : decode cX3_noiseOf 2 = .ok (.iconst 0, 1) := by decide +kernel
theorem dX3_noiseOf_3 : decode cX3_noiseOf 3 = .ok (.istore 4, 2) := by decide +kernel
theorem dX3_noiseOf_5 : decode cX3_noiseOf 5 = .ok (.iload 4, 2) := by decide +kernel
theorem dX3_noiseOf_7 : decode cX3_noiseOf 7 = .ok (.aload_n 0, 1) := by decide +kernel
theorem dX3_noiseOf_8 : decode cX3_noiseOf 8 = .ok (.getfield 25, 3) := by decide +kernel
theorem dX3_noiseOf_11 : decode cX3_noiseOf 11 = .ok (.if_icmp .ge 30, 3) := by decide +kernel
theorem dX3_noiseOf_14 : decode cX3_noiseOf 14 = .ok (.aload_n 0, 1) := by decide +kernel
theorem dX3_noiseOf_15 : decode cX3_noiseOf 15 = .ok (.iload_n 1, 1) := by decide +kernel
theorem dX3_noiseOf_16 : decode cX3_noiseOf 16 = .ok (.iload_n 2, 1) := by decide +kernel
theorem dX3_noiseOf_17 : decode cX3_noiseOf 17 = .ok (.iload 4, 2) := by decide +kernel
theorem dX3_noiseOf_19 : decode cX3_noiseOf 19 = .ok (.invokevirtual 85, 3) := by decide +kernel
theorem dX3_noiseOf_22 : decode cX3_noiseOf 22 = .ok (.ifCond .eq 13, 3) := by decide +kernel
theorem dX3_noiseOf_25 : decode cX3_noiseOf 25 = .ok (.iload_n 3, 1) := by decide +kernel
theorem dX3_noiseOf_26 : decode cX3_noiseOf 26 = .ok (.aload_n 0, 1) := by decide +kernel
theorem dX3_noiseOf_27 : decode cX3_noiseOf 27 = .ok (.getfield 34, 3) := by decide +kernel
theorem dX3_noiseOf_30 : decode cX3_noiseOf 30 = .ok (.iload 4, 2) := by decide +kernel
theorem dX3_noiseOf_32 : decode cX3_noiseOf 32 = .ok (.iaload, 1) := by decide +kernel
theorem dX3_noiseOf_33 : decode cX3_noiseOf 33 = .ok (.iadd, 1) := by decide +kernel
theorem dX3_noiseOf_34 : decode cX3_noiseOf 34 = .ok (.istore_n 3, 1) := by decide +kernel
theorem dX3_noiseOf_35 : decode cX3_noiseOf 35 = .ok (.iinc 4 1, 3) := by decide +kernel
theorem dX3_noiseOf_38 : decode cX3_noiseOf 38 = .ok (.goto (-33), 3) := by decide +kernel
theorem dX3_noiseOf_41 : decode cX3_noiseOf 41 = .ok (.iload_n 3, 1) := by decide +kernel
theorem dX3_noiseOf_42 : decode cX3_noiseOf 42 = .ok (.ireturn, 1) := by decide +kernel
theorem dX3_countNoisyPairs_0 : decode cX3_countNoisyPairs 0 = .ok (.iconst 0, 1) := by decide +kernel
theorem dX3_countNoisyPairs_1 : decode cX3_countNoisyPairs 1 = .ok (.istore_n 1, 1) := by decide +kernel
theorem dX3_countNoisyPairs_2 : decode cX3_countNoisyPairs 2 = .ok (.iconst 0, 1) := by decide +kernel
theorem dX3_countNoisyPairs_3 : decode cX3_countNoisyPairs 3 = .ok (.istore_n 2, 1) := by decide +kernel
theorem dX3_countNoisyPairs_4 : decode cX3_countNoisyPairs 4 = .ok (.iload_n 2, 1) := by decide +kernel
theorem dX3_countNoisyPairs_5 : decode cX3_countNoisyPairs 5 = .ok (.aload_n 0, 1) := by decide +kernel
theorem dX3_countNoisyPairs_6 : decode cX3_countNoisyPairs 6 = .ok (.getfield 37, 3) := by decide +kernel
theorem dX3_countNoisyPairs_9 : decode cX3_countNoisyPairs 9 = .ok (.if_icmp .ge 34, 3) := by decide +kernel
theorem dX3_countNoisyPairs_12 : decode cX3_countNoisyPairs 12 = .ok (.iconst 0, 1) := by decide +kernel
theorem dX3_countNoisyPairs_13 : decode cX3_countNoisyPairs 13 = .ok (.istore_n 3, 1) := by decide +kernel
theorem dX3_countNoisyPairs_14 : decode cX3_countNoisyPairs 14 = .ok (.iload_n 3, 1) := by decide +kernel
theorem dX3_countNoisyPairs_15 : decode cX3_countNoisyPairs 15 = .ok (.iload_n 2, 1) := by decide +kernel
theorem dX3_countNoisyPairs_16 : decode cX3_countNoisyPairs 16 = .ok (.if_icmp .ge 21, 3) := by decide +kernel
theorem dX3_countNoisyPairs_19 : decode cX3_countNoisyPairs 19 = .ok (.aload_n 0, 1) := by decide +kernel
theorem dX3_countNoisyPairs_20 : decode cX3_countNoisyPairs 20 = .ok (.iload_n 2, 1) := by decide +kernel
theorem dX3_countNoisyPairs_21 : decode cX3_countNoisyPairs 21 = .ok (.iload_n 3, 1) := by decide +kernel
theorem dX3_countNoisyPairs_22 : decode cX3_countNoisyPairs 22 = .ok (.invokevirtual 89, 3) := by decide +kernel
theorem dX3_countNoisyPairs_25 : decode cX3_countNoisyPairs 25 = .ok (.ifCond .le 6, 3) := by decide +kernel
theorem dX3_countNoisyPairs_28 : decode cX3_countNoisyPairs 28 = .ok (.iinc 1 1, 3) := by decide +kernel
theorem dX3_countNoisyPairs_31 : decode cX3_countNoisyPairs 31 = .ok (.iinc 3 1, 3) := by decide +kernel
theorem dX3_countNoisyPairs_34 : decode cX3_countNoisyPairs 34 = .ok (.goto (-20), 3) := by decide +kernel
theorem dX3_countNoisyPairs_37 : decode cX3_countNoisyPairs 37 = .ok (.iinc 2 1, 3) := by decide +kernel
theorem dX3_countNoisyPairs_40 : decode cX3_countNoisyPairs 40 = .ok (.goto (-36), 3) := by decide +kernel
theorem dX3_countNoisyPairs_43 : decode cX3_countNoisyPairs 43 = .ok (.iload_n 1, 1) := by decide +kernel
theorem dX3_countNoisyPairs_44 : decode cX3_countNoisyPairs 44 = .ok (.ireturn, 1) := by decide +kernel
theorem dX3_areBothChosen_0 : decode cX3_areBothChosen 0 = .ok (.aload_n 0, 1) := by decide +kernel
theorem dX3_areBothChosen_1 : decode cX3_areBothChosen 1 = .ok (.getfield 22, 3) := by decide +kernel
theorem dX3_areBothChosen_4 : decode cX3_areBothChosen 4 = .ok (.iload_n 1, 1) := by decide +kernel
theorem dX3_areBothChosen_5 : decode cX3_areBothChosen 5 = .ok (.iaload, 1) := by decide +kernel
theorem dX3_areBothChosen_6 : decode cX3_areBothChosen 6 = .ok (.iconst (-1), 1) := by decide +kernel
theorem dX3_areBothChosen_7 : decode cX3_areBothChosen 7 = .ok (.if_icmp .eq 17, 3) := by decide +kernel
theorem dX3_areBothChosen_10 : decode cX3_areBothChosen 10 = .ok (.aload_n 0, 1) := by decide +kernel
theorem dX3_areBothChosen_11 : decode cX3_areBothChosen 11 = .ok (.getfield 22, 3) := by decide +kernel
theorem dX3_areBothChosen_14 : decode cX3_areBothChosen 14 = .ok (.iload_n 2, 1) := by decide +kernel
theorem dX3_areBothChosen_15 : decode cX3_areBothChosen 15 = .ok (.iaload, 1) := by decide +kernel
theorem dX3_areBothChosen_16 : decode cX3_areBothChosen 16 = .ok (.iconst (-1), 1) := by decide +kernel
theorem dX3_areBothChosen_17 : decode cX3_areBothChosen 17 = .ok (.if_icmp .eq 7, 3) := by decide +kernel
theorem dX3_areBothChosen_20 : decode cX3_areBothChosen 20 = .ok (.iconst 1, 1) := by decide +kernel
theorem dX3_areBothChosen_21 : decode cX3_areBothChosen 21 = .ok (.goto 4, 3) := by decide +kernel
theorem dX3_areBothChosen_24 : decode cX3_areBothChosen 24 = .ok (.iconst 0, 1) := by decide +kernel
theorem dX3_areBothChosen_25 : decode cX3_areBothChosen 25 = .ok (.ireturn, 1) := by decide +kernel
theorem dX3_costOfChosen_0 : decode cX3_costOfChosen 0 = .ok (.iconst 0, 1) := by decide +kernel
theorem dX3_costOfChosen_1 : decode cX3_costOfChosen 1 = .ok (.istore_n 1, 1) := by decide +kernel
theorem dX3_costOfChosen_2 : decode cX3_costOfChosen 2 = .ok (.iconst 0, 1) := by decide +kernel
theorem dX3_costOfChosen_3 : decode cX3_costOfChosen 3 = .ok (.istore_n 2, 1) := by decide +kernel
theorem dX3_costOfChosen_4 : decode cX3_costOfChosen 4 = .ok (.iload_n 2, 1) := by decide +kernel
theorem dX3_costOfChosen_5 : decode cX3_costOfChosen 5 = .ok (.aload_n 0, 1) := by decide +kernel
theorem dX3_costOfChosen_6 : decode cX3_costOfChosen 6 = .ok (.getfield 9, 3) := by decide +kernel
theorem dX3_costOfChosen_9 : decode cX3_costOfChosen 9 = .ok (.if_icmp .ge 55, 3) := by decide +kernel
theorem dX3_costOfChosen_12 : decode cX3_costOfChosen 12 = .ok (.aload_n 0, 1) := by decide +kernel
theorem dX3_costOfChosen_13 : decode cX3_costOfChosen 13 = .ok (.getfield 22, 3) := by decide +kernel
theorem dX3_costOfChosen_16 : decode cX3_costOfChosen 16 = .ok (.iload_n 2, 1) := by decide +kernel
theorem dX3_costOfChosen_17 : decode cX3_costOfChosen 17 = .ok (.iaload, 1) := by decide +kernel
theorem dX3_costOfChosen_18 : decode cX3_costOfChosen 18 = .ok (.iconst (-1), 1) := by decide +kernel
theorem dX3_costOfChosen_19 : decode cX3_costOfChosen 19 = .ok (.if_icmp .eq 17, 3) := by decide +kernel
theorem dX3_costOfChosen_22 : decode cX3_costOfChosen 22 = .ok (.iload_n 1, 1) := by decide +kernel
theorem dX3_costOfChosen_23 : decode cX3_costOfChosen 23 = .ok (.aload_n 0, 1) := by decide +kernel
theorem dX3_costOfChosen_24 : decode cX3_costOfChosen 24 = .ok (.getfield 43, 3) := by decide +kernel
theorem dX3_costOfChosen_27 : decode cX3_costOfChosen 27 = .ok (.aload_n 0, 1) := by decide +kernel
theorem dX3_costOfChosen_28 : decode cX3_costOfChosen 28 = .ok (.getfield 22, 3) := by decide +kernel
theorem dX3_costOfChosen_31 : decode cX3_costOfChosen 31 = .ok (.iload_n 2, 1) := by decide +kernel
theorem dX3_costOfChosen_32 : decode cX3_costOfChosen 32 = .ok (.iaload, 1) := by decide +kernel
theorem dX3_costOfChosen_33 : decode cX3_costOfChosen 33 = .ok (.iaload, 1) := by decide +kernel
theorem dX3_costOfChosen_34 : decode cX3_costOfChosen 34 = .ok (.iadd, 1) := by decide +kernel
theorem dX3_costOfChosen_35 : decode cX3_costOfChosen 35 = .ok (.istore_n 1, 1) := by decide +kernel
theorem dX3_costOfChosen_36 : decode cX3_costOfChosen 36 = .ok (.iconst 0, 1) := by decide +kernel
theorem dX3_costOfChosen_37 : decode cX3_costOfChosen 37 = .ok (.istore_n 3, 1) := by decide +kernel
theorem dX3_costOfChosen_38 : decode cX3_costOfChosen 38 = .ok (.iload_n 3, 1) := by decide +kernel
theorem dX3_costOfChosen_39 : decode cX3_costOfChosen 39 = .ok (.iload_n 2, 1) := by decide +kernel
theorem dX3_costOfChosen_40 : decode cX3_costOfChosen 40 = .ok (.if_icmp .ge 18, 3) := by decide +kernel
theorem dX3_costOfChosen_43 : decode cX3_costOfChosen 43 = .ok (.iload_n 1, 1) := by decide +kernel
theorem dX3_costOfChosen_44 : decode cX3_costOfChosen 44 = .ok (.aload_n 0, 1) := by decide +kernel
theorem dX3_costOfChosen_45 : decode cX3_costOfChosen 45 = .ok (.iload_n 2, 1) := by decide +kernel
theorem dX3_costOfChosen_46 : decode cX3_costOfChosen 46 = .ok (.iload_n 3, 1) := by decide +kernel
theorem dX3_costOfChosen_47 : decode cX3_costOfChosen 47 = .ok (.invokevirtual 92, 3) := by decide +kernel
theorem dX3_costOfChosen_50 : decode cX3_costOfChosen 50 = .ok (.iadd, 1) := by decide +kernel
theorem dX3_costOfChosen_51 : decode cX3_costOfChosen 51 = .ok (.istore_n 1, 1) := by decide +kernel
theorem dX3_costOfChosen_52 : decode cX3_costOfChosen 52 = .ok (.iinc 3 1, 3) := by decide +kernel
theorem dX3_costOfChosen_55 : decode cX3_costOfChosen 55 = .ok (.goto (-17), 3) := by decide +kernel
theorem dX3_costOfChosen_58 : decode cX3_costOfChosen 58 = .ok (.iinc 2 1, 3) := by decide +kernel
theorem dX3_costOfChosen_61 : decode cX3_costOfChosen 61 = .ok (.goto (-57), 3) := by decide +kernel
theorem dX3_costOfChosen_64 : decode cX3_costOfChosen 64 = .ok (.iload_n 1, 1) := by decide +kernel
theorem dX3_costOfChosen_65 : decode cX3_costOfChosen 65 = .ok (.ireturn, 1) := by decide +kernel
theorem dX3_chosenNoiseOf_0 : decode cX3_chosenNoiseOf 0 = .ok (.aload_n 0, 1) := by decide +kernel
theorem dX3_chosenNoiseOf_1 : decode cX3_chosenNoiseOf 1 = .ok (.iload_n 1, 1) := by decide +kernel
theorem dX3_chosenNoiseOf_2 : decode cX3_chosenNoiseOf 2 = .ok (.iload_n 2, 1) := by decide +kernel
theorem dX3_chosenNoiseOf_3 : decode cX3_chosenNoiseOf 3 = .ok (.invokevirtual 95, 3) := by decide +kernel
theorem dX3_chosenNoiseOf_6 : decode cX3_chosenNoiseOf 6 = .ok (.ifCond .eq 22, 3) := by decide +kernel
theorem dX3_chosenNoiseOf_9 : decode cX3_chosenNoiseOf 9 = .ok (.aload_n 0, 1) := by decide +kernel
theorem dX3_chosenNoiseOf_10 : decode cX3_chosenNoiseOf 10 = .ok (.aload_n 0, 1) := by decide +kernel
theorem dX3_chosenNoiseOf_11 : decode cX3_chosenNoiseOf 11 = .ok (.getfield 22, 3) := by decide +kernel
theorem dX3_chosenNoiseOf_14 : decode cX3_chosenNoiseOf 14 = .ok (.iload_n 1, 1) := by decide +kernel
theorem dX3_chosenNoiseOf_15 : decode cX3_chosenNoiseOf 15 = .ok (.iaload, 1) := by decide +kernel
theorem dX3_chosenNoiseOf_16 : decode cX3_chosenNoiseOf 16 = .ok (.aload_n 0, 1) := by decide +kernel
theorem dX3_chosenNoiseOf_17 : decode cX3_chosenNoiseOf 17 = .ok (.getfield 22, 3) := by decide +kernel
theorem dX3_chosenNoiseOf_20 : decode cX3_chosenNoiseOf 20 = .ok (.iload_n 2, 1) := by decide +kernel
theorem dX3_chosenNoiseOf_21 : decode cX3_chosenNoiseOf 21 = .ok (.iaload, 1) := by decide +kernel
theorem dX3_chosenNoiseOf_22 : decode cX3_chosenNoiseOf 22 = .ok (.invokevirtual 89, 3) := by decide +kernel
theorem dX3_chosenNoiseOf_25 : decode cX3_chosenNoiseOf 25 = .ok (.goto 4, 3) := by decide +kernel
theorem dX3_chosenNoiseOf_28 : decode cX3_chosenNoiseOf 28 = .ok (.iconst 0, 1) := by decide +kernel
theorem dX3_chosenNoiseOf_29 : decode cX3_chosenNoiseOf 29 = .ok (.ireturn, 1) := by decide +kernel
theorem dX3_countChosenClashesBy_0 : decode cX3_countChosenClashesBy 0 = .ok (.iconst 0, 1) := by decide +kernel
theorem dX3_countChosenClashesBy_1 : decode cX3_countChosenClashesBy 1 = .ok (.istore_n 2, 1) := by decide +kernel
theorem dX3_countChosenClashesBy_2 : decode cX3_countChosenClashesBy 2 = .ok (.iconst 0, 1) := by decide +kernel
theorem dX3_countChosenClashesBy_3 : decode cX3_countChosenClashesBy 3 = .ok (.istore_n 3, 1) := by decide +kernel
theorem dX3_countChosenClashesBy_4 : decode cX3_countChosenClashesBy 4 = .ok (.iload_n 3, 1) := by decide +kernel
theorem dX3_countChosenClashesBy_5 : decode cX3_countChosenClashesBy 5 = .ok (.aload_n 0, 1) := by decide +kernel
theorem dX3_countChosenClashesBy_6 : decode cX3_countChosenClashesBy 6 = .ok (.getfield 9, 3) := by decide +kernel
theorem dX3_countChosenClashesBy_9 : decode cX3_countChosenClashesBy 9 = .ok (.if_icmp .ge 58, 3) := by decide +kernel
theorem dX3_countChosenClashesBy_12 : decode cX3_countChosenClashesBy 12 = .ok (.iconst 0, 1) := by decide +kernel
theorem dX3_countChosenClashesBy_13 : decode cX3_countChosenClashesBy 13 = .ok (.istore 4, 2) := by decide +kernel
theorem dX3_countChosenClashesBy_15 : decode cX3_countChosenClashesBy 15 = .ok (.iload 4, 2) := by decide +kernel
theorem dX3_countChosenClashesBy_17 : decode cX3_countChosenClashesBy 17 = .ok (.iload_n 3, 1) := by decide +kernel
theorem dX3_countChosenClashesBy_18 : decode cX3_countChosenClashesBy 18 = .ok (.if_icmp .ge 43, 3) := by decide +kernel
theorem dX3_countChosenClashesBy_21 : decode cX3_countChosenClashesBy 21 = .ok (.aload_n 0, 1) := by decide +kernel
theorem dX3_countChosenClashesBy_22 : decode cX3_countChosenClashesBy 22 = .ok (.iload_n 3, 1) := by decide +kernel
theorem dX3_countChosenClashesBy_23 : decode cX3_countChosenClashesBy 23 = .ok (.iload 4, 2) := by decide +kernel
theorem dX3_countChosenClashesBy_25 : decode cX3_countChosenClashesBy 25 = .ok (.invokevirtual 95, 3) := by decide +kernel
theorem dX3_countChosenClashesBy_28 : decode cX3_countChosenClashesBy 28 = .ok (.ifCond .eq 27, 3) := by decide +kernel
theorem dX3_countChosenClashesBy_31 : decode cX3_countChosenClashesBy 31 = .ok (.aload_n 0, 1) := by decide +kernel
theorem dX3_countChosenClashesBy_32 : decode cX3_countChosenClashesBy 32 = .ok (.aload_n 0, 1) := by decide +kernel
theorem dX3_countChosenClashesBy_33 : decode cX3_countChosenClashesBy 33 = .ok (.getfield 22, 3) := by decide +kernel
theorem dX3_countChosenClashesBy_36 : decode cX3_countChosenClashesBy 36 = .ok (.iload_n 3, 1) := by decide +kernel
theorem dX3_countChosenClashesBy_37 : decode cX3_countChosenClashesBy 37 = .ok (.iaload, 1) := by decide +kernel
theorem dX3_countChosenClashesBy_38 : decode cX3_countChosenClashesBy 38 = .ok (.aload_n 0, 1) := by decide +kernel
theorem dX3_countChosenClashesBy_39 : decode cX3_countChosenClashesBy 39 = .ok (.getfield 22, 3) := by decide +kernel
theorem dX3_countChosenClashesBy_42 : decode cX3_countChosenClashesBy 42 = .ok (.iload 4, 2) := by decide +kernel
theorem dX3_countChosenClashesBy_44 : decode cX3_countChosenClashesBy 44 = .ok (.iaload, 1) := by decide +kernel
theorem dX3_countChosenClashesBy_45 : decode cX3_countChosenClashesBy 45 = .ok (.iload_n 1, 1) := by decide +kernel
theorem dX3_countChosenClashesBy_46 : decode cX3_countChosenClashesBy 46 = .ok (.invokevirtual 85, 3) := by decide +kernel
theorem dX3_countChosenClashesBy_49 : decode cX3_countChosenClashesBy 49 = .ok (.ifCond .eq 6, 3) := by decide +kernel
theorem dX3_countChosenClashesBy_52 : decode cX3_countChosenClashesBy 52 = .ok (.iinc 2 1, 3) := by decide +kernel
theorem dX3_countChosenClashesBy_55 : decode cX3_countChosenClashesBy 55 = .ok (.iinc 4 1, 3) := by decide +kernel
theorem dX3_countChosenClashesBy_58 : decode cX3_countChosenClashesBy 58 = .ok (.goto (-43), 3) := by decide +kernel
theorem dX3_countChosenClashesBy_61 : decode cX3_countChosenClashesBy 61 = .ok (.iinc 3 1, 3) := by decide +kernel
theorem dX3_countChosenClashesBy_64 : decode cX3_countChosenClashesBy 64 = .ok (.goto (-60), 3) := by decide +kernel
theorem dX3_countChosenClashesBy_67 : decode cX3_countChosenClashesBy 67 = .ok (.iload_n 2, 1) := by decide +kernel
theorem dX3_countChosenClashesBy_68 : decode cX3_countChosenClashesBy 68 = .ok (.ireturn, 1) := by decide +kernel
theorem dX4_init_0 : decode cX4_init 0 = .ok (.aload_n 0, 1) := by decide +kernel
theorem dX4_init_1 : decode cX4_init 1 = .ok (.invokespecial 1, 3) := by decide +kernel
theorem dX4_init_4 : decode cX4_init 4 = .ok (.aload_n 0, 1) := by decide +kernel
theorem dX4_init_5 : decode cX4_init 5 = .ok (.new 7, 3) := by decide +kernel
theorem dX4_init_8 : decode cX4_init 8 = .ok (.dup, 1) := by decide +kernel
theorem dX4_init_9 : decode cX4_init 9 = .ok (.invokespecial 9, 3) := by decide +kernel
theorem dX4_init_12 : decode cX4_init 12 = .ok (.putfield 10, 3) := by decide +kernel
theorem dX4_init_15 : decode cX4_init 15 = .ok (.aload_n 0, 1) := by decide +kernel
theorem dX4_init_16 : decode cX4_init 16 = .ok (.new 7, 3) := by decide +kernel
theorem dX4_init_19 : decode cX4_init 19 = .ok (.dup, 1) := by decide +kernel
theorem dX4_init_20 : decode cX4_init 20 = .ok (.invokespecial 9, 3) := by decide +kernel
theorem dX4_init_23 : decode cX4_init 23 = .ok (.putfield 16, 3) := by decide +kernel
theorem dX4_init_26 : decode cX4_init 26 = .ok (.aload_n 0, 1) := by decide +kernel
theorem dX4_init_27 : decode cX4_init 27 = .ok (.iconst 0, 1) := by decide +kernel
theorem dX4_init_28 : decode cX4_init 28 = .ok (.putfield 19, 3) := by decide +kernel
theorem dX4_init_31 : decode cX4_init 31 = .ok (.aload_n 0, 1) := by decide +kernel
theorem dX4_init_32 : decode cX4_init 32 = .ok (.new 23, 3) := by decide +kernel
theorem dX4_init_35 : decode cX4_init 35 = .ok (.dup, 1) := by decide +kernel
theorem dX4_init_36 : decode cX4_init 36 = .ok (.invokespecial 25, 3) := by decide +kernel
theorem dX4_init_39 : decode cX4_init 39 = .ok (.putfield 26, 3) := by decide +kernel
theorem dX4_init_42 : decode cX4_init 42 = .ok (.aload_n 0, 1) := by decide +kernel
theorem dX4_init_43 : decode cX4_init 43 = .ok (.new 30, 3) := by decide +kernel
theorem dX4_init_46 : decode cX4_init 46 = .ok (.dup, 1) := by decide +kernel
theorem dX4_init_47 : decode cX4_init 47 = .ok (.invokespecial 32, 3) := by decide +kernel
theorem dX4_init_50 : decode cX4_init 50 = .ok (.putfield 33, 3) := by decide +kernel
theorem dX4_init_53 : decode cX4_init 53 = .ok (.aload_n 0, 1) := by decide +kernel
theorem dX4_init_54 : decode cX4_init 54 = .ok (.new 37, 3) := by decide +kernel
theorem dX4_init_57 : decode cX4_init 57 = .ok (.dup, 1) := by decide +kernel
theorem dX4_init_58 : decode cX4_init 58 = .ok (.invokespecial 39, 3) := by decide +kernel
theorem dX4_init_61 : decode cX4_init 61 = .ok (.putfield 40, 3) := by decide +kernel
theorem dX4_init_64 : decode cX4_init 64 = .ok (.return_, 1) := by decide +kernel
theorem dX4_scene_0 : decode cX4_scene 0 = .ok (.iload_n 1, 1) := by decide +kernel
theorem dX4_scene_1 : decode cX4_scene 1 = .ok (.iload_n 2, 1) := by decide +kernel
theorem dX4_scene_2 : decode cX4_scene 2 = .ok (.invokestatic 44, 3) := by decide +kernel
theorem dX4_scene_5 : decode cX4_scene 5 = .ok (.ifCond .ne 5, 3) := by decide +kernel
theorem dX4_scene_8 : decode cX4_scene 8 = .ok (.iconst (-1), 1) := by decide +kernel
theorem dX4_scene_9 : decode cX4_scene 9 = .ok (.ireturn, 1) := by decide +kernel
theorem dX4_scene_10 : decode cX4_scene 10 = .ok (.aload_n 0, 1) := by decide +kernel
theorem dX4_scene_11 : decode cX4_scene 11 = .ok (.getfield 10, 3) := by decide +kernel
theorem dX4_scene_14 : decode cX4_scene 14 = .ok (.getfield 48, 3) := by decide +kernel
theorem dX4_scene_17 : decode cX4_scene 17 = .ok (.bipush 6, 2) := by decide +kernel
theorem dX4_scene_19 : decode cX4_scene 19 = .ok (.if_icmp .lt 6, 3) := by decide +kernel
theorem dX4_scene_22 : decode cX4_scene 22 = .ok (.bipush (-2), 2) := by decide +kernel
theorem dX4_scene_24 : decode cX4_scene 24 = .ok (.ireturn, 1) := by decide +kernel
theorem dX4_scene_25 : decode cX4_scene 25 = .ok (.aload_n 0, 1) := by decide +kernel
theorem dX4_scene_26 : decode cX4_scene 26 = .ok (.getfield 10, 3) := by decide +kernel
theorem dX4_scene_29 : decode cX4_scene 29 = .ok (.iload_n 1, 1) := by decide +kernel
theorem dX4_scene_30 : decode cX4_scene 30 = .ok (.iload_n 2, 1) := by decide +kernel
theorem dX4_scene_31 : decode cX4_scene 31 = .ok (.invokevirtual 52, 3) := by decide +kernel
theorem dX4_scene_34 : decode cX4_scene 34 = .ok (.ireturn, 1) := by decide +kernel
theorem dX4_shift_0 : decode cX4_shift 0 = .ok (.aload_n 0, 1) := by decide +kernel
theorem dX4_shift_1 : decode cX4_shift 1 = .ok (.getfield 10, 3) := by decide +kernel
theorem dX4_shift_4 : decode cX4_shift 4 = .ok (.iload_n 1, 1) := by decide +kernel
theorem dX4_shift_5 : decode cX4_shift 5 = .ok (.invokevirtual 56, 3) := by decide +kernel
theorem dX4_shift_8 : decode cX4_shift 8 = .ok (.ifCond .eq 11, 3) := by decide +kernel
theorem dX4_shift_11 : decode cX4_shift 11 = .ok (.iload_n 2, 1) := by decide +kernel
theorem dX4_shift_12 : decode cX4_shift 12 = .ok (.iload_n 3, 1) := by decide +kernel
theorem dX4_shift_13 : decode cX4_shift 13 = .ok (.invokestatic 44, 3) := by decide +kernel
theorem dX4_shift_16 : decode cX4_shift 16 = .ok (.ifCond .ne 5, 3) := by decide +kernel
theorem dX4_shift_19 : decode cX4_shift 19 = .ok (.iconst (-1), 1) := by decide +kernel
theorem dX4_shift_20 : decode cX4_shift 20 = .ok (.ireturn, 1) := by decide +kernel
theorem dX4_shift_21 : decode cX4_shift 21 = .ok (.aload_n 0, 1) := by decide +kernel
theorem dX4_shift_22 : decode cX4_shift 22 = .ok (.getfield 10, 3) := by decide +kernel
theorem dX4_shift_25 : decode cX4_shift 25 = .ok (.getfield 60, 3) := by decide +kernel
theorem dX4_shift_28 : decode cX4_shift 28 = .ok (.iload_n 1, 1) := by decide +kernel
theorem dX4_shift_29 : decode cX4_shift 29 = .ok (.iload_n 2, 1) := by decide +kernel
theorem dX4_shift_30 : decode cX4_shift 30 = .ok (.iastore, 1) := by decide +kernel
theorem dX4_shift_31 : decode cX4_shift 31 = .ok (.aload_n 0, 1) := by decide +kernel
theorem dX4_shift_32 : decode cX4_shift 32 = .ok (.getfield 10, 3) := by decide +kernel
theorem dX4_shift_35 : decode cX4_shift 35 = .ok (.getfield 64, 3) := by decide +kernel
theorem dX4_shift_38 : decode cX4_shift 38 = .ok (.iload_n 1, 1) := by decide +kernel
theorem dX4_shift_39 : decode cX4_shift 39 = .ok (.iload_n 3, 1) := by decide +kernel
theorem dX4_shift_40 : decode cX4_shift 40 = .ok (.iastore, 1) := by decide +kernel
theorem dX4_shift_41 : decode cX4_shift 41 = .ok (.iconst 1, 1) := by decide +kernel
theorem dX4_shift_42 : decode cX4_shift 42 = .ok (.ireturn, 1) := by decide +kernel
theorem dX4_thing_0 : decode cX4_thing 0 = .ok (.iload_n 1, 1) := by decide +kernel
theorem dX4_thing_1 : decode cX4_thing 1 = .ok (.iload_n 2, 1) := by decide +kernel
theorem dX4_thing_2 : decode cX4_thing 2 = .ok (.invokestatic 67, 3) := by decide +kernel
theorem dX4_thing_5 : decode cX4_thing 5 = .ok (.ifCond .eq 13, 3) := by decide +kernel
theorem dX4_thing_8 : decode cX4_thing 8 = .ok (.iload_n 3, 1) := by decide +kernel
theorem dX4_thing_9 : decode cX4_thing 9 = .ok (.iconst 1, 1) := by decide +kernel
theorem dX4_thing_10 : decode cX4_thing 10 = .ok (.bipush 9, 2) := by decide +kernel
theorem dX4_thing_12 : decode cX4_thing 12 = .ok (.invokestatic 70, 3) := by decide +kernel
theorem dX4_thing_15 : decode cX4_thing 15 = .ok (.ifCond .ne 5, 3) := by decide +kernel
theorem dX4_thing_18 : decode cX4_thing 18 = .ok (.iconst (-1), 1) := by decide +kernel
theorem dX4_thing_19 : decode cX4_thing 19 = .ok (.ireturn, 1) := by decide +kernel
theorem dX4_thing_20 : decode cX4_thing 20 = .ok (.aload_n 0, 1) := by decide +kernel
theorem dX4_thing_21 : decode cX4_thing 21 = .ok (.getfield 10, 3) := by decide +kernel
theorem dX4_thing_24 : decode cX4_thing 24 = .ok (.getfield 74, 3) := by decide +kernel
theorem dX4_thing_27 : decode cX4_thing 27 = .ok (.bipush 6, 2) := by decide +kernel
theorem dX4_thing_29 : decode cX4_thing 29 = .ok (.if_icmp .lt 6, 3) := by decide +kernel
theorem dX4_thing_32 : decode cX4_thing 32 = .ok (.bipush (-2), 2) := by decide +kernel
theorem dX4_thing_34 : decode cX4_thing 34 = .ok (.ireturn, 1) := by decide +kernel
theorem dX4_thing_35 : decode cX4_thing 35 = .ok (.aload_n 0, 1) := by decide +kernel
theorem dX4_thing_36 : decode cX4_thing 36 = .ok (.getfield 10, 3) := by decide +kernel
theorem dX4_thing_39 : decode cX4_thing 39 = .ok (.iload_n 1, 1) := by decide +kernel
theorem dX4_thing_40 : decode cX4_thing 40 = .ok (.iload_n 2, 1) := by decide +kernel
theorem dX4_thing_41 : decode cX4_thing 41 = .ok (.iload_n 3, 1) := by decide +kernel
theorem dX4_thing_42 : decode cX4_thing 42 = .ok (.invokevirtual 77, 3) := by decide +kernel
theorem dX4_thing_45 : decode cX4_thing 45 = .ok (.ireturn, 1) := by decide +kernel
theorem dX4_loud_0 : decode cX4_loud 0 = .ok (.aload_n 0, 1) := by decide +kernel
theorem dX4_loud_1 : decode cX4_loud 1 = .ok (.getfield 10, 3) := by decide +kernel
theorem dX4_loud_4 : decode cX4_loud 4 = .ok (.iload_n 1, 1) := by decide +kernel
theorem dX4_loud_5 : decode cX4_loud 5 = .ok (.invokevirtual 81, 3) := by decide +kernel
theorem dX4_loud_8 : decode cX4_loud 8 = .ok (.ifCond .eq 13, 3) := by decide +kernel
theorem dX4_loud_11 : decode cX4_loud 11 = .ok (.iload_n 2, 1) := by decide +kernel
theorem dX4_loud_12 : decode cX4_loud 12 = .ok (.iconst 1, 1) := by decide +kernel
theorem dX4_loud_13 : decode cX4_loud 13 = .ok (.bipush 9, 2) := by decide +kernel
theorem dX4_loud_15 : decode cX4_loud 15 = .ok (.invokestatic 70, 3) := by decide +kernel
theorem dX4_loud_18 : decode cX4_loud 18 = .ok (.ifCond .ne 5, 3) := by decide +kernel
theorem dX4_loud_21 : decode cX4_loud 21 = .ok (.iconst (-1), 1) := by decide +kernel
theorem dX4_loud_22 : decode cX4_loud 22 = .ok (.ireturn, 1) := by decide +kernel
theorem dX4_loud_23 : decode cX4_loud 23 = .ok (.aload_n 0, 1) := by decide +kernel
theorem dX4_loud_24 : decode cX4_loud 24 = .ok (.getfield 10, 3) := by decide +kernel
theorem dX4_loud_27 : decode cX4_loud 27 = .ok (.getfield 84, 3) := by decide +kernel
theorem dX4_loud_30 : decode cX4_loud 30 = .ok (.iload_n 1, 1) := by decide +kernel
theorem dX4_loud_31 : decode cX4_loud 31 = .ok (.iaload, 1) := by decide +kernel
theorem dX4_loud_32 : decode cX4_loud 32 = .ok (.istore_n 3, 1) := by decide +kernel
theorem dX4_loud_33 : decode cX4_loud 33 = .ok (.aload_n 0, 1) := by decide +kernel
theorem dX4_loud_34 : decode cX4_loud 34 = .ok (.getfield 10, 3) := by decide +kernel
theorem dX4_loud_37 : decode cX4_loud 37 = .ok (.getfield 84, 3) := by decide +kernel
theorem dX4_loud_40 : decode cX4_loud 40 = .ok (.iload_n 1, 1) := by decide +kernel
theorem dX4_loud_41 : decode cX4_loud 41 = .ok (.iload_n 2, 1) := by decide +kernel
theorem dX4_loud_42 : decode cX4_loud 42 = .ok (.iastore, 1) := by decide +kernel
theorem dX4_loud_43 : decode cX4_loud 43 = .ok (.iload_n 3, 1) := by decide +kernel
theorem dX4_loud_44 : decode cX4_loud 44 = .ok (.ireturn, 1) := by decide +kernel
theorem dX4_take_0 : decode cX4_take 0 = .ok (.aload_n 0, 1) := by decide +kernel
theorem dX4_take_1 : decode cX4_take 1 = .ok (.getfield 10, 3) := by decide +kernel
theorem dX4_take_4 : decode cX4_take 4 = .ok (.iload_n 1, 1) := by decide +kernel
theorem dX4_take_5 : decode cX4_take 5 = .ok (.invokevirtual 56, 3) := by decide +kernel
theorem dX4_take_8 : decode cX4_take 8 = .ok (.ifCond .eq 13, 3) := by decide +kernel
theorem dX4_take_11 : decode cX4_take 11 = .ok (.iload_n 2, 1) := by decide +kernel
theorem dX4_take_12 : decode cX4_take 12 = .ok (.iconst 0, 1) := by decide +kernel
theorem dX4_take_13 : decode cX4_take 13 = .ok (.bipush 20, 2) := by decide +kernel
theorem dX4_take_15 : decode cX4_take 15 = .ok (.invokestatic 70, 3) := by decide +kernel
theorem dX4_take_18 : decode cX4_take 18 = .ok (.ifCond .ne 5, 3) := by decide +kernel
theorem dX4_take_21 : decode cX4_take 21 = .ok (.iconst (-1), 1) := by decide +kernel
theorem dX4_take_22 : decode cX4_take 22 = .ok (.ireturn, 1) := by decide +kernel
theorem dX4_take_23 : decode cX4_take 23 = .ok (.aload_n 0, 1) := by decide +kernel
theorem dX4_take_24 : decode cX4_take 24 = .ok (.getfield 10, 3) := by decide +kernel
theorem dX4_take_27 : decode cX4_take 27 = .ok (.getfield 87, 3) := by decide +kernel
theorem dX4_take_30 : decode cX4_take 30 = .ok (.bipush 16, 2) := by decide +kernel
theorem dX4_take_32 : decode cX4_take 32 = .ok (.if_icmp .ge 15, 3) := by decide +kernel
theorem dX4_take_35 : decode cX4_take 35 = .ok (.aload_n 0, 1) := by decide +kernel
theorem dX4_take_36 : decode cX4_take 36 = .ok (.getfield 10, 3) := by decide +kernel
theorem dX4_take_39 : decode cX4_take 39 = .ok (.iload_n 1, 1) := by decide +kernel
theorem dX4_take_40 : decode cX4_take 40 = .ok (.invokevirtual 90, 3) := by decide +kernel
theorem dX4_take_43 : decode cX4_take 43 = .ok (.iconst 4, 1) := by decide +kernel
theorem dX4_take_44 : decode cX4_take 44 = .ok (.if_icmp .lt 6, 3) := by decide +kernel
theorem dX4_take_47 : decode cX4_take 47 = .ok (.bipush (-2), 2) := by decide +kernel
theorem dX4_take_49 : decode cX4_take 49 = .ok (.ireturn, 1) := by decide +kernel
theorem dX4_take_50 : decode cX4_take 50 = .ok (.aload_n 0, 1) := by decide +kernel
theorem dX4_take_51 : decode cX4_take 51 = .ok (.getfield 10, 3) := by decide +kernel
theorem dX4_take_54 : decode cX4_take 54 = .ok (.iload_n 1, 1) := by decide +kernel
theorem dX4_take_55 : decode cX4_take 55 = .ok (.iload_n 2, 1) := by decide +kernel
theorem dX4_take_56 : decode cX4_take 56 = .ok (.invokevirtual 94, 3) := by decide +kernel
theorem dX4_take_59 : decode cX4_take 59 = .ok (.ireturn, 1) := by decide +kernel
theorem dX4_show_0 : decode cX4_show 0 = .ok (.aload_n 0, 1) := by decide +kernel
theorem dX4_show_1 : decode cX4_show 1 = .ok (.getfield 10, 3) := by decide +kernel
theorem dX4_show_4 : decode cX4_show 4 = .ok (.iload_n 1, 1) := by decide +kernel
theorem dX4_show_5 : decode cX4_show 5 = .ok (.invokevirtual 97, 3) := by decide +kernel
theorem dX4_show_8 : decode cX4_show 8 = .ok (.ifCond .eq 24, 3) := by decide +kernel
theorem dX4_show_11 : decode cX4_show 11 = .ok (.aload_n 0, 1) := by decide +kernel
theorem dX4_show_12 : decode cX4_show 12 = .ok (.getfield 10, 3) := by decide +kernel
theorem dX4_show_15 : decode cX4_show 15 = .ok (.iload_n 2, 1) := by decide +kernel
theorem dX4_show_16 : decode cX4_show 16 = .ok (.invokevirtual 81, 3) := by decide +kernel
theorem dX4_show_19 : decode cX4_show 19 = .ok (.ifCond .eq 13, 3) := by decide +kernel
theorem dX4_show_22 : decode cX4_show 22 = .ok (.iload_n 3, 1) := by decide +kernel
theorem dX4_show_23 : decode cX4_show 23 = .ok (.iconst (-1), 1) := by decide +kernel
theorem dX4_show_24 : decode cX4_show 24 = .ok (.bipush 99, 2) := by decide +kernel
theorem dX4_show_26 : decode cX4_show 26 = .ok (.invokestatic 70, 3) := by decide +kernel
theorem dX4_show_29 : decode cX4_show 29 = .ok (.ifCond .ne 6, 3) := by decide +kernel
theorem dX4_show_32 : decode cX4_show 32 = .ok (.bipush (-5), 2) := by decide +kernel
theorem dX4_show_34 : decode cX4_show 34 = .ok (.ireturn, 1) := by decide +kernel
theorem dX4_show_35 : decode cX4_show 35 = .ok (.aload_n 0, 1) := by decide +kernel
theorem dX4_show_36 : decode cX4_show 36 = .ok (.getfield 10, 3) := by decide +kernel
theorem dX4_show_39 : decode cX4_show 39 = .ok (.iload_n 1, 1) := by decide +kernel
theorem dX4_show_40 : decode cX4_show 40 = .ok (.iload_n 2, 1) := by decide +kernel
theorem dX4_show_41 : decode cX4_show 41 = .ok (.invokevirtual 100, 3) := by decide +kernel
theorem dX4_show_44 : decode cX4_show 44 = .ok (.istore 4, 2) := by decide +kernel
theorem dX4_show_46 : decode cX4_show 46 = .ok (.aload_n 0, 1) := by decide +kernel
theorem dX4_show_47 : decode cX4_show 47 = .ok (.getfield 10, 3) := by decide +kernel
theorem dX4_show_50 : decode cX4_show 50 = .ok (.iload_n 1, 1) := by decide +kernel
theorem dX4_show_51 : decode cX4_show 51 = .ok (.iload_n 2, 1) := by decide +kernel
theorem dX4_show_52 : decode cX4_show 52 = .ok (.iload_n 3, 1) := by decide +kernel
theorem dX4_show_53 : decode cX4_show 53 = .ok (.invokevirtual 103, 3) := by decide +kernel
theorem dX4_show_56 : decode cX4_show 56 = .ok (.iload 4, 2) := by decide +kernel
theorem dX4_show_58 : decode cX4_show 58 = .ok (.ireturn, 1) := by decide +kernel
theorem dX4_like_0 : decode cX4_like 0 = .ok (.aload_n 0, 1) := by decide +kernel
theorem dX4_like_1 : decode cX4_like 1 = .ok (.getfield 10, 3) := by decide +kernel
theorem dX4_like_4 : decode cX4_like 4 = .ok (.iload_n 1, 1) := by decide +kernel
theorem dX4_like_5 : decode cX4_like 5 = .ok (.invokevirtual 97, 3) := by decide +kernel
theorem dX4_like_8 : decode cX4_like 8 = .ok (.ifCond .eq 14, 3) := by decide +kernel
theorem dX4_like_11 : decode cX4_like 11 = .ok (.aload_n 0, 1) := by decide +kernel
theorem dX4_like_12 : decode cX4_like 12 = .ok (.getfield 10, 3) := by decide +kernel
theorem dX4_like_15 : decode cX4_like 15 = .ok (.iload_n 2, 1) := by decide +kernel
theorem dX4_like_16 : decode cX4_like 16 = .ok (.invokevirtual 97, 3) := by decide +kernel
theorem dX4_like_19 : decode cX4_like 19 = .ok (.ifCond .ne 5, 3) := by decide +kernel
theorem dX4_like_22 : decode cX4_like 22 = .ok (.iconst (-1), 1) := by decide +kernel
theorem dX4_like_23 : decode cX4_like 23 = .ok (.ireturn, 1) := by decide +kernel
theorem dX4_like_24 : decode cX4_like 24 = .ok (.aload_n 0, 1) := by decide +kernel
theorem dX4_like_25 : decode cX4_like 25 = .ok (.getfield 10, 3) := by decide +kernel
theorem dX4_like_28 : decode cX4_like 28 = .ok (.iload_n 2, 1) := by decide +kernel
theorem dX4_like_29 : decode cX4_like 29 = .ok (.iload_n 1, 1) := by decide +kernel
theorem dX4_like_30 : decode cX4_like 30 = .ok (.invokevirtual 107, 3) := by decide +kernel
theorem dX4_like_33 : decode cX4_like 33 = .ok (.ireturn, 1) := by decide +kernel
theorem dX4_of_0 : decode cX4_of 0 = .ok (.aload_n 0, 1) := by decide +kernel
theorem dX4_of_1 : decode cX4_of 1 = .ok (.getfield 10, 3) := by decide +kernel
theorem dX4_of_4 : decode cX4_of 4 = .ok (.iload_n 1, 1) := by decide +kernel
theorem dX4_of_5 : decode cX4_of 5 = .ok (.invokevirtual 56, 3) := by decide +kernel
theorem dX4_of_8 : decode cX4_of 8 = .ok (.ifCond .ne 5, 3) := by decide +kernel
theorem dX4_of_11 : decode cX4_of 11 = .ok (.iconst (-1), 1) := by decide +kernel
theorem dX4_of_12 : decode cX4_of 12 = .ok (.ireturn, 1) := by decide +kernel
theorem dX4_of_13 : decode cX4_of 13 = .ok (.iload_n 2, 1) := by decide +kernel
theorem dX4_of_14 : decode cX4_of 14 = .ok (.tableswitch 72 0 3 #[30, 40, 50, 59], 30) := by decide +kernel
theorem dX4_of_44 : decode cX4_of 44 = .ok (.aload_n 0, 1) := by decide +kernel
theorem dX4_of_45 : decode cX4_of 45 = .ok (.getfield 10, 3) := by decide +kernel
theorem dX4_of_48 : decode cX4_of 48 = .ok (.getfield 60, 3) := by decide +kernel
theorem dX4_of_51 : decode cX4_of 51 = .ok (.iload_n 1, 1) := by decide +kernel
theorem dX4_of_52 : decode cX4_of 52 = .ok (.iaload, 1) := by decide +kernel
theorem dX4_of_53 : decode cX4_of 53 = .ok (.ireturn, 1) := by decide +kernel
theorem dX4_of_54 : decode cX4_of 54 = .ok (.aload_n 0, 1) := by decide +kernel
theorem dX4_of_55 : decode cX4_of 55 = .ok (.getfield 10, 3) := by decide +kernel
theorem dX4_of_58 : decode cX4_of 58 = .ok (.getfield 64, 3) := by decide +kernel
theorem dX4_of_61 : decode cX4_of 61 = .ok (.iload_n 1, 1) := by decide +kernel
theorem dX4_of_62 : decode cX4_of 62 = .ok (.iaload, 1) := by decide +kernel
theorem dX4_of_63 : decode cX4_of 63 = .ok (.ireturn, 1) := by decide +kernel
theorem dX4_of_64 : decode cX4_of 64 = .ok (.aload_n 0, 1) := by decide +kernel
theorem dX4_of_65 : decode cX4_of 65 = .ok (.getfield 10, 3) := by decide +kernel
theorem dX4_of_68 : decode cX4_of 68 = .ok (.iload_n 1, 1) := by decide +kernel
theorem dX4_of_69 : decode cX4_of 69 = .ok (.invokevirtual 90, 3) := by decide +kernel
theorem dX4_of_72 : decode cX4_of 72 = .ok (.ireturn, 1) := by decide +kernel
theorem dX4_of_73 : decode cX4_of 73 = .ok (.aload_n 0, 1) := by decide +kernel
theorem dX4_of_74 : decode cX4_of 74 = .ok (.getfield 10, 3) := by decide +kernel
theorem dX4_of_77 : decode cX4_of 77 = .ok (.getfield 110, 3) := by decide +kernel
theorem dX4_of_80 : decode cX4_of 80 = .ok (.iload_n 1, 1) := by decide +kernel
theorem dX4_of_81 : decode cX4_of 81 = .ok (.iaload, 1) := by decide +kernel
theorem dX4_of_82 : decode cX4_of 82 = .ok (.invokestatic 113, 3) := by decide +kernel
theorem dX4_of_85 : decode cX4_of 85 = .ok (.ireturn, 1) := by decide +kernel
theorem dX4_of_86 : decode cX4_of 86 = .ok (.iconst (-1), 1) := by decide +kernel
theorem dX4_of_87 : decode cX4_of 87 = .ok (.ireturn, 1) := by decide +kernel
theorem dX4_told_0 : decode cX4_told 0 = .ok (.aload_n 0, 1) := by decide +kernel
theorem dX4_told_1 : decode cX4_told 1 = .ok (.getfield 10, 3) := by decide +kernel
theorem dX4_told_4 : decode cX4_told 4 = .ok (.iload_n 1, 1) := by decide +kernel
theorem dX4_told_5 : decode cX4_told 5 = .ok (.invokevirtual 97, 3) := by decide +kernel
theorem dX4_told_8 : decode cX4_told 8 = .ok (.ifCond .ne 5, 3) := by decide +kernel
theorem dX4_told_11 : decode cX4_told 11 = .ok (.iconst (-1), 1) := by decide +kernel
theorem dX4_told_12 : decode cX4_told 12 = .ok (.ireturn, 1) := by decide +kernel
theorem dX4_told_13 : decode cX4_told 13 = .ok (.iload_n 2, 1) := by decide +kernel
theorem dX4_told_14 : decode cX4_told 14 = .ok (.tableswitch 55 0 2 #[26, 36, 46], 26) := by decide +kernel
theorem dX4_told_40 : decode cX4_told 40 = .ok (.aload_n 0, 1) := by decide +kernel
theorem dX4_told_41 : decode cX4_told 41 = .ok (.getfield 10, 3) := by decide +kernel
theorem dX4_told_44 : decode cX4_told 44 = .ok (.getfield 116, 3) := by decide +kernel
theorem dX4_told_47 : decode cX4_told 47 = .ok (.iload_n 1, 1) := by decide +kernel
theorem dX4_told_48 : decode cX4_told 48 = .ok (.iaload, 1) := by decide +kernel
theorem dX4_told_49 : decode cX4_told 49 = .ok (.ireturn, 1) := by decide +kernel
theorem dX4_told_50 : decode cX4_told 50 = .ok (.aload_n 0, 1) := by decide +kernel
theorem dX4_told_51 : decode cX4_told 51 = .ok (.getfield 10, 3) := by decide +kernel
theorem dX4_told_54 : decode cX4_told 54 = .ok (.getfield 119, 3) := by decide +kernel
theorem dX4_told_57 : decode cX4_told 57 = .ok (.iload_n 1, 1) := by decide +kernel
theorem dX4_told_58 : decode cX4_told 58 = .ok (.iaload, 1) := by decide +kernel
theorem dX4_told_59 : decode cX4_told 59 = .ok (.ireturn, 1) := by decide +kernel
theorem dX4_told_60 : decode cX4_told 60 = .ok (.aload_n 0, 1) := by decide +kernel
theorem dX4_told_61 : decode cX4_told 61 = .ok (.getfield 10, 3) := by decide +kernel
theorem dX4_told_64 : decode cX4_told 64 = .ok (.iload_n 1, 1) := by decide +kernel
theorem dX4_told_65 : decode cX4_told 65 = .ok (.invokevirtual 122, 3) := by decide +kernel
theorem dX4_told_68 : decode cX4_told 68 = .ok (.ireturn, 1) := by decide +kernel
theorem dX4_told_69 : decode cX4_told 69 = .ok (.aload_n 0, 1) := by decide +kernel
theorem dX4_told_70 : decode cX4_told 70 = .ok (.iload_n 1, 1) := by decide +kernel
theorem dX4_told_71 : decode cX4_told 71 = .ok (.iload_n 2, 1) := by decide +kernel
theorem dX4_told_72 : decode cX4_told 72 = .ok (.invokevirtual 125, 3) := by decide +kernel
theorem dX4_told_75 : decode cX4_told 75 = .ok (.ireturn, 1) := by decide +kernel
theorem dX4_thingOf_0 : decode cX4_thingOf 0 = .ok (.aload_n 0, 1) := by decide +kernel
theorem dX4_thingOf_1 : decode cX4_thingOf 1 = .ok (.getfield 10, 3) := by decide +kernel
theorem dX4_thingOf_4 : decode cX4_thingOf 4 = .ok (.iload_n 1, 1) := by decide +kernel
theorem dX4_thingOf_5 : decode cX4_thingOf 5 = .ok (.invokevirtual 81, 3) := by decide +kernel
theorem dX4_thingOf_8 : decode cX4_thingOf 8 = .ok (.ifCond .ne 5, 3) := by decide +kernel
theorem dX4_thingOf_11 : decode cX4_thingOf 11 = .ok (.iconst (-1), 1) := by decide +kernel
theorem dX4_thingOf_12 : decode cX4_thingOf 12 = .ok (.ireturn, 1) := by decide +kernel
theorem dX4_thingOf_13 : decode cX4_thingOf 13 = .ok (.iload_n 2, 1) := by decide +kernel
theorem dX4_thingOf_14 : decode cX4_thingOf 14 = .ok (.tableswitch 69 0 3 #[30, 40, 50, 60], 30) := by decide +kernel
theorem dX4_thingOf_44 : decode cX4_thingOf 44 = .ok (.aload_n 0, 1) := by decide +kernel
theorem dX4_thingOf_45 : decode cX4_thingOf 45 = .ok (.getfield 10, 3) := by decide +kernel
theorem dX4_thingOf_48 : decode cX4_thingOf 48 = .ok (.getfield 128, 3) := by decide +kernel
