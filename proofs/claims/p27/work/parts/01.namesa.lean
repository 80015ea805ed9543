theorem dX0_init_0 : decode cX0_init 0 = .ok (.aload_n 0, 1) := by decide +kernel
theorem dX0_init_1 : decode cX0_init 1 = .ok (.invokespecial 3, 3) := by decide +kernel
theorem dX0_init_4 : decode cX0_init 4 = .ok (.aload_n 0, 1) := by decide +kernel
theorem dX0_init_5 : decode cX0_init 5 = .ok (.bipush 26, 2) := by decide +kernel
theorem dX0_init_7 : decode cX0_init 7 = .ok (.newarray .int, 2) := by decide +kernel
theorem dX0_init_9 : decode cX0_init 9 = .ok (.putfield 9, 3) := by decide +kernel
theorem dX0_init_12 : decode cX0_init 12 = .ok (.aload_n 0, 1) := by decide +kernel
theorem dX0_init_13 : decode cX0_init 13 = .ok (.bipush 26, 2) := by decide +kernel
theorem dX0_init_15 : decode cX0_init 15 = .ok (.newarray .int, 2) := by decide +kernel
theorem dX0_init_17 : decode cX0_init 17 = .ok (.putfield 15, 3) := by decide +kernel
theorem dX0_init_20 : decode cX0_init 20 = .ok (.aload_n 0, 1) := by decide +kernel
theorem dX0_init_21 : decode cX0_init 21 = .ok (.iconst 0, 1) := by decide +kernel
theorem dX0_init_22 : decode cX0_init 22 = .ok (.putfield 18, 3) := by decide +kernel
theorem dX0_init_25 : decode cX0_init 25 = .ok (.return_, 1) := by decide +kernel
theorem dX0_takeFrom_0 : decode cX0_takeFrom 0 = .ok (.aload_n 0, 1) := by decide +kernel
theorem dX0_takeFrom_1 : decode cX0_takeFrom 1 = .ok (.aload_n 1, 1) := by decide +kernel
theorem dX0_takeFrom_2 : decode cX0_takeFrom 2 = .ok (.invokevirtual 22, 3) := by decide +kernel
theorem dX0_takeFrom_5 : decode cX0_takeFrom 5 = .ok (.putfield 18, 3) := by decide +kernel
theorem dX0_takeFrom_8 : decode cX0_takeFrom 8 = .ok (.iconst 0, 1) := by decide +kernel
theorem dX0_takeFrom_9 : decode cX0_takeFrom 9 = .ok (.istore_n 2, 1) := by decide +kernel
theorem dX0_takeFrom_10 : decode cX0_takeFrom 10 = .ok (.iload_n 2, 1) := by decide +kernel
theorem dX0_takeFrom_11 : decode cX0_takeFrom 11 = .ok (.bipush 26, 2) := by decide +kernel
theorem dX0_takeFrom_13 : decode cX0_takeFrom 13 = .ok (.if_icmp .ge 33, 3) := by decide +kernel
theorem dX0_takeFrom_16 : decode cX0_takeFrom 16 = .ok (.aload_n 1, 1) := by decide +kernel
theorem dX0_takeFrom_17 : decode cX0_takeFrom 17 = .ok (.iload_n 2, 1) := by decide +kernel
theorem dX0_takeFrom_18 : decode cX0_takeFrom 18 = .ok (.invokevirtual 28, 3) := by decide +kernel
theorem dX0_takeFrom_21 : decode cX0_takeFrom 21 = .ok (.astore_n 3, 1) := by decide +kernel
theorem dX0_takeFrom_22 : decode cX0_takeFrom 22 = .ok (.aload_n 0, 1) := by decide +kernel
theorem dX0_takeFrom_23 : decode cX0_takeFrom 23 = .ok (.getfield 9, 3) := by decide +kernel
theorem dX0_takeFrom_26 : decode cX0_takeFrom 26 = .ok (.iload_n 2, 1) := by decide +kernel
theorem dX0_takeFrom_27 : decode cX0_takeFrom 27 = .ok (.aload_n 3, 1) := by decide +kernel
theorem dX0_takeFrom_28 : decode cX0_takeFrom 28 = .ok (.ifnonnull 7, 3) := by decide +kernel
theorem dX0_takeFrom_31 : decode cX0_takeFrom 31 = .ok (.iconst 0, 1) := by decide +kernel
theorem dX0_takeFrom_32 : decode cX0_takeFrom 32 = .ok (.goto 7, 3) := by decide +kernel
theorem dX0_takeFrom_35 : decode cX0_takeFrom 35 = .ok (.aload_n 3, 1) := by decide +kernel
theorem dX0_takeFrom_36 : decode cX0_takeFrom 36 = .ok (.getfield 32, 3) := by decide +kernel
theorem dX0_takeFrom_39 : decode cX0_takeFrom 39 = .ok (.iastore, 1) := by decide +kernel
theorem dX0_takeFrom_40 : decode cX0_takeFrom 40 = .ok (.iinc 2 1, 3) := by decide +kernel
theorem dX0_takeFrom_43 : decode cX0_takeFrom 43 = .ok (.goto (-33), 3) := by decide +kernel
theorem dX0_takeFrom_46 : decode cX0_takeFrom 46 = .ok (.return_, 1) := by decide +kernel
theorem dX0_tryBody_0 : decode cX0_tryBody 0 = .ok (.iload_n 1, 1) := by decide +kernel
theorem dX0_tryBody_1 : decode cX0_tryBody 1 = .ok (.invokestatic 36, 3) := by decide +kernel
theorem dX0_tryBody_4 : decode cX0_tryBody 4 = .ok (.ifCond .eq 10, 3) := by decide +kernel
theorem dX0_tryBody_7 : decode cX0_tryBody 7 = .ok (.aload_n 0, 1) := by decide +kernel
theorem dX0_tryBody_8 : decode cX0_tryBody 8 = .ok (.getfield 9, 3) := by decide +kernel
theorem dX0_tryBody_11 : decode cX0_tryBody 11 = .ok (.iload_n 1, 1) := by decide +kernel
theorem dX0_tryBody_12 : decode cX0_tryBody 12 = .ok (.iload_n 2, 1) := by decide +kernel
theorem dX0_tryBody_13 : decode cX0_tryBody 13 = .ok (.iastore, 1) := by decide +kernel
theorem dX0_tryBody_14 : decode cX0_tryBody 14 = .ok (.return_, 1) := by decide +kernel
theorem dX0_calledBy_0 : decode cX0_calledBy 0 = .ok (.iload_n 1, 1) := by decide +kernel
theorem dX0_calledBy_1 : decode cX0_calledBy 1 = .ok (.invokestatic 36, 3) := by decide +kernel
theorem dX0_calledBy_4 : decode cX0_calledBy 4 = .ok (.ifCond .eq 12, 3) := by decide +kernel
theorem dX0_calledBy_7 : decode cX0_calledBy 7 = .ok (.aload_n 0, 1) := by decide +kernel
theorem dX0_calledBy_8 : decode cX0_calledBy 8 = .ok (.getfield 9, 3) := by decide +kernel
theorem dX0_calledBy_11 : decode cX0_calledBy 11 = .ok (.iload_n 1, 1) := by decide +kernel
theorem dX0_calledBy_12 : decode cX0_calledBy 12 = .ok (.iaload, 1) := by decide +kernel
theorem dX0_calledBy_13 : decode cX0_calledBy 13 = .ok (.goto 4, 3) := by decide +kernel
theorem dX0_calledBy_16 : decode cX0_calledBy 16 = .ok (.iconst 0, 1) := by decide +kernel
theorem dX0_calledBy_17 : decode cX0_calledBy 17 = .ok (.ireturn, 1) := by decide +kernel
theorem dX0_reachedFrom_0 : decode cX0_reachedFrom 0 = .ok (.aload_n 0, 1) := by decide +kernel
theorem dX0_reachedFrom_1 : decode cX0_reachedFrom 1 = .ok (.invokevirtual 40, 3) := by decide +kernel
theorem dX0_reachedFrom_4 : decode cX0_reachedFrom 4 = .ok (.iload_n 1, 1) := by decide +kernel
theorem dX0_reachedFrom_5 : decode cX0_reachedFrom 5 = .ok (.invokestatic 36, 3) := by decide +kernel
theorem dX0_reachedFrom_8 : decode cX0_reachedFrom 8 = .ok (.ifCond .eq 12, 3) := by decide +kernel
theorem dX0_reachedFrom_11 : decode cX0_reachedFrom 11 = .ok (.aload_n 0, 1) := by decide +kernel
theorem dX0_reachedFrom_12 : decode cX0_reachedFrom 12 = .ok (.getfield 15, 3) := by decide +kernel
theorem dX0_reachedFrom_15 : decode cX0_reachedFrom 15 = .ok (.iload_n 1, 1) := by decide +kernel
theorem dX0_reachedFrom_16 : decode cX0_reachedFrom 16 = .ok (.iaload, 1) := by decide +kernel
theorem dX0_reachedFrom_17 : decode cX0_reachedFrom 17 = .ok (.goto 4, 3) := by decide +kernel
theorem dX0_reachedFrom_20 : decode cX0_reachedFrom 20 = .ok (.iconst 0, 1) := by decide +kernel
theorem dX0_reachedFrom_21 : decode cX0_reachedFrom 21 = .ok (.ireturn, 1) := by decide +kernel
theorem dX0_callersOf_0 : decode cX0_callersOf 0 = .ok (.iconst 0, 1) := by decide +kernel
theorem dX0_callersOf_1 : decode cX0_callersOf 1 = .ok (.istore_n 2, 1) := by decide +kernel
theorem dX0_callersOf_2 : decode cX0_callersOf 2 = .ok (.iconst 0, 1) := by decide +kernel
theorem dX0_callersOf_3 : decode cX0_callersOf 3 = .ok (.istore_n 3, 1) := by decide +kernel
theorem dX0_callersOf_4 : decode cX0_callersOf 4 = .ok (.iload_n 3, 1) := by decide +kernel
theorem dX0_callersOf_5 : decode cX0_callersOf 5 = .ok (.bipush 26, 2) := by decide +kernel
theorem dX0_callersOf_7 : decode cX0_callersOf 7 = .ok (.if_icmp .ge 28, 3) := by decide +kernel
theorem dX0_callersOf_10 : decode cX0_callersOf 10 = .ok (.aload_n 0, 1) := by decide +kernel
theorem dX0_callersOf_11 : decode cX0_callersOf 11 = .ok (.getfield 9, 3) := by decide +kernel
theorem dX0_callersOf_14 : decode cX0_callersOf 14 = .ok (.iload_n 3, 1) := by decide +kernel
theorem dX0_callersOf_15 : decode cX0_callersOf 15 = .ok (.iaload, 1) := by decide +kernel
theorem dX0_callersOf_16 : decode cX0_callersOf 16 = .ok (.iload_n 1, 1) := by decide +kernel
theorem dX0_callersOf_17 : decode cX0_callersOf 17 = .ok (.invokestatic 43, 3) := by decide +kernel
theorem dX0_callersOf_20 : decode cX0_callersOf 20 = .ok (.ifCond .eq 9, 3) := by decide +kernel
theorem dX0_callersOf_23 : decode cX0_callersOf 23 = .ok (.iload_n 2, 1) := by decide +kernel
theorem dX0_callersOf_24 : decode cX0_callersOf 24 = .ok (.iconst 1, 1) := by decide +kernel
theorem dX0_callersOf_25 : decode cX0_callersOf 25 = .ok (.iload_n 3, 1) := by decide +kernel
theorem dX0_callersOf_26 : decode cX0_callersOf 26 = .ok (.ishl, 1) := by decide +kernel
theorem dX0_callersOf_27 : decode cX0_callersOf 27 = .ok (.ior, 1) := by decide +kernel
theorem dX0_callersOf_28 : decode cX0_callersOf 28 = .ok (.istore_n 2, 1) := by decide +kernel
theorem dX0_callersOf_29 : decode cX0_callersOf 29 = .ok (.iinc 3 1, 3) := by decide +kernel
theorem dX0_callersOf_32 : decode cX0_callersOf 32 = .ok (.goto (-28), 3) := by decide +kernel
theorem dX0_callersOf_35 : decode cX0_callersOf 35 = .ok (.iload_n 2, 1) := by decide +kernel
theorem dX0_callersOf_36 : decode cX0_callersOf 36 = .ok (.ireturn, 1) := by decide +kernel
theorem dX0_reaching_0 : decode cX0_reaching 0 = .ok (.aload_n 0, 1) := by decide +kernel
theorem dX0_reaching_1 : decode cX0_reaching 1 = .ok (.invokevirtual 40, 3) := by decide +kernel
theorem dX0_reaching_4 : decode cX0_reaching 4 = .ok (.iconst 0, 1) := by decide +kernel
theorem dX0_reaching_5 : decode cX0_reaching 5 = .ok (.istore_n 2, 1) := by decide +kernel
theorem dX0_reaching_6 : decode cX0_reaching 6 = .ok (.iconst 0, 1) := by decide +kernel
theorem dX0_reaching_7 : decode cX0_reaching 7 = .ok (.istore_n 3, 1) := by decide +kernel
theorem dX0_reaching_8 : decode cX0_reaching 8 = .ok (.iload_n 3, 1) := by decide +kernel
theorem dX0_reaching_9 : decode cX0_reaching 9 = .ok (.bipush 26, 2) := by decide +kernel
theorem dX0_reaching_11 : decode cX0_reaching 11 = .ok (.if_icmp .ge 28, 3) := by decide +kernel
theorem dX0_reaching_14 : decode cX0_reaching 14 = .ok (.aload_n 0, 1) := by decide +kernel
theorem dX0_reaching_15 : decode cX0_reaching 15 = .ok (.getfield 15, 3) := by decide +kernel
theorem dX0_reaching_18 : decode cX0_reaching 18 = .ok (.iload_n 3, 1) := by decide +kernel
theorem dX0_reaching_19 : decode cX0_reaching 19 = .ok (.iaload, 1) := by decide +kernel
theorem dX0_reaching_20 : decode cX0_reaching 20 = .ok (.iload_n 1, 1) := by decide +kernel
theorem dX0_reaching_21 : decode cX0_reaching 21 = .ok (.invokestatic 43, 3) := by decide +kernel
theorem dX0_reaching_24 : decode cX0_reaching 24 = .ok (.ifCond .eq 9, 3) := by decide +kernel
theorem dX0_reaching_27 : decode cX0_reaching 27 = .ok (.iload_n 2, 1) := by decide +kernel
theorem dX0_reaching_28 : decode cX0_reaching 28 = .ok (.iconst 1, 1) := by decide +kernel
theorem dX0_reaching_29 : decode cX0_reaching 29 = .ok (.iload_n 3, 1) := by decide +kernel
theorem dX0_reaching_30 : decode cX0_reaching 30 = .ok (.ishl, 1) := by decide +kernel
theorem dX0_reaching_31 : decode cX0_reaching 31 = .ok (.ior, 1) := by decide +kernel
theorem dX0_reaching_32 : decode cX0_reaching 32 = .ok (.istore_n 2, 1) := by decide +kernel
theorem dX0_reaching_33 : decode cX0_reaching 33 = .ok (.iinc 3 1, 3) := by decide +kernel
theorem dX0_reaching_36 : decode cX0_reaching 36 = .ok (.goto (-28), 3) := by decide +kernel
theorem dX0_reaching_39 : decode cX0_reaching 39 = .ok (.iload_n 2, 1) := by decide +kernel
theorem dX0_reaching_40 : decode cX0_reaching 40 = .ok (.ireturn, 1) := by decide +kernel
theorem dX0_inRings_0 : decode cX0_inRings 0 = .ok (.aload_n 0, 1) := by decide +kernel
theorem dX0_inRings_1 : decode cX0_inRings 1 = .ok (.invokevirtual 40, 3) := by decide +kernel
theorem dX0_inRings_4 : decode cX0_inRings 4 = .ok (.iconst 0, 1) := by decide +kernel
theorem dX0_inRings_5 : decode cX0_inRings 5 = .ok (.istore_n 1, 1) := by decide +kernel
theorem dX0_inRings_6 : decode cX0_inRings 6 = .ok (.iconst 0, 1) := by decide +kernel
theorem dX0_inRings_7 : decode cX0_inRings 7 = .ok (.istore_n 2, 1) := by decide +kernel
theorem dX0_inRings_8 : decode cX0_inRings 8 = .ok (.iload_n 2, 1) := by decide +kernel
theorem dX0_inRings_9 : decode cX0_inRings 9 = .ok (.bipush 26, 2) := by decide +kernel
theorem dX0_inRings_11 : decode cX0_inRings 11 = .ok (.if_icmp .ge 28, 3) := by decide +kernel
theorem dX0_inRings_14 : decode cX0_inRings 14 = .ok (.aload_n 0, 1) := by decide +kernel
theorem dX0_inRings_15 : decode cX0_inRings 15 = .ok (.getfield 15, 3) := by decide +kernel
theorem dX0_inRings_18 : decode cX0_inRings 18 = .ok (.iload_n 2, 1) := by decide +kernel
theorem dX0_inRings_19 : decode cX0_inRings 19 = .ok (.iaload, 1) := by decide +kernel
theorem dX0_inRings_20 : decode cX0_inRings 20 = .ok (.iload_n 2, 1) := by decide +kernel
theorem dX0_inRings_21 : decode cX0_inRings 21 = .ok (.invokestatic 43, 3) := by decide +kernel
theorem dX0_inRings_24 : decode cX0_inRings 24 = .ok (.ifCond .eq 9, 3) := by decide +kernel
theorem dX0_inRings_27 : decode cX0_inRings 27 = .ok (.iload_n 1, 1) := by decide +kernel
theorem dX0_inRings_28 : decode cX0_inRings 28 = .ok (.iconst 1, 1) := by decide +kernel
theorem dX0_inRings_29 : decode cX0_inRings 29 = .ok (.iload_n 2, 1) := by decide +kernel
theorem dX0_inRings_30 : decode cX0_inRings 30 = .ok (.ishl, 1) := by decide +kernel
theorem dX0_inRings_31 : decode cX0_inRings 31 = .ok (.ior, 1) := by decide +kernel
theorem dX0_inRings_32 : decode cX0_inRings 32 = .ok (.istore_n 1, 1) := by decide +kernel
theorem dX0_inRings_33 : decode cX0_inRings 33 = .ok (.iinc 2 1, 3) := by decide +kernel
theorem dX0_inRings_36 : decode cX0_inRings 36 = .ok (.goto (-28), 3) := by decide +kernel
theorem dX0_inRings_39 : decode cX0_inRings 39 = .ok (.iload_n 1, 1) := by decide +kernel
theorem dX0_inRings_40 : decode cX0_inRings 40 = .ok (.ireturn, 1) := by decide +kernel
theorem dX0_calledButNotDefined_0 : decode cX0_calledButNotDefined 0 = .ok (.aload_n 0, 1) := by decide +kernel
theorem dX0_calledButNotDefined_1 : decode cX0_calledButNotDefined 1 = .ok (.aload_n 0, 1) := by decide +kernel
theorem dX0_calledButNotDefined_2 : decode cX0_calledButNotDefined 2 = .ok (.getfield 18, 3) := by decide +kernel
theorem dX0_calledButNotDefined_5 : decode cX0_calledButNotDefined 5 = .ok (.invokevirtual 47, 3) := by decide +kernel
theorem dX0_calledButNotDefined_8 : decode cX0_calledButNotDefined 8 = .ok (.aload_n 0, 1) := by decide +kernel
theorem dX0_calledButNotDefined_9 : decode cX0_calledButNotDefined 9 = .ok (.getfield 18, 3) := by decide +kernel
theorem dX0_calledButNotDefined_12 : decode cX0_calledButNotDefined 12 = .ok (.iconst (-1), 1) := by decide +kernel
theorem dX0_calledButNotDefined_13 : decode cX0_calledButNotDefined 13 = .ok (.ixor, 1) := by decide +kernel
theorem dX0_calledButNotDefined_14 : decode cX0_calledButNotDefined 14 = .ok (.iand, 1) := by decide +kernel
theorem dX0_calledButNotDefined_15 : decode cX0_calledButNotDefined 15 = .ok (.ireturn, 1) := by decide +kernel
theorem dX0_longestChain_0 : decode cX0_longestChain 0 = .ok (.iload_n 1, 1) := by decide +kernel
theorem dX0_longestChain_1 : decode cX0_longestChain 1 = .ok (.invokestatic 36, 3) := by decide +kernel
theorem dX0_longestChain_4 : decode cX0_longestChain 4 = .ok (.ifCond .eq 14, 3) := by decide +kernel
theorem dX0_longestChain_7 : decode cX0_longestChain 7 = .ok (.aload_n 0, 1) := by decide +kernel
theorem dX0_longestChain_8 : decode cX0_longestChain 8 = .ok (.getfield 18, 3) := by decide +kernel
theorem dX0_longestChain_11 : decode cX0_longestChain 11 = .ok (.iconst 1, 1) := by decide +kernel
theorem dX0_longestChain_12 : decode cX0_longestChain 12 = .ok (.iload_n 1, 1) := by decide +kernel
theorem dX0_longestChain_13 : decode cX0_longestChain 13 = .ok (.ishl, 1) := by decide +kernel
theorem dX0_longestChain_14 : decode cX0_longestChain 14 = .ok (.iand, 1) := by decide +kernel
theorem dX0_longestChain_15 : decode cX0_longestChain 15 = .ok (.goto 4, 3) := by decide +kernel
theorem dX0_longestChain_18 : decode cX0_longestChain 18 = .ok (.iconst 0, 1) := by decide +kernel
theorem dX0_longestChain_19 : decode cX0_longestChain 19 = .ok (.istore_n 2, 1) := by decide +kernel
theorem dX0_longestChain_20 : decode cX0_longestChain 20 = .ok (.iconst 0, 1) := by decide +kernel
theorem dX0_longestChain_21 : decode cX0_longestChain 21 = .ok (.istore_n 3, 1) := by decide +kernel
theorem dX0_longestChain_22 : decode cX0_longestChain 22 = .ok (.iload_n 3, 1) := by decide +kernel
theorem dX0_longestChain_23 : decode cX0_longestChain 23 = .ok (.bipush 26, 2) := by decide +kernel
theorem dX0_longestChain_25 : decode cX0_longestChain 25 = .ok (.if_icmp .gt 26, 3) := by decide +kernel
theorem dX0_longestChain_28 : decode cX0_longestChain 28 = .ok (.iload_n 2, 1) := by decide +kernel
theorem dX0_longestChain_29 : decode cX0_longestChain 29 = .ok (.ifCond .ne 5, 3) := by decide +kernel
theorem dX0_longestChain_32 : decode cX0_longestChain 32 = .ok (.iload_n 3, 1) := by decide +kernel
theorem dX0_longestChain_33 : decode cX0_longestChain 33 = .ok (.ireturn, 1) := by decide +kernel
theorem dX0_longestChain_34 : decode cX0_longestChain 34 = .ok (.aload_n 0, 1) := by decide +kernel
theorem dX0_longestChain_35 : decode cX0_longestChain 35 = .ok (.iload_n 2, 1) := by decide +kernel
theorem dX0_longestChain_36 : decode cX0_longestChain 36 = .ok (.invokevirtual 47, 3) := by decide +kernel
theorem dX0_longestChain_39 : decode cX0_longestChain 39 = .ok (.aload_n 0, 1) := by decide +kernel
theorem dX0_longestChain_40 : decode cX0_longestChain 40 = .ok (.getfield 18, 3) := by decide +kernel
theorem dX0_longestChain_43 : decode cX0_longestChain 43 = .ok (.iand, 1) := by decide +kernel
theorem dX0_longestChain_44 : decode cX0_longestChain 44 = .ok (.istore_n 2, 1) := by decide +kernel
theorem dX0_longestChain_45 : decode cX0_longestChain 45 = .ok (.iinc 3 1, 3) := by decide +kernel
theorem dX0_longestChain_48 : decode cX0_longestChain 48 = .ok (.goto (-26), 3) := by decide +kernel
theorem dX0_longestChain_51 : decode cX0_longestChain 51 = .ok (.iconst (-1), 1) := by decide +kernel
theorem dX0_longestChain_52 : decode cX0_longestChain 52 = .ok (.ireturn, 1) := by decide +kernel
theorem dX0_followCalls_0 : decode cX0_followCalls 0 = .ok (.iconst 0, 1) := by decide +kernel
theorem dX0_followCalls_1 : decode cX0_followCalls 1 = .ok (.istore_n 1, 1) := by decide +kernel
theorem dX0_followCalls_2 : decode cX0_followCalls 2 = .ok (.iload_n 1, 1) := by decide +kernel
theorem dX0_followCalls_3 : decode cX0_followCalls 3 = .ok (.bipush 26, 2) := by decide +kernel
theorem dX0_followCalls_5 : decode cX0_followCalls 5 = .ok (.if_icmp .ge 21, 3) := by decide +kernel
theorem dX0_followCalls_8 : decode cX0_followCalls 8 = .ok (.aload_n 0, 1) := by decide +kernel
theorem dX0_followCalls_9 : decode cX0_followCalls 9 = .ok (.getfield 15, 3) := by decide +kernel
theorem dX0_followCalls_12 : decode cX0_followCalls 12 = .ok (.iload_n 1, 1) := by decide +kernel
theorem dX0_followCalls_13 : decode cX0_followCalls 13 = .ok (.aload_n 0, 1) := by decide +kernel
theorem dX0_followCalls_14 : decode cX0_followCalls 14 = .ok (.getfield 9, 3) := by decide +kernel
theorem dX0_followCalls_17 : decode cX0_followCalls 17 = .ok (.iload_n 1, 1) := by decide +kernel
theorem dX0_followCalls_18 : decode cX0_followCalls 18 = .ok (.iaload, 1) := by decide +kernel
theorem dX0_followCalls_19 : decode cX0_followCalls 19 = .ok (.iastore, 1) := by decide +kernel
theorem dX0_followCalls_20 : decode cX0_followCalls 20 = .ok (.iinc 1 1, 3) := by decide +kernel
theorem dX0_followCalls_23 : decode cX0_followCalls 23 = .ok (.goto (-21), 3) := by decide +kernel
theorem dX0_followCalls_26 : decode cX0_followCalls 26 = .ok (.iconst 0, 1) := by decide +kernel
theorem dX0_followCalls_27 : decode cX0_followCalls 27 = .ok (.istore_n 1, 1) := by decide +kernel
theorem dX0_followCalls_28 : decode cX0_followCalls 28 = .ok (.iload_n 1, 1) := by decide +kernel
theorem dX0_followCalls_29 : decode cX0_followCalls 29 = .ok (.bipush 26, 2) := by decide +kernel
theorem dX0_followCalls_31 : decode cX0_followCalls 31 = .ok (.if_icmp .ge 51, 3) := by decide +kernel
theorem dX0_followCalls_34 : decode cX0_followCalls 34 = .ok (.iconst 0, 1) := by decide +kernel
theorem dX0_followCalls_35 : decode cX0_followCalls 35 = .ok (.istore_n 2, 1) := by decide +kernel
theorem dX0_followCalls_36 : decode cX0_followCalls 36 = .ok (.iload_n 2, 1) := by decide +kernel
theorem dX0_followCalls_37 : decode cX0_followCalls 37 = .ok (.bipush 26, 2) := by decide +kernel
theorem dX0_followCalls_39 : decode cX0_followCalls 39 = .ok (.if_icmp .ge 37, 3) := by decide +kernel
theorem dX0_followCalls_42 : decode cX0_followCalls 42 = .ok (.aload_n 0, 1) := by decide +kernel
theorem dX0_followCalls_43 : decode cX0_followCalls 43 = .ok (.getfield 15, 3) := by decide +kernel
theorem dX0_followCalls_46 : decode cX0_followCalls 46 = .ok (.iload_n 2, 1) := by decide +kernel
theorem dX0_followCalls_47 : decode cX0_followCalls 47 = .ok (.iaload, 1) := by decide +kernel
theorem dX0_followCalls_48 : decode cX0_followCalls 48 = .ok (.iload_n 1, 1) := by decide +kernel
theorem dX0_followCalls_49 : decode cX0_followCalls 49 = .ok (.invokestatic 43, 3) := by decide +kernel
theorem dX0_followCalls_52 : decode cX0_followCalls 52 = .ok (.ifCond .eq 18, 3) := by decide +kernel
theorem dX0_followCalls_55 : decode cX0_followCalls 55 = .ok (.aload_n 0, 1) := by decide +kernel
theorem dX0_followCalls_56 : decode cX0_followCalls 56 = .ok (.getfield 15, 3) := by decide +kernel
theorem dX0_followCalls_59 : decode cX0_followCalls 59 = .ok (.iload_n 2, 1) := by decide +kernel
theorem dX0_followCalls_60 : decode cX0_followCalls 60 = .ok (.dup2, 1) := by decide +kernel
theorem dX0_followCalls_61 : decode cX0_followCalls 61 = .ok (.iaload, 1) := by decide +kernel
theorem dX0_followCalls_62 : decode cX0_followCalls 62 = .ok (.aload_n 0, 1) := by decide +kernel
theorem dX0_followCalls_63 : decode cX0_followCalls 63 = .ok (.getfield 15, 3) := by decide +kernel
theorem dX0_followCalls_66 : decode cX0_followCalls 66 = .ok (.iload_n 1, 1) := by decide +kernel
theorem dX0_followCalls_67 : decode cX0_followCalls 67 = .ok (.iaload, 1) := by decide +kernel
theorem dX0_followCalls_68 : decode cX0_followCalls 68 = .ok (.ior, 1) := by decide +kernel
theorem dX0_followCalls_69 : decode cX0_followCalls 69 = .ok (.iastore, 1) := by decide +kernel
theorem dX0_followCalls_70 : decode cX0_followCalls 70 = .ok (.iinc 2 1, 3) := by decide +kernel
theorem dX0_followCalls_73 : decode cX0_followCalls 73 = .ok (.goto (-37), 3) := by decide +kernel
theorem dX0_followCalls_76 : decode cX0_followCalls 76 = .ok (.iinc 1 1, 3) := by decide +kernel
theorem dX0_followCalls_79 : decode cX0_followCalls 79 = .ok (.goto (-51), 3) := by decide +kernel
theorem dX0_followCalls_82 : decode cX0_followCalls 82 = .ok (.return_, 1) := by decide +kernel
theorem dX0_calledInBodiesOf_0 : decode cX0_calledInBodiesOf 0 = .ok (.iconst 0, 1) := by decide +kernel
theorem dX0_calledInBodiesOf_1 : decode cX0_calledInBodiesOf 1 = .ok (.istore_n 2, 1) := by decide +kernel
theorem dX0_calledInBodiesOf_2 : decode cX0_calledInBodiesOf 2 = .ok (.iconst 0, 1) := by decide +kernel
theorem dX0_calledInBodiesOf_3 : decode cX0_calledInBodiesOf 3 = .ok (.istore_n 3, 1) := by decide +kernel
theorem dX0_calledInBodiesOf_4 : decode cX0_calledInBodiesOf 4 = .ok (.iload_n 3, 1) := by decide +kernel
theorem dX0_calledInBodiesOf_5 : decode cX0_calledInBodiesOf 5 = .ok (.bipush 26, 2) := by decide +kernel
theorem dX0_calledInBodiesOf_7 : decode cX0_calledInBodiesOf 7 = .ok (.if_icmp .ge 26, 3) := by decide +kernel
theorem dX0_calledInBodiesOf_10 : decode cX0_calledInBodiesOf 10 = .ok (.iload_n 1, 1) := by decide +kernel
theorem dX0_calledInBodiesOf_11 : decode cX0_calledInBodiesOf 11 = .ok (.iload_n 3, 1) := by decide +kernel
theorem dX0_calledInBodiesOf_12 : decode cX0_calledInBodiesOf 12 = .ok (.invokestatic 43, 3) := by decide +kernel
theorem dX0_calledInBodiesOf_15 : decode cX0_calledInBodiesOf 15 = .ok (.ifCond .eq 12, 3) := by decide +kernel
theorem dX0_calledInBodiesOf_18 : decode cX0_calledInBodiesOf 18 = .ok (.iload_n 2, 1) := by decide +kernel
theorem dX0_calledInBodiesOf_19 : decode cX0_calledInBodiesOf 19 = .ok (.aload_n 0, 1) := by decide +kernel
theorem dX0_calledInBodiesOf_20 : decode cX0_calledInBodiesOf 20 = .ok (.getfield 9, 3) := by decide +kernel
theorem dX0_calledInBodiesOf_23 : decode cX0_calledInBodiesOf 23 = .ok (.iload_n 3, 1) := by decide +kernel
theorem dX0_calledInBodiesOf_24 : decode cX0_calledInBodiesOf 24 = .ok (.iaload, 1) := by decide +kernel
theorem dX0_calledInBodiesOf_25 : decode cX0_calledInBodiesOf 25 = .ok (.ior, 1) := by decide +kernel
theorem dX0_calledInBodiesOf_26 : decode cX0_calledInBodiesOf 26 = .ok (.istore_n 2, 1) := by decide +kernel
theorem dX0_calledInBodiesOf_27 : decode cX0_calledInBodiesOf 27 = .ok (.iinc 3 1, 3) := by decide +kernel
theorem dX0_calledInBodiesOf_30 : decode cX0_calledInBodiesOf 30 = .ok (.goto (-26), 3) := by decide +kernel
theorem dX0_calledInBodiesOf_33 : decode cX0_calledInBodiesOf 33 = .ok (.iload_n 2, 1) := by decide +kernel
theorem dX0_calledInBodiesOf_34 : decode cX0_calledInBodiesOf 34 = .ok (.ireturn, 1) := by decide +kernel
theorem dX0_holds_0 : decode cX0_holds 0 = .ok (.iload_n 1, 1) := by decide +kernel
theorem dX0_holds_1 : decode cX0_holds 1 = .ok (.invokestatic 36, 3) := by decide +kernel
theorem dX0_holds_4 : decode cX0_holds 4 = .ok (.ifCond .eq 15, 3) := by decide +kernel
theorem dX0_holds_7 : decode cX0_holds 7 = .ok (.iload_n 0, 1) := by decide +kernel
theorem dX0_holds_8 : decode cX0_holds 8 = .ok (.iconst 1, 1) := by decide +kernel
theorem dX0_holds_9 : decode cX0_holds 9 = .ok (.iload_n 1, 1) := by decide +kernel
theorem dX0_holds_10 : decode cX0_holds 10 = .ok (.ishl, 1) := by decide +kernel
theorem dX0_holds_11 : decode cX0_holds 11 = .ok (.iand, 1) := by decide +kernel
theorem dX0_holds_12 : decode cX0_holds 12 = .ok (.ifCond .eq 7, 3) := by decide +kernel
theorem dX0_holds_15 : decode cX0_holds 15 = .ok (.iconst 1, 1) := by decide +kernel
theorem dX0_holds_16 : decode cX0_holds 16 = .ok (.goto 4, 3) := by decide +kernel
theorem dX0_holds_19 : decode cX0_holds 19 = .ok (.iconst 0, 1) := by decide +kernel
theorem dX0_holds_20 : decode cX0_holds 20 = .ok (.ireturn, 1) := by decide +kernel
theorem dX1_init_0 : decode cX1_init 0 = .ok (.aload_n 0, 1) := by decide +kernel
theorem dX1_init_1 : decode cX1_init 1 = .ok (.invokespecial 5, 3) := by decide +kernel
theorem dX1_init_4 : decode cX1_init 4 = .ok (.aload_n 0, 1) := by decide +kernel
theorem dX1_init_5 : decode cX1_init 5 = .ok (.sipush 28380, 3) := by decide +kernel
theorem dX1_init_8 : decode cX1_init 8 = .ok (.newarray .int, 2) := by decide +kernel
theorem dX1_init_10 : decode cX1_init 10 = .ok (.putfield 11, 3) := by decide +kernel
theorem dX1_init_13 : decode cX1_init 13 = .ok (.aload_n 0, 1) := by decide +kernel
theorem dX1_init_14 : decode cX1_init 14 = .ok (.sipush 854, 3) := by decide +kernel
theorem dX1_init_17 : decode cX1_init 17 = .ok (.newarray .int, 2) := by decide +kernel
theorem dX1_init_19 : decode cX1_init 19 = .ok (.putfield 15, 3) := by decide +kernel
theorem dX1_init_22 : decode cX1_init 22 = .ok (.aload_n 0, 1) := by decide +kernel
theorem dX1_init_23 : decode cX1_init 23 = .ok (.sipush 780, 3) := by decide +kernel
theorem dX1_init_26 : decode cX1_init 26 = .ok (.newarray .int, 2) := by decide +kernel
theorem dX1_init_28 : decode cX1_init 28 = .ok (.putfield 18, 3) := by decide +kernel
theorem dX1_init_31 : decode cX1_init 31 = .ok (.aload_n 0, 1) := by decide +kernel
theorem dX1_init_32 : decode cX1_init 32 = .ok (.sipush 780, 3) := by decide +kernel
theorem dX1_init_35 : decode cX1_init 35 = .ok (.newarray .int, 2) := by decide +kernel
theorem dX1_init_37 : decode cX1_init 37 = .ok (.putfield 21, 3) := by decide +kernel
theorem dX1_init_40 : decode cX1_init 40 = .ok (.aload_n 0, 1) := by decide +kernel
theorem dX1_init_41 : decode cX1_init 41 = .ok (.sipush 360, 3) := by decide +kernel
theorem dX1_init_44 : decode cX1_init 44 = .ok (.newarray .int, 2) := by decide +kernel
theorem dX1_init_46 : decode cX1_init 46 = .ok (.putfield 24, 3) := by decide +kernel
theorem dX1_init_49 : decode cX1_init 49 = .ok (.aload_n 0, 1) := by decide +kernel
theorem dX1_init_50 : decode cX1_init 50 = .ok (.iconst 0, 1) := by decide +kernel
theorem dX1_init_51 : decode cX1_init 51 = .ok (.putfield 27, 3) := by decide +kernel
theorem dX1_init_54 : decode cX1_init 54 = .ok (.aload_n 0, 1) := by decide +kernel
theorem dX1_init_55 : decode cX1_init 55 = .ok (.iconst 0, 1) := by decide +kernel
theorem dX1_init_56 : decode cX1_init 56 = .ok (.putfield 31, 3) := by decide +kernel
theorem dX1_init_59 : decode cX1_init 59 = .ok (.aload_n 0, 1) := by decide +kernel
theorem dX1_init_60 : decode cX1_init 60 = .ok (.iconst 0, 1) := by decide +kernel
theorem dX1_init_61 : decode cX1_init 61 = .ok (.putfield 34, 3) := by decide +kernel
theorem dX1_init_64 : decode cX1_init 64 = .ok (.aload_n 0, 1) := by decide +kernel
theorem dX1_init_65 : decode cX1_init 65 = .ok (.iconst 0, 1) := by decide +kernel
theorem dX1_init_66 : decode cX1_init 66 = .ok (.putfield 37, 3) := by decide +kernel
theorem dX1_init_69 : decode cX1_init 69 = .ok (.aload_n 0, 1) := by decide +kernel
theorem dX1_init_70 : decode cX1_init 70 = .ok (.iconst 0, 1) := by decide +kernel
theorem dX1_init_71 : decode cX1_init 71 = .ok (.putfield 40, 3) := by decide +kernel
theorem dX1_init_74 : decode cX1_init 74 = .ok (.aload_n 0, 1) := by decide +kernel
theorem dX1_init_75 : decode cX1_init 75 = .ok (.iconst 0, 1) := by decide +kernel
theorem dX1_init_76 : decode cX1_init 76 = .ok (.putfield 43, 3) := by decide +kernel
theorem dX1_init_79 : decode cX1_init 79 = .ok (.aload_n 0, 1) := by decide +kernel
theorem dX1_init_80 : decode cX1_init 80 = .ok (.iconst 0, 1) := by decide +kernel
theorem dX1_init_81 : decode cX1_init 81 = .ok (.putfield 46, 3) := by decide +kernel
theorem dX1_init_84 : decode cX1_init 84 = .ok (.aload_n 0, 1) := by decide +kernel
theorem dX1_init_85 : decode cX1_init 85 = .ok (.iconst 0, 1) := by decide +kernel
theorem dX1_init_86 : decode cX1_init 86 = .ok (.putfield 49, 3) := by decide +kernel
theorem dX1_init_89 : decode cX1_init 89 = .ok (.aload_n 0, 1) := by decide +kernel
theorem dX1_init_90 : decode cX1_init 90 = .ok (.iconst 0, 1) := by decide +kernel
theorem dX1_init_91 : decode cX1_init 91 = .ok (.putfield 53, 3) := by decide +kernel
theorem dX1_init_94 : decode cX1_init 94 = .ok (.return_, 1) := by decide +kernel
theorem dX1_writeResult_0 : decode cX1_writeResult 0 = .ok (.aload_n 0, 1) := by decide +kernel
theorem dX1_writeResult_1 : decode cX1_writeResult 1 = .ok (.iconst 1, 1) := by decide +kernel
theorem dX1_writeResult_2 : decode cX1_writeResult 2 = .ok (.invokevirtual 56, 3) := by decide +kernel
theorem dX1_writeResult_5 : decode cX1_writeResult 5 = .ok (.aload_n 0, 1) := by decide +kernel
theorem dX1_writeResult_6 : decode cX1_writeResult 6 = .ok (.invokevirtual 60, 3) := by decide +kernel
theorem dX1_writeResult_9 : decode cX1_writeResult 9 = .ok (.aload_n 0, 1) := by decide +kernel
theorem dX1_writeResult_10 : decode cX1_writeResult 10 = .ok (.aload_n 1, 1) := by decide +kernel
theorem dX1_writeResult_11 : decode cX1_writeResult 11 = .ok (.aload_n 2, 1) := by decide +kernel
theorem dX1_writeResult_12 : decode cX1_writeResult 12 = .ok (.iload_n 3, 1) := by decide +kernel
theorem dX1_writeResult_13 : decode cX1_writeResult 13 = .ok (.iconst 0, 1) := by decide +kernel
theorem dX1_writeResult_14 : decode cX1_writeResult 14 = .ok (.iconst 0, 1) := by decide +kernel
theorem dX1_writeResult_15 : decode cX1_writeResult 15 = .ok (.iconst 0, 1) := by decide +kernel
theorem dX1_writeResult_16 : decode cX1_writeResult 16 = .ok (.invokevirtual 63, 3) := by decide +kernel
theorem dX1_writeResult_19 : decode cX1_writeResult 19 = .ok (.aload_n 0, 1) := by decide +kernel
theorem dX1_writeResult_20 : decode cX1_writeResult 20 = .ok (.getfield 53, 3) := by decide +kernel
theorem dX1_writeResult_23 : decode cX1_writeResult 23 = .ok (.ifCond .ne 7, 3) := by decide +kernel
theorem dX1_writeResult_26 : decode cX1_writeResult 26 = .ok (.iconst 1, 1) := by decide +kernel
theorem dX1_writeResult_27 : decode cX1_writeResult 27 = .ok (.goto 4, 3) := by decide +kernel
theorem dX1_writeResult_30 : decode cX1_writeResult 30 = .ok (.iconst 0, 1) := by decide +kernel
theorem dX1_writeResult_31 : decode cX1_writeResult 31 = .ok (.ireturn, 1) := by decide +kernel
theorem dX1_makeOutcome_0 : decode cX1_makeOutcome 0 = .ok (.iconst 0, 1) := by decide +kernel
theorem dX1_makeOutcome_1 : decode cX1_makeOutcome 1 = .ok (.aload_n 0, 1) := by decide +kernel
theorem dX1_makeOutcome_2 : decode cX1_makeOutcome 2 = .ok (.getfield 27, 3) := by decide +kernel
theorem dX1_makeOutcome_5 : decode cX1_makeOutcome 5 = .ok (.sipush 200, 3) := by decide +kernel
theorem dX1_makeOutcome_8 : decode cX1_makeOutcome 8 = .ok (.invokestatic 67, 3) := by decide +kernel
theorem dX1_makeOutcome_11 : decode cX1_makeOutcome 11 = .ok (.invokestatic 73, 3) := by decide +kernel
theorem dX1_makeOutcome_14 : decode cX1_makeOutcome 14 = .ok (.istore_n 1, 1) := by decide +kernel
theorem dX1_makeOutcome_15 : decode cX1_makeOutcome 15 = .ok (.iconst 0, 1) := by decide +kernel
theorem dX1_makeOutcome_16 : decode cX1_makeOutcome 16 = .ok (.aload_n 0, 1) := by decide +kernel
theorem dX1_makeOutcome_17 : decode cX1_makeOutcome 17 = .ok (.getfield 37, 3) := by decide +kernel
theorem dX1_makeOutcome_20 : decode cX1_makeOutcome 20 = .ok (.bipush 60, 2) := by decide +kernel
theorem dX1_makeOutcome_22 : decode cX1_makeOutcome 22 = .ok (.invokestatic 67, 3) := by decide +kernel
theorem dX1_makeOutcome_25 : decode cX1_makeOutcome 25 = .ok (.invokestatic 73, 3) := by decide +kernel
theorem dX1_makeOutcome_28 : decode cX1_makeOutcome 28 = .ok (.bipush 6, 2) := by decide +kernel
theorem dX1_makeOutcome_30 : decode cX1_makeOutcome 30 = .ok (.imul, 1) := by decide +kernel
theorem dX1_makeOutcome_31 : decode cX1_makeOutcome 31 = .ok (.istore_n 2, 1) := by decide +kernel
theorem dX1_makeOutcome_32 : decode cX1_makeOutcome 32 = .ok (.new 76, 3) := by decide +kernel
theorem dX1_makeOutcome_35 : decode cX1_makeOutcome 35 = .ok (.dup, 1) := by decide +kernel
theorem dX1_makeOutcome_36 : decode cX1_makeOutcome 36 = .ok (.aload_n 0, 1) := by decide +kernel
theorem dX1_makeOutcome_37 : decode cX1_makeOutcome 37 = .ok (.getfield 11, 3) := by decide +kernel
theorem dX1_makeOutcome_40 : decode cX1_makeOutcome 40 = .ok (.iload_n 1, 1) := by decide +kernel
theorem dX1_makeOutcome_41 : decode cX1_makeOutcome 41 = .ok (.invokestatic 78, 3) := by decide +kernel
theorem dX1_makeOutcome_44 : decode cX1_makeOutcome 44 = .ok (.aload_n 0, 1) := by decide +kernel
theorem dX1_makeOutcome_45 : decode cX1_makeOutcome 45 = .ok (.getfield 24, 3) := by decide +kernel
theorem dX1_makeOutcome_48 : decode cX1_makeOutcome 48 = .ok (.iload_n 2, 1) := by decide +kernel
theorem dX1_makeOutcome_49 : decode cX1_makeOutcome 49 = .ok (.invokestatic 78, 3) := by decide +kernel
theorem dX1_makeOutcome_52 : decode cX1_makeOutcome 52 = .ok (.aload_n 0, 1) := by decide +kernel
theorem dX1_makeOutcome_53 : decode cX1_makeOutcome 53 = .ok (.getfield 40, 3) := by decide +kernel
theorem dX1_makeOutcome_56 : decode cX1_makeOutcome 56 = .ok (.aload_n 0, 1) := by decide +kernel
theorem dX1_makeOutcome_57 : decode cX1_makeOutcome 57 = .ok (.getfield 43, 3) := by decide +kernel
theorem dX1_makeOutcome_60 : decode cX1_makeOutcome 60 = .ok (.invokespecial 84, 3) := by decide +kernel
theorem dX1_makeOutcome_63 : decode cX1_makeOutcome 63 = .ok (.areturn, 1) := by decide +kernel
theorem dX1_measureCall_0 : decode cX1_measureCall 0 = .ok (.aload_n 0, 1) := by decide +kernel
theorem dX1_measureCall_1 : decode cX1_measureCall 1 = .ok (.iconst 0, 1) := by decide +kernel
theorem dX1_measureCall_2 : decode cX1_measureCall 2 = .ok (.invokevirtual 56, 3) := by decide +kernel
theorem dX1_measureCall_5 : decode cX1_measureCall 5 = .ok (.aload_n 0, 1) := by decide +kernel
theorem dX1_measureCall_6 : decode cX1_measureCall 6 = .ok (.invokevirtual 60, 3) := by decide +kernel
theorem dX1_measureCall_9 : decode cX1_measureCall 9 = .ok (.aload_n 0, 1) := by decide +kernel
theorem dX1_measureCall_10 : decode cX1_measureCall 10 = .ok (.iload_n 2, 1) := by decide +kernel
theorem dX1_measureCall_11 : decode cX1_measureCall 11 = .ok (.invokevirtual 87, 3) := by decide +kernel
theorem dX1_measureCall_14 : decode cX1_measureCall 14 = .ok (.iconst 0, 1) := by decide +kernel
theorem dX1_measureCall_15 : decode cX1_measureCall 15 = .ok (.istore 5, 2) := by decide +kernel
theorem dX1_measureCall_17 : decode cX1_measureCall 17 = .ok (.iload 5, 2) := by decide +kernel
theorem dX1_measureCall_19 : decode cX1_measureCall 19 = .ok (.iload_n 3, 1) := by decide +kernel
theorem dX1_measureCall_20 : decode cX1_measureCall 20 = .ok (.if_icmp .ge 31, 3) := by decide +kernel
theorem dX1_measureCall_23 : decode cX1_measureCall 23 = .ok (.iload 5, 2) := by decide +kernel
theorem dX1_measureCall_25 : decode cX1_measureCall 25 = .ok (.bipush 60, 2) := by decide +kernel
theorem dX1_measureCall_27 : decode cX1_measureCall 27 = .ok (.if_icmp .ge 24, 3) := by decide +kernel
theorem dX1_measureCall_30 : decode cX1_measureCall 30 = .ok (.aload_n 0, 1) := by decide +kernel
theorem dX1_measureCall_31 : decode cX1_measureCall 31 = .ok (.invokevirtual 60, 3) := by decide +kernel
theorem dX1_measureCall_34 : decode cX1_measureCall 34 = .ok (.aload_n 0, 1) := by decide +kernel
theorem dX1_measureCall_35 : decode cX1_measureCall 35 = .ok (.dup, 1) := by decide +kernel
theorem dX1_measureCall_36 : decode cX1_measureCall 36 = .ok (.getfield 27, 3) := by decide +kernel
theorem dX1_measureCall_39 : decode cX1_measureCall 39 = .ok (.iload 4, 2) := by decide +kernel
theorem dX1_measureCall_41 : decode cX1_measureCall 41 = .ok (.iadd, 1) := by decide +kernel
theorem dX1_measureCall_42 : decode cX1_measureCall 42 = .ok (.putfield 27, 3) := by decide +kernel
theorem dX1_measureCall_45 : decode cX1_measureCall 45 = .ok (.iinc 5 1, 3) := by decide +kernel
theorem dX1_measureCall_48 : decode cX1_measureCall 48 = .ok (.goto (-31), 3) := by decide +kernel
theorem dX1_measureCall_51 : decode cX1_measureCall 51 = .ok (.aload_n 0, 1) := by decide +kernel
theorem dX1_measureCall_52 : decode cX1_measureCall 52 = .ok (.aload_n 1, 1) := by decide +kernel
theorem dX1_measureCall_53 : decode cX1_measureCall 53 = .ok (.iconst 0, 1) := by decide +kernel
theorem dX1_measureCall_54 : decode cX1_measureCall 54 = .ok (.invokevirtual 91, 3) := by decide +kernel
theorem dX1_measureCall_57 : decode cX1_measureCall 57 = .ok (.aload_n 0, 1) := by decide +kernel
theorem dX1_measureCall_58 : decode cX1_measureCall 58 = .ok (.getfield 53, 3) := by decide +kernel
theorem dX1_measureCall_61 : decode cX1_measureCall 61 = .ok (.ifCond .eq 7, 3) := by decide +kernel
theorem dX1_measureCall_64 : decode cX1_measureCall 64 = .ok (.iconst (-1), 1) := by decide +kernel
theorem dX1_measureCall_65 : decode cX1_measureCall 65 = .ok (.goto 7, 3) := by decide +kernel
theorem dX1_measureCall_68 : decode cX1_measureCall 68 = .ok (.aload_n 0, 1) := by decide +kernel
theorem dX1_measureCall_69 : decode cX1_measureCall 69 = .ok (.getfield 27, 3) := by decide +kernel
theorem dX1_measureCall_72 : decode cX1_measureCall 72 = .ok (.ireturn, 1) := by decide +kernel
theorem dX1_startOver_0 : decode cX1_startOver 0 = .ok (.aload_n 0, 1) := by decide +kernel
theorem dX1_startOver_1 : decode cX1_startOver 1 = .ok (.iconst 0, 1) := by decide +kernel
theorem dX1_startOver_2 : decode cX1_startOver 2 = .ok (.putfield 27, 3) := by decide +kernel
theorem dX1_startOver_5 : decode cX1_startOver 5 = .ok (.aload_n 0, 1) := by decide +kernel
theorem dX1_startOver_6 : decode cX1_startOver 6 = .ok (.iconst 0, 1) := by decide +kernel
theorem dX1_startOver_7 : decode cX1_startOver 7 = .ok (.putfield 31, 3) := by decide +kernel
theorem dX1_startOver_10 : decode cX1_startOver 10 = .ok (.aload_n 0, 1) := by decide +kernel
theorem dX1_startOver_11 : decode cX1_startOver 11 = .ok (.iconst 0, 1) := by decide +kernel
theorem dX1_startOver_12 : decode cX1_startOver 12 = .ok (.putfield 34, 3) := by decide +kernel
theorem dX1_startOver_15 : decode cX1_startOver 15 = .ok (.aload_n 0, 1) := by decide +kernel
theorem dX1_startOver_16 : decode cX1_startOver 16 = .ok (.iconst 0, 1) := by decide +kernel
theorem dX1_startOver_17 : decode cX1_startOver 17 = .ok (.putfield 37, 3) := by decide +kernel
theorem dX1_startOver_20 : decode cX1_startOver 20 = .ok (.aload_n 0, 1) := by decide +kernel
theorem dX1_startOver_21 : decode cX1_startOver 21 = .ok (.iconst 0, 1) := by decide +kernel
theorem dX1_startOver_22 : decode cX1_startOver 22 = .ok (.putfield 40, 3) := by decide +kernel
theorem dX1_startOver_25 : decode cX1_startOver 25 = .ok (.aload_n 0, 1) := by decide +kernel
theorem dX1_startOver_26 : decode cX1_startOver 26 = .ok (.iconst 0, 1) := by decide +kernel
theorem dX1_startOver_27 : decode cX1_startOver 27 = .ok (.putfield 43, 3) := by decide +kernel
theorem dX1_startOver_30 : decode cX1_startOver 30 = .ok (.aload_n 0, 1) := by decide +kernel
theorem dX1_startOver_31 : decode cX1_startOver 31 = .ok (.iconst 0, 1) := by decide +kernel
theorem dX1_startOver_32 : decode cX1_startOver 32 = .ok (.putfield 46, 3) := by decide +kernel
theorem dX1_startOver_35 : decode cX1_startOver 35 = .ok (.aload_n 0, 1) := by decide +kernel
theorem dX1_startOver_36 : decode cX1_startOver 36 = .ok (.iload_n 1, 1) := by decide +kernel
theorem dX1_startOver_37 : decode cX1_startOver 37 = .ok (.putfield 49, 3) := by decide +kernel
theorem dX1_startOver_40 : decode cX1_startOver 40 = .ok (.aload_n 0, 1) := by decide +kernel
theorem dX1_startOver_41 : decode cX1_startOver 41 = .ok (.iconst 0, 1) := by decide +kernel
theorem dX1_startOver_42 : decode cX1_startOver 42 = .ok (.putfield 53, 3) := by decide +kernel
theorem dX1_startOver_45 : decode cX1_startOver 45 = .ok (.return_, 1) := by decide +kernel
theorem dX1_writeText_0 : decode cX1_writeText 0 = .ok (.iconst 0, 1) := by decide +kernel
theorem dX1_writeText_1 : decode cX1_writeText 1 = .ok (.istore 7, 2) := by decide +kernel
theorem dX1_writeText_3 : decode cX1_writeText 3 = .ok (.iconst 0, 1) := by decide +kernel
theorem dX1_writeText_4 : decode cX1_writeText 4 = .ok (.istore 8, 2) := by decide +kernel
theorem dX1_writeText_6 : decode cX1_writeText 6 = .ok (.iload 8, 2) := by decide +kernel
theorem dX1_writeText_8 : decode cX1_writeText 8 = .ok (.iload_n 3, 1) := by decide +kernel
theorem dX1_writeText_9 : decode cX1_writeText 9 = .ok (.if_icmp .ge 153, 3) := by decide +kernel
theorem dX1_writeText_12 : decode cX1_writeText 12 = .ok (.iload 8, 2) := by decide +kernel
theorem dX1_writeText_14 : decode cX1_writeText 14 = .ok (.aload_n 2, 1) := by decide +kernel
theorem dX1_writeText_15 : decode cX1_writeText 15 = .ok (.arraylength, 1) := by decide +kernel
theorem dX1_writeText_16 : decode cX1_writeText 16 = .ok (.if_icmp .ge 146, 3) := by decide +kernel
theorem dX1_writeText_19 : decode cX1_writeText 19 = .ok (.aload_n 0, 1) := by decide +kernel
theorem dX1_writeText_20 : decode cX1_writeText 20 = .ok (.getfield 53, 3) := by decide +kernel
theorem dX1_writeText_23 : decode cX1_writeText 23 = .ok (.ifCond .ne 139, 3) := by decide +kernel
theorem dX1_writeText_26 : decode cX1_writeText 26 = .ok (.aload_n 2, 1) := by decide +kernel
theorem dX1_writeText_27 : decode cX1_writeText 27 = .ok (.iload 8, 2) := by decide +kernel
theorem dX1_writeText_29 : decode cX1_writeText 29 = .ok (.iaload, 1) := by decide +kernel
theorem dX1_writeText_30 : decode cX1_writeText 30 = .ok (.istore 9, 2) := by decide +kernel
theorem dX1_writeText_32 : decode cX1_writeText 32 = .ok (.iload 9, 2) := by decide +kernel
theorem dX1_writeText_34 : decode cX1_writeText 34 = .ok (.bipush 63, 2) := by decide +kernel
theorem dX1_writeText_36 : decode cX1_writeText 36 = .ok (.if_icmp .ne 21, 3) := by decide +kernel
theorem dX1_writeText_39 : decode cX1_writeText 39 = .ok (.aload_n 0, 1) := by decide +kernel
theorem dX1_writeText_40 : decode cX1_writeText 40 = .ok (.iload 7, 2) := by decide +kernel
theorem dX1_writeText_42 : decode cX1_writeText 42 = .ok (.iload 4, 2) := by decide +kernel
theorem dX1_writeText_44 : decode cX1_writeText 44 = .ok (.iload 5, 2) := by decide +kernel
theorem dX1_writeText_46 : decode cX1_writeText 46 = .ok (.iload 6, 2) := by decide +kernel
theorem dX1_writeText_48 : decode cX1_writeText 48 = .ok (.invokevirtual 95, 3) := by decide +kernel
theorem dX1_writeText_51 : decode cX1_writeText 51 = .ok (.iinc 7 1, 3) := by decide +kernel
theorem dX1_writeText_54 : decode cX1_writeText 54 = .ok (.goto 102, 3) := by decide +kernel
theorem dX1_writeText_57 : decode cX1_writeText 57 = .ok (.iload 9, 2) := by decide +kernel
theorem dX1_writeText_59 : decode cX1_writeText 59 = .ok (.invokestatic 99, 3) := by decide +kernel
theorem dX1_writeText_62 : decode cX1_writeText 62 = .ok (.ifCond .eq 50, 3) := by decide +kernel
theorem dX1_writeText_65 : decode cX1_writeText 65 = .ok (.aload_n 0, 1) := by decide +kernel
theorem dX1_writeText_66 : decode cX1_writeText 66 = .ok (.iload 9, 2) := by decide +kernel
theorem dX1_writeText_68 : decode cX1_writeText 68 = .ok (.bipush 65, 2) := by decide +kernel
theorem dX1_writeText_70 : decode cX1_writeText 70 = .ok (.isub, 1) := by decide +kernel
theorem dX1_writeText_71 : decode cX1_writeText 71 = .ok (.invokevirtual 87, 3) := by decide +kernel
theorem dX1_writeText_74 : decode cX1_writeText 74 = .ok (.iload 8, 2) := by decide +kernel
theorem dX1_writeText_76 : decode cX1_writeText 76 = .ok (.iconst 1, 1) := by decide +kernel
theorem dX1_writeText_77 : decode cX1_writeText 77 = .ok (.iadd, 1) := by decide +kernel
theorem dX1_writeText_78 : decode cX1_writeText 78 = .ok (.iload_n 3, 1) := by decide +kernel
theorem dX1_writeText_79 : decode cX1_writeText 79 = .ok (.if_icmp .ge 23, 3) := by decide +kernel
theorem dX1_writeText_82 : decode cX1_writeText 82 = .ok (.iload 8, 2) := by decide +kernel
theorem dX1_writeText_84 : decode cX1_writeText 84 = .ok (.iconst 1, 1) := by decide +kernel
theorem dX1_writeText_85 : decode cX1_writeText 85 = .ok (.iadd, 1) := by decide +kernel
theorem dX1_writeText_86 : decode cX1_writeText 86 = .ok (.aload_n 2, 1) := by decide +kernel
theorem dX1_writeText_87 : decode cX1_writeText 87 = .ok (.arraylength, 1) := by decide +kernel
theorem dX1_writeText_88 : decode cX1_writeText 88 = .ok (.if_icmp .ge 14, 3) := by decide +kernel
theorem dX1_writeText_91 : decode cX1_writeText 91 = .ok (.aload_n 2, 1) := by decide +kernel
theorem dX1_writeText_92 : decode cX1_writeText 92 = .ok (.iload 8, 2) := by decide +kernel
theorem dX1_writeText_94 : decode cX1_writeText 94 = .ok (.iconst 1, 1) := by decide +kernel
theorem dX1_writeText_95 : decode cX1_writeText 95 = .ok (.iadd, 1) := by decide +kernel
theorem dX1_writeText_96 : decode cX1_writeText 96 = .ok (.iaload, 1) := by decide +kernel
theorem dX1_writeText_97 : decode cX1_writeText 97 = .ok (.bipush 40, 2) := by decide +kernel
theorem dX1_writeText_99 : decode cX1_writeText 99 = .ok (.if_icmp .eq 57, 3) := by decide +kernel
theorem dX1_writeText_102 : decode cX1_writeText 102 = .ok (.aload_n 0, 1) := by decide +kernel
theorem dX1_writeText_103 : decode cX1_writeText 103 = .ok (.aload_n 1, 1) := by decide +kernel
theorem dX1_writeText_104 : decode cX1_writeText 104 = .ok (.iload 4, 2) := by decide +kernel
theorem dX1_writeText_106 : decode cX1_writeText 106 = .ok (.invokevirtual 91, 3) := by decide +kernel
theorem dX1_writeText_109 : decode cX1_writeText 109 = .ok (.goto 47, 3) := by decide +kernel
theorem dX1_writeText_112 : decode cX1_writeText 112 = .ok (.iload 9, 2) := by decide +kernel
theorem dX1_writeText_114 : decode cX1_writeText 114 = .ok (.bipush 40, 2) := by decide +kernel
theorem dX1_writeText_116 : decode cX1_writeText 116 = .ok (.if_icmp .eq 10, 3) := by decide +kernel
theorem dX1_writeText_119 : decode cX1_writeText 119 = .ok (.iload 9, 2) := by decide +kernel
theorem dX1_writeText_121 : decode cX1_writeText 121 = .ok (.bipush 44, 2) := by decide +kernel
theorem dX1_writeText_123 : decode cX1_writeText 123 = .ok (.if_icmp .ne 10, 3) := by decide +kernel
theorem dX1_writeText_126 : decode cX1_writeText 126 = .ok (.aload_n 0, 1) := by decide +kernel
theorem dX1_writeText_127 : decode cX1_writeText 127 = .ok (.invokevirtual 60, 3) := by decide +kernel
theorem dX1_writeText_130 : decode cX1_writeText 130 = .ok (.goto 26, 3) := by decide +kernel
theorem dX1_writeText_133 : decode cX1_writeText 133 = .ok (.iload 9, 2) := by decide +kernel
theorem dX1_writeText_135 : decode cX1_writeText 135 = .ok (.bipush 41, 2) := by decide +kernel
theorem dX1_writeText_137 : decode cX1_writeText 137 = .ok (.if_icmp .ne 13, 3) := by decide +kernel
theorem dX1_writeText_140 : decode cX1_writeText 140 = .ok (.aload_n 0, 1) := by decide +kernel
theorem dX1_writeText_141 : decode cX1_writeText 141 = .ok (.aload_n 1, 1) := by decide +kernel
theorem dX1_writeText_142 : decode cX1_writeText 142 = .ok (.iload 4, 2) := by decide +kernel
theorem dX1_writeText_144 : decode cX1_writeText 144 = .ok (.invokevirtual 91, 3) := by decide +kernel
theorem dX1_writeText_147 : decode cX1_writeText 147 = .ok (.goto 9, 3) := by decide +kernel
theorem dX1_writeText_150 : decode cX1_writeText 150 = .ok (.aload_n 0, 1) := by decide +kernel
theorem dX1_writeText_151 : decode cX1_writeText 151 = .ok (.iload 9, 2) := by decide +kernel
theorem dX1_writeText_153 : decode cX1_writeText 153 = .ok (.invokevirtual 103, 3) := by decide +kernel
theorem dX1_writeText_156 : decode cX1_writeText 156 = .ok (.iinc 8 1, 3) := by decide +kernel
theorem dX1_writeText_159 : decode cX1_writeText 159 = .ok (.goto (-153), 3) := by decide +kernel
theorem dX1_writeText_162 : decode cX1_writeText 162 = .ok (.return_, 1) := by decide +kernel
theorem dX1_fillHole_0 : decode cX1_fillHole 0 = .ok (.iload_n 2, 1) := by decide +kernel
theorem dX1_fillHole_1 : decode cX1_fillHole 1 = .ok (.ifCond .ne 12, 3) := by decide +kernel
theorem dX1_fillHole_4 : decode cX1_fillHole 4 = .ok (.aload_n 0, 1) := by decide +kernel
theorem dX1_fillHole_5 : decode cX1_fillHole 5 = .ok (.bipush 63, 2) := by decide +kernel
theorem dX1_fillHole_7 : decode cX1_fillHole 7 = .ok (.invokevirtual 103, 3) := by decide +kernel
theorem dX1_fillHole_10 : decode cX1_fillHole 10 = .ok (.goto 36, 3) := by decide +kernel
theorem dX1_fillHole_13 : decode cX1_fillHole 13 = .ok (.iload_n 1, 1) := by decide +kernel
theorem dX1_fillHole_14 : decode cX1_fillHole 14 = .ok (.iload 4, 2) := by decide +kernel
theorem dX1_fillHole_16 : decode cX1_fillHole 16 = .ok (.if_icmp .ge 30, 3) := by decide +kernel
theorem dX1_fillHole_19 : decode cX1_fillHole 19 = .ok (.aload_n 0, 1) := by decide +kernel
theorem dX1_fillHole_20 : decode cX1_fillHole 20 = .ok (.iload_n 3, 1) := by decide +kernel
theorem dX1_fillHole_21 : decode cX1_fillHole 21 = .ok (.iload_n 1, 1) := by decide +kernel
theorem dX1_fillHole_22 : decode cX1_fillHole 22 = .ok (.iadd, 1) := by decide +kernel
theorem dX1_fillHole_23 : decode cX1_fillHole 23 = .ok (.invokevirtual 106, 3) := by decide +kernel
theorem dX1_fillHole_26 : decode cX1_fillHole 26 = .ok (.istore 5, 2) := by decide +kernel
theorem dX1_fillHole_28 : decode cX1_fillHole 28 = .ok (.aload_n 0, 1) := by decide +kernel
theorem dX1_fillHole_29 : decode cX1_fillHole 29 = .ok (.iload 5, 2) := by decide +kernel
theorem dX1_fillHole_31 : decode cX1_fillHole 31 = .ok (.aload_n 0, 1) := by decide +kernel
theorem dX1_fillHole_32 : decode cX1_fillHole 32 = .ok (.iload_n 3, 1) := by decide +kernel
theorem dX1_fillHole_33 : decode cX1_fillHole 33 = .ok (.iload_n 1, 1) := by decide +kernel
theorem dX1_fillHole_34 : decode cX1_fillHole 34 = .ok (.iadd, 1) := by decide +kernel
theorem dX1_fillHole_35 : decode cX1_fillHole 35 = .ok (.iconst 1, 1) := by decide +kernel
theorem dX1_fillHole_36 : decode cX1_fillHole 36 = .ok (.iadd, 1) := by decide +kernel
theorem dX1_fillHole_37 : decode cX1_fillHole 37 = .ok (.invokevirtual 106, 3) := by decide +kernel
theorem dX1_fillHole_40 : decode cX1_fillHole 40 = .ok (.iload 5, 2) := by decide +kernel
theorem dX1_fillHole_42 : decode cX1_fillHole 42 = .ok (.isub, 1) := by decide +kernel
theorem dX1_fillHole_43 : decode cX1_fillHole 43 = .ok (.invokevirtual 110, 3) := by decide +kernel
theorem dX1_fillHole_46 : decode cX1_fillHole 46 = .ok (.return_, 1) := by decide +kernel
theorem dX1_letCallWait_0 : decode cX1_letCallWait 0 = .ok (.aload_n 0, 1) := by decide +kernel
theorem dX1_letCallWait_1 : decode cX1_letCallWait 1 = .ok (.getfield 34, 3) := by decide +kernel
theorem dX1_letCallWait_4 : decode cX1_letCallWait 4 = .ok (.ifCond .lt 13, 3) := by decide +kernel
theorem dX1_letCallWait_7 : decode cX1_letCallWait 7 = .ok (.aload_n 0, 1) := by decide +kernel
theorem dX1_letCallWait_8 : decode cX1_letCallWait 8 = .ok (.getfield 34, 3) := by decide +kernel
theorem dX1_letCallWait_11 : decode cX1_letCallWait 11 = .ok (.sipush 780, 3) := by decide +kernel
theorem dX1_letCallWait_14 : decode cX1_letCallWait 14 = .ok (.if_icmp .lt 9, 3) := by decide +kernel
theorem dX1_letCallWait_17 : decode cX1_letCallWait 17 = .ok (.aload_n 0, 1) := by decide +kernel
theorem dX1_letCallWait_18 : decode cX1_letCallWait 18 = .ok (.iconst 1, 1) := by decide +kernel
theorem dX1_letCallWait_19 : decode cX1_letCallWait 19 = .ok (.putfield 53, 3) := by decide +kernel
theorem dX1_letCallWait_22 : decode cX1_letCallWait 22 = .ok (.return_, 1) := by decide +kernel
theorem dX1_letCallWait_23 : decode cX1_letCallWait 23 = .ok (.aload_n 0, 1) := by decide +kernel
theorem dX1_letCallWait_24 : decode cX1_letCallWait 24 = .ok (.getfield 18, 3) := by decide +kernel
theorem dX1_letCallWait_27 : decode cX1_letCallWait 27 = .ok (.aload_n 0, 1) := by decide +kernel
theorem dX1_letCallWait_28 : decode cX1_letCallWait 28 = .ok (.getfield 34, 3) := by decide +kernel
theorem dX1_letCallWait_31 : decode cX1_letCallWait 31 = .ok (.iload_n 1, 1) := by decide +kernel
theorem dX1_letCallWait_32 : decode cX1_letCallWait 32 = .ok (.iastore, 1) := by decide +kernel
theorem dX1_letCallWait_33 : decode cX1_letCallWait 33 = .ok (.aload_n 0, 1) := by decide +kernel
theorem dX1_letCallWait_34 : decode cX1_letCallWait 34 = .ok (.getfield 21, 3) := by decide +kernel
theorem dX1_letCallWait_37 : decode cX1_letCallWait 37 = .ok (.aload_n 0, 1) := by decide +kernel
theorem dX1_letCallWait_38 : decode cX1_letCallWait 38 = .ok (.getfield 34, 3) := by decide +kernel
theorem dX1_letCallWait_41 : decode cX1_letCallWait 41 = .ok (.aload_n 0, 1) := by decide +kernel
theorem dX1_letCallWait_42 : decode cX1_letCallWait 42 = .ok (.getfield 31, 3) := by decide +kernel
theorem dX1_letCallWait_45 : decode cX1_letCallWait 45 = .ok (.iastore, 1) := by decide +kernel
theorem dX1_letCallWait_46 : decode cX1_letCallWait 46 = .ok (.aload_n 0, 1) := by decide +kernel
theorem dX1_letCallWait_47 : decode cX1_letCallWait 47 = .ok (.dup, 1) := by decide +kernel
theorem dX1_letCallWait_48 : decode cX1_letCallWait 48 = .ok (.getfield 34, 3) := by decide +kernel
theorem dX1_letCallWait_51 : decode cX1_letCallWait 51 = .ok (.iconst 1, 1) := by decide +kernel
theorem dX1_letCallWait_52 : decode cX1_letCallWait 52 = .ok (.iadd, 1) := by decide +kernel
theorem dX1_letCallWait_53 : decode cX1_letCallWait 53 = .ok (.putfield 34, 3) := by decide +kernel
theorem dX1_letCallWait_56 : decode cX1_letCallWait 56 = .ok (.return_, 1) := by decide +kernel
theorem dX1_finishCall_0 : decode cX1_finishCall 0 = .ok (.aload_n 0, 1) := by decide +kernel
theorem dX1_finishCall_1 : decode cX1_finishCall 1 = .ok (.getfield 34, 3) := by decide +kernel
theorem dX1_finishCall_4 : decode cX1_finishCall 4 = .ok (.iconst 1, 1) := by decide +kernel
theorem dX1_finishCall_5 : decode cX1_finishCall 5 = .ok (.isub, 1) := by decide +kernel
theorem dX1_finishCall_6 : decode cX1_finishCall 6 = .ok (.istore_n 3, 1) := by decide +kernel
theorem dX1_finishCall_7 : decode cX1_finishCall 7 = .ok (.aload_n 0, 1) := by decide +kernel
theorem dX1_finishCall_8 : decode cX1_finishCall 8 = .ok (.getfield 53, 3) := by decide +kernel
theorem dX1_finishCall_11 : decode cX1_finishCall 11 = .ok (.ifCond .ne 14, 3) := by decide +kernel
theorem dX1_finishCall_14 : decode cX1_finishCall 14 = .ok (.iload_n 3, 1) := by decide +kernel
theorem dX1_finishCall_15 : decode cX1_finishCall 15 = .ok (.ifCond .lt 10, 3) := by decide +kernel
theorem dX1_finishCall_18 : decode cX1_finishCall 18 = .ok (.iload_n 3, 1) := by decide +kernel
theorem dX1_finishCall_19 : decode cX1_finishCall 19 = .ok (.sipush 780, 3) := by decide +kernel
theorem dX1_finishCall_22 : decode cX1_finishCall 22 = .ok (.if_icmp .lt 9, 3) := by decide +kernel
theorem dX1_finishCall_25 : decode cX1_finishCall 25 = .ok (.aload_n 0, 1) := by decide +kernel
theorem dX1_finishCall_26 : decode cX1_finishCall 26 = .ok (.iconst 1, 1) := by decide +kernel
theorem dX1_finishCall_27 : decode cX1_finishCall 27 = .ok (.putfield 53, 3) := by decide +kernel
theorem dX1_finishCall_30 : decode cX1_finishCall 30 = .ok (.return_, 1) := by decide +kernel
theorem dX1_finishCall_31 : decode cX1_finishCall 31 = .ok (.aload_n 0, 1) := by decide +kernel
theorem dX1_finishCall_32 : decode cX1_finishCall 32 = .ok (.iload_n 3, 1) := by decide +kernel
theorem dX1_finishCall_33 : decode cX1_finishCall 33 = .ok (.putfield 34, 3) := by decide +kernel
theorem dX1_finishCall_36 : decode cX1_finishCall 36 = .ok (.aload_n 0, 1) := by decide +kernel
theorem dX1_finishCall_37 : decode cX1_finishCall 37 = .ok (.getfield 18, 3) := by decide +kernel
theorem dX1_finishCall_40 : decode cX1_finishCall 40 = .ok (.iload_n 3, 1) := by decide +kernel
theorem dX1_finishCall_41 : decode cX1_finishCall 41 = .ok (.iaload, 1) := by decide +kernel
theorem dX1_finishCall_42 : decode cX1_finishCall 42 = .ok (.istore 4, 2) := by decide +kernel
theorem dX1_finishCall_44 : decode cX1_finishCall 44 = .ok (.aload_n 0, 1) := by decide +kernel
theorem dX1_finishCall_45 : decode cX1_finishCall 45 = .ok (.getfield 21, 3) := by decide +kernel
theorem dX1_finishCall_48 : decode cX1_finishCall 48 = .ok (.iload_n 3, 1) := by decide +kernel
theorem dX1_finishCall_49 : decode cX1_finishCall 49 = .ok (.iaload, 1) := by decide +kernel
theorem dX1_finishCall_50 : decode cX1_finishCall 50 = .ok (.istore 5, 2) := by decide +kernel
theorem dX1_finishCall_52 : decode cX1_finishCall 52 = .ok (.aload_n 0, 1) := by decide +kernel
theorem dX1_finishCall_53 : decode cX1_finishCall 53 = .ok (.getfield 31, 3) := by decide +kernel
theorem dX1_finishCall_56 : decode cX1_finishCall 56 = .ok (.iload 5, 2) := by decide +kernel
theorem dX1_finishCall_58 : decode cX1_finishCall 58 = .ok (.isub, 1) := by decide +kernel
theorem dX1_finishCall_59 : decode cX1_finishCall 59 = .ok (.istore 6, 2) := by decide +kernel
theorem dX1_finishCall_61 : decode cX1_finishCall 61 = .ok (.iload 6, 2) := by decide +kernel
theorem dX1_finishCall_63 : decode cX1_finishCall 63 = .ok (.ifCond .le 12, 3) := by decide +kernel
theorem dX1_finishCall_66 : decode cX1_finishCall 66 = .ok (.aload_n 0, 1) := by decide +kernel
theorem dX1_finishCall_67 : decode cX1_finishCall 67 = .ok (.iload 5, 2) := by decide +kernel
theorem dX1_finishCall_69 : decode cX1_finishCall 69 = .ok (.invokevirtual 106, 3) := by decide +kernel
theorem dX1_finishCall_72 : decode cX1_finishCall 72 = .ok (.goto 7, 3) := by decide +kernel
theorem dX1_finishCall_75 : decode cX1_finishCall 75 = .ok (.aload_n 0, 1) := by decide +kernel
theorem dX1_finishCall_76 : decode cX1_finishCall 76 = .ok (.getfield 27, 3) := by decide +kernel
theorem dX1_finishCall_79 : decode cX1_finishCall 79 = .ok (.istore 7, 2) := by decide +kernel
theorem dX1_finishCall_81 : decode cX1_finishCall 81 = .ok (.aload_n 0, 1) := by decide +kernel
theorem dX1_finishCall_82 : decode cX1_finishCall 82 = .ok (.getfield 27, 3) := by decide +kernel
theorem dX1_finishCall_85 : decode cX1_finishCall 85 = .ok (.istore 8, 2) := by decide +kernel
theorem dX1_finishCall_87 : decode cX1_finishCall 87 = .ok (.aload_n 0, 1) := by decide +kernel
theorem dX1_finishCall_88 : decode cX1_finishCall 88 = .ok (.invokevirtual 60, 3) := by decide +kernel
theorem dX1_finishCall_91 : decode cX1_finishCall 91 = .ok (.aload_n 0, 1) := by decide +kernel
theorem dX1_finishCall_92 : decode cX1_finishCall 92 = .ok (.aload_n 1, 1) := by decide +kernel
theorem dX1_finishCall_93 : decode cX1_finishCall 93 = .ok (.iload 4, 2) := by decide +kernel
theorem dX1_finishCall_95 : decode cX1_finishCall 95 = .ok (.iload_n 2, 1) := by decide +kernel
theorem dX1_finishCall_96 : decode cX1_finishCall 96 = .ok (.invokevirtual 114, 3) := by decide +kernel
theorem dX1_finishCall_99 : decode cX1_finishCall 99 = .ok (.istore 9, 2) := by decide +kernel
theorem dX1_finishCall_101 : decode cX1_finishCall 101 = .ok (.iload 9, 2) := by decide +kernel
theorem dX1_finishCall_103 : decode cX1_finishCall 103 = .ok (.ifCond .ne 20, 3) := by decide +kernel
theorem dX1_finishCall_106 : decode cX1_finishCall 106 = .ok (.aload_n 0, 1) := by decide +kernel
theorem dX1_finishCall_107 : decode cX1_finishCall 107 = .ok (.aload_n 1, 1) := by decide +kernel
theorem dX1_finishCall_108 : decode cX1_finishCall 108 = .ok (.iload 4, 2) := by decide +kernel
theorem dX1_finishCall_110 : decode cX1_finishCall 110 = .ok (.iload_n 2, 1) := by decide +kernel
theorem dX1_finishCall_111 : decode cX1_finishCall 111 = .ok (.iconst 1, 1) := by decide +kernel
theorem dX1_finishCall_112 : decode cX1_finishCall 112 = .ok (.iadd, 1) := by decide +kernel
theorem dX1_finishCall_113 : decode cX1_finishCall 113 = .ok (.iload 5, 2) := by decide +kernel
theorem dX1_finishCall_115 : decode cX1_finishCall 115 = .ok (.iload 6, 2) := by decide +kernel
theorem dX1_finishCall_117 : decode cX1_finishCall 117 = .ok (.invokevirtual 118, 3) := by decide +kernel
theorem dX1_finishCall_120 : decode cX1_finishCall 120 = .ok (.goto 12, 3) := by decide +kernel
theorem dX1_finishCall_123 : decode cX1_finishCall 123 = .ok (.aload_n 0, 1) := by decide +kernel
theorem dX1_finishCall_124 : decode cX1_finishCall 124 = .ok (.iload 9, 2) := by decide +kernel
theorem dX1_finishCall_126 : decode cX1_finishCall 126 = .ok (.invokestatic 122, 3) := by decide +kernel
theorem dX1_finishCall_129 : decode cX1_finishCall 129 = .ok (.invokevirtual 103, 3) := by decide +kernel
theorem dX1_finishCall_132 : decode cX1_finishCall 132 = .ok (.aload_n 0, 1) := by decide +kernel
theorem dX1_finishCall_133 : decode cX1_finishCall 133 = .ok (.getfield 27, 3) := by decide +kernel
theorem dX1_finishCall_136 : decode cX1_finishCall 136 = .ok (.iload 8, 2) := by decide +kernel
theorem dX1_finishCall_138 : decode cX1_finishCall 138 = .ok (.isub, 1) := by decide +kernel
theorem dX1_finishCall_139 : decode cX1_finishCall 139 = .ok (.istore 10, 2) := by decide +kernel
theorem dX1_finishCall_141 : decode cX1_finishCall 141 = .ok (.aload_n 0, 1) := by decide +kernel
theorem dX1_finishCall_142 : decode cX1_finishCall 142 = .ok (.iload 8, 2) := by decide +kernel
theorem dX1_finishCall_144 : decode cX1_finishCall 144 = .ok (.iload 7, 2) := by decide +kernel
theorem dX1_finishCall_146 : decode cX1_finishCall 146 = .ok (.iload 10, 2) := by decide +kernel
theorem dX1_finishCall_148 : decode cX1_finishCall 148 = .ok (.invokevirtual 125, 3) := by decide +kernel
theorem dX1_finishCall_151 : decode cX1_finishCall 151 = .ok (.aload_n 0, 1) := by decide +kernel
theorem dX1_finishCall_152 : decode cX1_finishCall 152 = .ok (.iload 7, 2) := by decide +kernel
theorem dX1_finishCall_154 : decode cX1_finishCall 154 = .ok (.iload 10, 2) := by decide +kernel
theorem dX1_finishCall_156 : decode cX1_finishCall 156 = .ok (.iadd, 1) := by decide +kernel
theorem dX1_finishCall_157 : decode cX1_finishCall 157 = .ok (.putfield 27, 3) := by decide +kernel
theorem dX1_finishCall_160 : decode cX1_finishCall 160 = .ok (.aload_n 0, 1) := by decide +kernel
theorem dX1_finishCall_161 : decode cX1_finishCall 161 = .ok (.iload 5, 2) := by decide +kernel
theorem dX1_finishCall_163 : decode cX1_finishCall 163 = .ok (.putfield 31, 3) := by decide +kernel
theorem dX1_finishCall_166 : decode cX1_finishCall 166 = .ok (.aload_n 0, 1) := by decide +kernel
theorem dX1_finishCall_167 : decode cX1_finishCall 167 = .ok (.iconst 0, 1) := by decide +kernel
theorem dX1_finishCall_168 : decode cX1_finishCall 168 = .ok (.invokevirtual 129, 3) := by decide +kernel
theorem dX1_finishCall_171 : decode cX1_finishCall 171 = .ok (.ifCond .ne 8, 3) := by decide +kernel
theorem dX1_finishCall_174 : decode cX1_finishCall 174 = .ok (.aload_n 0, 1) := by decide +kernel
theorem dX1_finishCall_175 : decode cX1_finishCall 175 = .ok (.iconst 1, 1) := by decide +kernel
theorem dX1_finishCall_176 : decode cX1_finishCall 176 = .ok (.putfield 53, 3) := by decide +kernel
theorem dX1_finishCall_179 : decode cX1_finishCall 179 = .ok (.aload_n 0, 1) := by decide +kernel
theorem dX1_finishCall_180 : decode cX1_finishCall 180 = .ok (.iload 4, 2) := by decide +kernel
theorem dX1_finishCall_182 : decode cX1_finishCall 182 = .ok (.iload 9, 2) := by decide +kernel
theorem dX1_finishCall_184 : decode cX1_finishCall 184 = .ok (.iload_n 2, 1) := by decide +kernel
theorem dX1_finishCall_185 : decode cX1_finishCall 185 = .ok (.iload 6, 2) := by decide +kernel
theorem dX1_finishCall_187 : decode cX1_finishCall 187 = .ok (.iload 10, 2) := by decide +kernel
theorem dX1_finishCall_189 : decode cX1_finishCall 189 = .ok (.iload 8, 2) := by decide +kernel
theorem dX1_finishCall_191 : decode cX1_finishCall 191 = .ok (.iload 7, 2) := by decide +kernel
theorem dX1_finishCall_193 : decode cX1_finishCall 193 = .ok (.isub, 1) := by decide +kernel
theorem dX1_finishCall_194 : decode cX1_finishCall 194 = .ok (.invokevirtual 132, 3) := by decide +kernel
theorem dX1_finishCall_197 : decode cX1_finishCall 197 = .ok (.return_, 1) := by decide +kernel
theorem dX1_endingOf_0 : decode cX1_endingOf 0 = .ok (.aload_n 1, 1) := by decide +kernel
theorem dX1_endingOf_1 : decode cX1_endingOf 1 = .ok (.iload_n 2, 1) := by decide +kernel
theorem dX1_endingOf_2 : decode cX1_endingOf 2 = .ok (.invokevirtual 136, 3) := by decide +kernel
theorem dX1_endingOf_5 : decode cX1_endingOf 5 = .ok (.ifnonnull 5, 3) := by decide +kernel
theorem dX1_endingOf_8 : decode cX1_endingOf 8 = .ok (.iconst 1, 1) := by decide +kernel
theorem dX1_endingOf_9 : decode cX1_endingOf 9 = .ok (.ireturn, 1) := by decide +kernel
theorem dX1_endingOf_10 : decode cX1_endingOf 10 = .ok (.aload_n 0, 1) := by decide +kernel
theorem dX1_endingOf_11 : decode cX1_endingOf 11 = .ok (.getfield 46, 3) := by decide +kernel
theorem dX1_endingOf_14 : decode cX1_endingOf 14 = .ok (.iconst 1, 1) := by decide +kernel
theorem dX1_endingOf_15 : decode cX1_endingOf 15 = .ok (.iload_n 2, 1) := by decide +kernel
theorem dX1_endingOf_16 : decode cX1_endingOf 16 = .ok (.ishl, 1) := by decide +kernel
theorem dX1_endingOf_17 : decode cX1_endingOf 17 = .ok (.iand, 1) := by decide +kernel
theorem dX1_endingOf_18 : decode cX1_endingOf 18 = .ok (.ifCond .eq 5, 3) := by decide +kernel
theorem dX1_endingOf_21 : decode cX1_endingOf 21 = .ok (.iconst 2, 1) := by decide +kernel
theorem dX1_endingOf_22 : decode cX1_endingOf 22 = .ok (.ireturn, 1) := by decide +kernel
theorem dX1_endingOf_23 : decode cX1_endingOf 23 = .ok (.iload_n 3, 1) := by decide +kernel
theorem dX1_endingOf_24 : decode cX1_endingOf 24 = .ok (.aload_n 1, 1) := by decide +kernel
theorem dX1_endingOf_25 : decode cX1_endingOf 25 = .ok (.getfield 142, 3) := by decide +kernel
theorem dX1_endingOf_28 : decode cX1_endingOf 28 = .ok (.if_icmp .lt 7, 3) := by decide +kernel
theorem dX1_endingOf_31 : decode cX1_endingOf 31 = .ok (.iconst 3, 1) := by decide +kernel
theorem dX1_endingOf_32 : decode cX1_endingOf 32 = .ok (.goto 4, 3) := by decide +kernel
theorem dX1_endingOf_35 : decode cX1_endingOf 35 = .ok (.iconst 0, 1) := by decide +kernel
theorem dX1_endingOf_36 : decode cX1_endingOf 36 = .ok (.ireturn, 1) := by decide +kernel
theorem dX1_signOf_0 : decode cX1_signOf 0 = .ok (.iload_n 0, 1) := by decide +kernel
theorem dX1_signOf_1 : decode cX1_signOf 1 = .ok (.lookupswitch 33 #[(1, 27), (2, 30)], 27) := by decide +kernel
theorem dX1_signOf_28 : decode cX1_signOf 28 = .ok (.bipush 36, 2) := by decide +kernel
theorem dX1_signOf_30 : decode cX1_signOf 30 = .ok (.ireturn, 1) := by decide +kernel
theorem dX1_signOf_31 : decode cX1_signOf 31 = .ok (.bipush 35, 2) := by decide +kernel
theorem dX1_signOf_33 : decode cX1_signOf 33 = .ok (.ireturn, 1) := by decide +kernel
theorem dX1_signOf_34 : decode cX1_signOf 34 = .ok (.bipush 37, 2) := by decide +kernel
theorem dX1_signOf_36 : decode cX1_signOf 36 = .ok (.ireturn, 1) := by decide +kernel
theorem dX1_writeBody_0 : decode cX1_writeBody 0 = .ok (.aload_n 1, 1) := by decide +kernel
theorem dX1_writeBody_1 : decode cX1_writeBody 1 = .ok (.iload_n 2, 1) := by decide +kernel
theorem dX1_writeBody_2 : decode cX1_writeBody 2 = .ok (.invokevirtual 136, 3) := by decide +kernel
theorem dX1_writeBody_5 : decode cX1_writeBody 5 = .ok (.astore 6, 2) := by decide +kernel
theorem dX1_writeBody_7 : decode cX1_writeBody 7 = .ok (.aload 6, 2) := by decide +kernel
theorem dX1_writeBody_9 : decode cX1_writeBody 9 = .ok (.ifnull 18, 3) := by decide +kernel
theorem dX1_writeBody_12 : decode cX1_writeBody 12 = .ok (.iload_n 3, 1) := by decide +kernel
theorem dX1_writeBody_13 : decode cX1_writeBody 13 = .ok (.bipush 12, 2) := by decide +kernel
theorem dX1_writeBody_15 : decode cX1_writeBody 15 = .ok (.if_icmp .gt 12, 3) := by decide +kernel
theorem dX1_writeBody_18 : decode cX1_writeBody 18 = .ok (.aload_n 0, 1) := by decide +kernel
theorem dX1_writeBody_19 : decode cX1_writeBody 19 = .ok (.getfield 40, 3) := by decide +kernel
theorem dX1_writeBody_22 : decode cX1_writeBody 22 = .ok (.bipush 60, 2) := by decide +kernel
theorem dX1_writeBody_24 : decode cX1_writeBody 24 = .ok (.if_icmp .lt 9, 3) := by decide +kernel
theorem dX1_writeBody_27 : decode cX1_writeBody 27 = .ok (.aload_n 0, 1) := by decide +kernel
theorem dX1_writeBody_28 : decode cX1_writeBody 28 = .ok (.iconst 1, 1) := by decide +kernel
theorem dX1_writeBody_29 : decode cX1_writeBody 29 = .ok (.putfield 53, 3) := by decide +kernel
theorem dX1_writeBody_32 : decode cX1_writeBody 32 = .ok (.return_, 1) := by decide +kernel
theorem dX1_writeBody_33 : decode cX1_writeBody 33 = .ok (.aload_n 0, 1) := by decide +kernel
theorem dX1_writeBody_34 : decode cX1_writeBody 34 = .ok (.dup, 1) := by decide +kernel
theorem dX1_writeBody_35 : decode cX1_writeBody 35 = .ok (.getfield 40, 3) := by decide +kernel
theorem dX1_writeBody_38 : decode cX1_writeBody 38 = .ok (.iconst 1, 1) := by decide +kernel
theorem dX1_writeBody_39 : decode cX1_writeBody 39 = .ok (.iadd, 1) := by decide +kernel
theorem dX1_writeBody_40 : decode cX1_writeBody 40 = .ok (.putfield 40, 3) := by decide +kernel
theorem dX1_writeBody_43 : decode cX1_writeBody 43 = .ok (.aload_n 0, 1) := by decide +kernel
theorem dX1_writeBody_44 : decode cX1_writeBody 44 = .ok (.aload_n 0, 1) := by decide +kernel
theorem dX1_writeBody_45 : decode cX1_writeBody 45 = .ok (.getfield 43, 3) := by decide +kernel
theorem dX1_writeBody_48 : decode cX1_writeBody 48 = .ok (.iload_n 3, 1) := by decide +kernel
theorem dX1_writeBody_49 : decode cX1_writeBody 49 = .ok (.invokestatic 73, 3) := by decide +kernel
theorem dX1_writeBody_52 : decode cX1_writeBody 52 = .ok (.putfield 43, 3) := by decide +kernel
theorem dX1_writeBody_55 : decode cX1_writeBody 55 = .ok (.aload_n 0, 1) := by decide +kernel
theorem dX1_writeBody_56 : decode cX1_writeBody 56 = .ok (.dup, 1) := by decide +kernel
theorem dX1_writeBody_57 : decode cX1_writeBody 57 = .ok (.getfield 46, 3) := by decide +kernel
theorem dX1_writeBody_60 : decode cX1_writeBody 60 = .ok (.iconst 1, 1) := by decide +kernel
theorem dX1_writeBody_61 : decode cX1_writeBody 61 = .ok (.iload_n 2, 1) := by decide +kernel
theorem dX1_writeBody_62 : decode cX1_writeBody 62 = .ok (.ishl, 1) := by decide +kernel
theorem dX1_writeBody_63 : decode cX1_writeBody 63 = .ok (.ior, 1) := by decide +kernel
theorem dX1_writeBody_64 : decode cX1_writeBody 64 = .ok (.putfield 46, 3) := by decide +kernel
theorem dX1_writeBody_67 : decode cX1_writeBody 67 = .ok (.aload_n 0, 1) := by decide +kernel
theorem dX1_writeBody_68 : decode cX1_writeBody 68 = .ok (.aload_n 1, 1) := by decide +kernel
theorem dX1_writeBody_69 : decode cX1_writeBody 69 = .ok (.aload 6, 2) := by decide +kernel
theorem dX1_writeBody_71 : decode cX1_writeBody 71 = .ok (.getfield 145, 3) := by decide +kernel
theorem dX1_writeBody_74 : decode cX1_writeBody 74 = .ok (.aload 6, 2) := by decide +kernel
theorem dX1_writeBody_76 : decode cX1_writeBody 76 = .ok (.getfield 145, 3) := by decide +kernel
theorem dX1_writeBody_79 : decode cX1_writeBody 79 = .ok (.arraylength, 1) := by decide +kernel
theorem dX1_writeBody_80 : decode cX1_writeBody 80 = .ok (.iload_n 3, 1) := by decide +kernel
theorem dX1_writeBody_81 : decode cX1_writeBody 81 = .ok (.iload 4, 2) := by decide +kernel
theorem dX1_writeBody_83 : decode cX1_writeBody 83 = .ok (.iload 5, 2) := by decide +kernel
theorem dX1_writeBody_85 : decode cX1_writeBody 85 = .ok (.invokevirtual 63, 3) := by decide +kernel
theorem dX1_writeBody_88 : decode cX1_writeBody 88 = .ok (.aload_n 0, 1) := by decide +kernel
theorem dX1_writeBody_89 : decode cX1_writeBody 89 = .ok (.dup, 1) := by decide +kernel
theorem dX1_writeBody_90 : decode cX1_writeBody 90 = .ok (.getfield 46, 3) := by decide +kernel
theorem dX1_writeBody_93 : decode cX1_writeBody 93 = .ok (.iconst 1, 1) := by decide +kernel
theorem dX1_writeBody_94 : decode cX1_writeBody 94 = .ok (.iload_n 2, 1) := by decide +kernel
theorem dX1_writeBody_95 : decode cX1_writeBody 95 = .ok (.ishl, 1) := by decide +kernel
theorem dX1_writeBody_96 : decode cX1_writeBody 96 = .ok (.iconst (-1), 1) := by decide +kernel
theorem dX1_writeBody_97 : decode cX1_writeBody 97 = .ok (.ixor, 1) := by decide +kernel
theorem dX1_writeBody_98 : decode cX1_writeBody 98 = .ok (.iand, 1) := by decide +kernel
theorem dX1_writeBody_99 : decode cX1_writeBody 99 = .ok (.putfield 46, 3) := by decide +kernel
theorem dX1_writeBody_102 : decode cX1_writeBody 102 = .ok (.return_, 1) := by decide +kernel
theorem dX1_listCall_0 : decode cX1_listCall 0 = .ok (.aload_n 0, 1) := by decide +kernel
theorem dX1_listCall_1 : decode cX1_listCall 1 = .ok (.getfield 37, 3) := by decide +kernel
theorem dX1_listCall_4 : decode cX1_listCall 4 = .ok (.ifCond .lt 12, 3) := by decide +kernel
theorem dX1_listCall_7 : decode cX1_listCall 7 = .ok (.aload_n 0, 1) := by decide +kernel
theorem dX1_listCall_8 : decode cX1_listCall 8 = .ok (.getfield 37, 3) := by decide +kernel
theorem dX1_listCall_11 : decode cX1_listCall 11 = .ok (.bipush 60, 2) := by decide +kernel
theorem dX1_listCall_13 : decode cX1_listCall 13 = .ok (.if_icmp .lt 4, 3) := by decide +kernel
theorem dX1_listCall_16 : decode cX1_listCall 16 = .ok (.return_, 1) := by decide +kernel
theorem dX1_listCall_17 : decode cX1_listCall 17 = .ok (.aload_n 0, 1) := by decide +kernel
theorem dX1_listCall_18 : decode cX1_listCall 18 = .ok (.getfield 37, 3) := by decide +kernel
theorem dX1_listCall_21 : decode cX1_listCall 21 = .ok (.bipush 6, 2) := by decide +kernel
theorem dX1_listCall_23 : decode cX1_listCall 23 = .ok (.imul, 1) := by decide +kernel
theorem dX1_listCall_24 : decode cX1_listCall 24 = .ok (.istore 7, 2) := by decide +kernel
theorem dX1_listCall_26 : decode cX1_listCall 26 = .ok (.aload_n 0, 1) := by decide +kernel
theorem dX1_listCall_27 : decode cX1_listCall 27 = .ok (.getfield 24, 3) := by decide +kernel
theorem dX1_listCall_30 : decode cX1_listCall 30 = .ok (.iload 7, 2) := by decide +kernel
theorem dX1_listCall_32 : decode cX1_listCall 32 = .ok (.iload_n 1, 1) := by decide +kernel
theorem dX1_listCall_33 : decode cX1_listCall 33 = .ok (.iastore, 1) := by decide +kernel
theorem dX1_listCall_34 : decode cX1_listCall 34 = .ok (.aload_n 0, 1) := by decide +kernel
theorem dX1_listCall_35 : decode cX1_listCall 35 = .ok (.getfield 24, 3) := by decide +kernel
theorem dX1_listCall_38 : decode cX1_listCall 38 = .ok (.iload 7, 2) := by decide +kernel
theorem dX1_listCall_40 : decode cX1_listCall 40 = .ok (.iconst 1, 1) := by decide +kernel
theorem dX1_listCall_41 : decode cX1_listCall 41 = .ok (.iadd, 1) := by decide +kernel
theorem dX1_listCall_42 : decode cX1_listCall 42 = .ok (.iload_n 2, 1) := by decide +kernel
theorem dX1_listCall_43 : decode cX1_listCall 43 = .ok (.iastore, 1) := by decide +kernel
theorem dX1_listCall_44 : decode cX1_listCall 44 = .ok (.aload_n 0, 1) := by decide +kernel
theorem dX1_listCall_45 : decode cX1_listCall 45 = .ok (.getfield 24, 3) := by decide +kernel
theorem dX1_listCall_48 : decode cX1_listCall 48 = .ok (.iload 7, 2) := by decide +kernel
theorem dX1_listCall_50 : decode cX1_listCall 50 = .ok (.iconst 2, 1) := by decide +kernel
theorem dX1_listCall_51 : decode cX1_listCall 51 = .ok (.iadd, 1) := by decide +kernel
theorem dX1_listCall_52 : decode cX1_listCall 52 = .ok (.iload_n 3, 1) := by decide +kernel
theorem dX1_listCall_53 : decode cX1_listCall 53 = .ok (.iastore, 1) := by decide +kernel
theorem dX1_listCall_54 : decode cX1_listCall 54 = .ok (.aload_n 0, 1) := by decide +kernel
theorem dX1_listCall_55 : decode cX1_listCall 55 = .ok (.getfield 24, 3) := by decide +kernel
theorem dX1_listCall_58 : decode cX1_listCall 58 = .ok (.iload 7, 2) := by decide +kernel
theorem dX1_listCall_60 : decode cX1_listCall 60 = .ok (.iconst 3, 1) := by decide +kernel
theorem dX1_listCall_61 : decode cX1_listCall 61 = .ok (.iadd, 1) := by decide +kernel
theorem dX1_listCall_62 : decode cX1_listCall 62 = .ok (.iload 4, 2) := by decide +kernel
theorem dX1_listCall_64 : decode cX1_listCall 64 = .ok (.iastore, 1) := by decide +kernel
theorem dX1_listCall_65 : decode cX1_listCall 65 = .ok (.aload_n 0, 1) := by decide +kernel
theorem dX1_listCall_66 : decode cX1_listCall 66 = .ok (.getfield 24, 3) := by decide +kernel
theorem dX1_listCall_69 : decode cX1_listCall 69 = .ok (.iload 7, 2) := by decide +kernel
theorem dX1_listCall_71 : decode cX1_listCall 71 = .ok (.iconst 4, 1) := by decide +kernel
theorem dX1_listCall_72 : decode cX1_listCall 72 = .ok (.iadd, 1) := by decide +kernel
theorem dX1_listCall_73 : decode cX1_listCall 73 = .ok (.iload 5, 2) := by decide +kernel
theorem dX1_listCall_75 : decode cX1_listCall 75 = .ok (.iastore, 1) := by decide +kernel
theorem dX1_listCall_76 : decode cX1_listCall 76 = .ok (.aload_n 0, 1) := by decide +kernel
theorem dX1_listCall_77 : decode cX1_listCall 77 = .ok (.getfield 24, 3) := by decide +kernel
theorem dX1_listCall_80 : decode cX1_listCall 80 = .ok (.iload 7, 2) := by decide +kernel
theorem dX1_listCall_82 : decode cX1_listCall 82 = .ok (.iconst 5, 1) := by decide +kernel
theorem dX1_listCall_83 : decode cX1_listCall 83 = .ok (.iadd, 1) := by decide +kernel
theorem dX1_listCall_84 : decode cX1_listCall 84 = .ok (.iload 6, 2) := by decide +kernel
theorem dX1_listCall_86 : decode cX1_listCall 86 = .ok (.iastore, 1) := by decide +kernel
theorem dX1_listCall_87 : decode cX1_listCall 87 = .ok (.aload_n 0, 1) := by decide +kernel
theorem dX1_listCall_88 : decode cX1_listCall 88 = .ok (.dup, 1) := by decide +kernel
theorem dX1_listCall_89 : decode cX1_listCall 89 = .ok (.getfield 37, 3) := by decide +kernel
theorem dX1_listCall_92 : decode cX1_listCall 92 = .ok (.iconst 1, 1) := by decide +kernel
theorem dX1_listCall_93 : decode cX1_listCall 93 = .ok (.iadd, 1) := by decide +kernel
theorem dX1_listCall_94 : decode cX1_listCall 94 = .ok (.putfield 37, 3) := by decide +kernel
theorem dX1_listCall_97 : decode cX1_listCall 97 = .ok (.return_, 1) := by decide +kernel
theorem dX1_setMark_0 : decode cX1_setMark 0 = .ok (.aload_n 0, 1) := by decide +kernel
theorem dX1_setMark_1 : decode cX1_setMark 1 = .ok (.getfield 31, 3) := by decide +kernel
theorem dX1_setMark_4 : decode cX1_setMark 4 = .ok (.ifCond .lt 13, 3) := by decide +kernel
theorem dX1_setMark_7 : decode cX1_setMark 7 = .ok (.aload_n 0, 1) := by decide +kernel
theorem dX1_setMark_8 : decode cX1_setMark 8 = .ok (.getfield 31, 3) := by decide +kernel
theorem dX1_setMark_11 : decode cX1_setMark 11 = .ok (.sipush 854, 3) := by decide +kernel
theorem dX1_setMark_14 : decode cX1_setMark 14 = .ok (.if_icmp .lt 9, 3) := by decide +kernel
theorem dX1_setMark_17 : decode cX1_setMark 17 = .ok (.aload_n 0, 1) := by decide +kernel
theorem dX1_setMark_18 : decode cX1_setMark 18 = .ok (.iconst 1, 1) := by decide +kernel
theorem dX1_setMark_19 : decode cX1_setMark 19 = .ok (.putfield 53, 3) := by decide +kernel
theorem dX1_setMark_22 : decode cX1_setMark 22 = .ok (.return_, 1) := by decide +kernel
theorem dX1_setMark_23 : decode cX1_setMark 23 = .ok (.aload_n 0, 1) := by decide +kernel
theorem dX1_setMark_24 : decode cX1_setMark 24 = .ok (.getfield 15, 3) := by decide +kernel
theorem dX1_setMark_27 : decode cX1_setMark 27 = .ok (.aload_n 0, 1) := by decide +kernel
theorem dX1_setMark_28 : decode cX1_setMark 28 = .ok (.getfield 31, 3) := by decide +kernel
theorem dX1_setMark_31 : decode cX1_setMark 31 = .ok (.aload_n 0, 1) := by decide +kernel
theorem dX1_setMark_32 : decode cX1_setMark 32 = .ok (.getfield 27, 3) := by decide +kernel
theorem dX1_setMark_35 : decode cX1_setMark 35 = .ok (.iastore, 1) := by decide +kernel
theorem dX1_setMark_36 : decode cX1_setMark 36 = .ok (.aload_n 0, 1) := by decide +kernel
theorem dX1_setMark_37 : decode cX1_setMark 37 = .ok (.dup, 1) := by decide +kernel
theorem dX1_setMark_38 : decode cX1_setMark 38 = .ok (.getfield 31, 3) := by decide +kernel
theorem dX1_setMark_41 : decode cX1_setMark 41 = .ok (.iconst 1, 1) := by decide +kernel
theorem dX1_setMark_42 : decode cX1_setMark 42 = .ok (.iadd, 1) := by decide +kernel
theorem dX1_setMark_43 : decode cX1_setMark 43 = .ok (.putfield 31, 3) := by decide +kernel
theorem dX1_setMark_46 : decode cX1_setMark 46 = .ok (.return_, 1) := by decide +kernel
theorem dX1_markAt_0 : decode cX1_markAt 0 = .ok (.iload_n 1, 1) := by decide +kernel
theorem dX1_markAt_1 : decode cX1_markAt 1 = .ok (.ifCond .lt 19, 3) := by decide +kernel
theorem dX1_markAt_4 : decode cX1_markAt 4 = .ok (.iload_n 1, 1) := by decide +kernel
theorem dX1_markAt_5 : decode cX1_markAt 5 = .ok (.sipush 854, 3) := by decide +kernel
theorem dX1_markAt_8 : decode cX1_markAt 8 = .ok (.if_icmp .ge 12, 3) := by decide +kernel
theorem dX1_markAt_11 : decode cX1_markAt 11 = .ok (.aload_n 0, 1) := by decide +kernel
theorem dX1_markAt_12 : decode cX1_markAt 12 = .ok (.getfield 15, 3) := by decide +kernel
theorem dX1_markAt_15 : decode cX1_markAt 15 = .ok (.iload_n 1, 1) := by decide +kernel
theorem dX1_markAt_16 : decode cX1_markAt 16 = .ok (.iaload, 1) := by decide +kernel
theorem dX1_markAt_17 : decode cX1_markAt 17 = .ok (.goto 7, 3) := by decide +kernel
theorem dX1_markAt_20 : decode cX1_markAt 20 = .ok (.aload_n 0, 1) := by decide +kernel
theorem dX1_markAt_21 : decode cX1_markAt 21 = .ok (.getfield 27, 3) := by decide +kernel
theorem dX1_markAt_24 : decode cX1_markAt 24 = .ok (.ireturn, 1) := by decide +kernel
theorem dX1_takesMore_0 : decode cX1_takesMore 0 = .ok (.aload_n 0, 1) := by decide +kernel
theorem dX1_takesMore_1 : decode cX1_takesMore 1 = .ok (.getfield 31, 3) := by decide +kernel
theorem dX1_takesMore_4 : decode cX1_takesMore 4 = .ok (.iconst 1, 1) := by decide +kernel
theorem dX1_takesMore_5 : decode cX1_takesMore 5 = .ok (.isub, 1) := by decide +kernel
theorem dX1_takesMore_6 : decode cX1_takesMore 6 = .ok (.istore_n 2, 1) := by decide +kernel
theorem dX1_takesMore_7 : decode cX1_takesMore 7 = .ok (.iload_n 2, 1) := by decide +kernel
theorem dX1_takesMore_8 : decode cX1_takesMore 8 = .ok (.ifCond .lt 19, 3) := by decide +kernel
theorem dX1_takesMore_11 : decode cX1_takesMore 11 = .ok (.iload_n 2, 1) := by decide +kernel
theorem dX1_takesMore_12 : decode cX1_takesMore 12 = .ok (.sipush 854, 3) := by decide +kernel
theorem dX1_takesMore_15 : decode cX1_takesMore 15 = .ok (.if_icmp .ge 12, 3) := by decide +kernel
theorem dX1_takesMore_18 : decode cX1_takesMore 18 = .ok (.aload_n 0, 1) := by decide +kernel
theorem dX1_takesMore_19 : decode cX1_takesMore 19 = .ok (.getfield 15, 3) := by decide +kernel
theorem dX1_takesMore_22 : decode cX1_takesMore 22 = .ok (.iload_n 2, 1) := by decide +kernel
theorem dX1_takesMore_23 : decode cX1_takesMore 23 = .ok (.iaload, 1) := by decide +kernel
theorem dX1_takesMore_24 : decode cX1_takesMore 24 = .ok (.goto 4, 3) := by decide +kernel
theorem dX1_takesMore_27 : decode cX1_takesMore 27 = .ok (.iconst 0, 1) := by decide +kernel
theorem dX1_takesMore_28 : decode cX1_takesMore 28 = .ok (.istore_n 3, 1) := by decide +kernel
theorem dX1_takesMore_29 : decode cX1_takesMore 29 = .ok (.aload_n 0, 1) := by decide +kernel
theorem dX1_takesMore_30 : decode cX1_takesMore 30 = .ok (.getfield 27, 3) := by decide +kernel
theorem dX1_takesMore_33 : decode cX1_takesMore 33 = .ok (.iload_n 1, 1) := by decide +kernel
theorem dX1_takesMore_34 : decode cX1_takesMore 34 = .ok (.iadd, 1) := by decide +kernel
theorem dX1_takesMore_35 : decode cX1_takesMore 35 = .ok (.iload_n 3, 1) := by decide +kernel
theorem dX1_takesMore_36 : decode cX1_takesMore 36 = .ok (.isub, 1) := by decide +kernel
theorem dX1_takesMore_37 : decode cX1_takesMore 37 = .ok (.sipush 200, 3) := by decide +kernel
theorem dX1_takesMore_40 : decode cX1_takesMore 40 = .ok (.if_icmp .gt 19, 3) := by decide +kernel
theorem dX1_takesMore_43 : decode cX1_takesMore 43 = .ok (.aload_n 0, 1) := by decide +kernel
theorem dX1_takesMore_44 : decode cX1_takesMore 44 = .ok (.getfield 27, 3) := by decide +kernel
theorem dX1_takesMore_47 : decode cX1_takesMore 47 = .ok (.iload_n 1, 1) := by decide +kernel
theorem dX1_takesMore_48 : decode cX1_takesMore 48 = .ok (.iadd, 1) := by decide +kernel
theorem dX1_takesMore_49 : decode cX1_takesMore 49 = .ok (.sipush 28380, 3) := by decide +kernel
theorem dX1_takesMore_52 : decode cX1_takesMore 52 = .ok (.if_icmp .gt 7, 3) := by decide +kernel
theorem dX1_takesMore_55 : decode cX1_takesMore 55 = .ok (.iconst 1, 1) := by decide +kernel
theorem dX1_takesMore_56 : decode cX1_takesMore 56 = .ok (.goto 4, 3) := by decide +kernel
theorem dX1_takesMore_59 : decode cX1_takesMore 59 = .ok (.iconst 0, 1) := by decide +kernel
theorem dX1_takesMore_60 : decode cX1_takesMore 60 = .ok (.ireturn, 1) := by decide +kernel
theorem dX1_writeSign_0 : decode cX1_writeSign 0 = .ok (.aload_n 0, 1) := by decide +kernel
theorem dX1_writeSign_1 : decode cX1_writeSign 1 = .ok (.iconst 1, 1) := by decide +kernel
theorem dX1_writeSign_2 : decode cX1_writeSign 2 = .ok (.invokevirtual 129, 3) := by decide +kernel
theorem dX1_writeSign_5 : decode cX1_writeSign 5 = .ok (.ifCond .ne 9, 3) := by decide +kernel
theorem dX1_writeSign_8 : decode cX1_writeSign 8 = .ok (.aload_n 0, 1) := by decide +kernel
theorem dX1_writeSign_9 : decode cX1_writeSign 9 = .ok (.iconst 1, 1) := by decide +kernel
theorem dX1_writeSign_10 : decode cX1_writeSign 10 = .ok (.putfield 53, 3) := by decide +kernel
theorem dX1_writeSign_13 : decode cX1_writeSign 13 = .ok (.return_, 1) := by decide +kernel
theorem dX1_writeSign_14 : decode cX1_writeSign 14 = .ok (.aload_n 0, 1) := by decide +kernel
theorem dX1_writeSign_15 : decode cX1_writeSign 15 = .ok (.getfield 49, 3) := by decide +kernel
theorem dX1_writeSign_18 : decode cX1_writeSign 18 = .ok (.ifCond .eq 20, 3) := by decide +kernel
theorem dX1_writeSign_21 : decode cX1_writeSign 21 = .ok (.aload_n 0, 1) := by decide +kernel
theorem dX1_writeSign_22 : decode cX1_writeSign 22 = .ok (.getfield 27, 3) := by decide +kernel
theorem dX1_writeSign_25 : decode cX1_writeSign 25 = .ok (.ifCond .lt 13, 3) := by decide +kernel
theorem dX1_writeSign_28 : decode cX1_writeSign 28 = .ok (.aload_n 0, 1) := by decide +kernel
theorem dX1_writeSign_29 : decode cX1_writeSign 29 = .ok (.getfield 11, 3) := by decide +kernel
theorem dX1_writeSign_32 : decode cX1_writeSign 32 = .ok (.aload_n 0, 1) := by decide +kernel
theorem dX1_writeSign_33 : decode cX1_writeSign 33 = .ok (.getfield 27, 3) := by decide +kernel
theorem dX1_writeSign_36 : decode cX1_writeSign 36 = .ok (.iload_n 1, 1) := by decide +kernel
theorem dX1_writeSign_37 : decode cX1_writeSign 37 = .ok (.iastore, 1) := by decide +kernel
theorem dX1_writeSign_38 : decode cX1_writeSign 38 = .ok (.aload_n 0, 1) := by decide +kernel
theorem dX1_writeSign_39 : decode cX1_writeSign 39 = .ok (.dup, 1) := by decide +kernel
theorem dX1_writeSign_40 : decode cX1_writeSign 40 = .ok (.getfield 27, 3) := by decide +kernel
theorem dX1_writeSign_43 : decode cX1_writeSign 43 = .ok (.iconst 1, 1) := by decide +kernel
theorem dX1_writeSign_44 : decode cX1_writeSign 44 = .ok (.iadd, 1) := by decide +kernel
theorem dX1_writeSign_45 : decode cX1_writeSign 45 = .ok (.putfield 27, 3) := by decide +kernel
theorem dX1_writeSign_48 : decode cX1_writeSign 48 = .ok (.return_, 1) := by decide +kernel
theorem dX1_writeCopy_0 : decode cX1_writeCopy 0 = .ok (.aload_n 0, 1) := by decide +kernel
theorem dX1_writeCopy_1 : decode cX1_writeCopy 1 = .ok (.iload_n 2, 1) := by decide +kernel
theorem dX1_writeCopy_2 : decode cX1_writeCopy 2 = .ok (.invokevirtual 129, 3) := by decide +kernel
theorem dX1_writeCopy_5 : decode cX1_writeCopy 5 = .ok (.ifCond .ne 9, 3) := by decide +kernel
theorem dX1_writeCopy_8 : decode cX1_writeCopy 8 = .ok (.aload_n 0, 1) := by decide +kernel
theorem dX1_writeCopy_9 : decode cX1_writeCopy 9 = .ok (.iconst 1, 1) := by decide +kernel
theorem dX1_writeCopy_10 : decode cX1_writeCopy 10 = .ok (.putfield 53, 3) := by decide +kernel
theorem dX1_writeCopy_13 : decode cX1_writeCopy 13 = .ok (.return_, 1) := by decide +kernel
theorem dX1_writeCopy_14 : decode cX1_writeCopy 14 = .ok (.aload_n 0, 1) := by decide +kernel
theorem dX1_writeCopy_15 : decode cX1_writeCopy 15 = .ok (.iload_n 1, 1) := by decide +kernel
theorem dX1_writeCopy_16 : decode cX1_writeCopy 16 = .ok (.aload_n 0, 1) := by decide +kernel
theorem dX1_writeCopy_17 : decode cX1_writeCopy 17 = .ok (.getfield 27, 3) := by decide +kernel
theorem dX1_writeCopy_20 : decode cX1_writeCopy 20 = .ok (.iload_n 2, 1) := by decide +kernel
theorem dX1_writeCopy_21 : decode cX1_writeCopy 21 = .ok (.invokevirtual 125, 3) := by decide +kernel
theorem dX1_writeCopy_24 : decode cX1_writeCopy 24 = .ok (.aload_n 0, 1) := by decide +kernel
theorem dX1_writeCopy_25 : decode cX1_writeCopy 25 = .ok (.dup, 1) := by decide +kernel
theorem dX1_writeCopy_26 : decode cX1_writeCopy 26 = .ok (.getfield 27, 3) := by decide +kernel
theorem dX1_writeCopy_29 : decode cX1_writeCopy 29 = .ok (.iload_n 2, 1) := by decide +kernel
theorem dX1_writeCopy_30 : decode cX1_writeCopy 30 = .ok (.iadd, 1) := by decide +kernel
theorem dX1_writeCopy_31 : decode cX1_writeCopy 31 = .ok (.putfield 27, 3) := by decide +kernel
theorem dX1_writeCopy_34 : decode cX1_writeCopy 34 = .ok (.return_, 1) := by decide +kernel
theorem dX1_moveSigns_0 : decode cX1_moveSigns 0 = .ok (.aload_n 0, 1) := by decide +kernel
theorem dX1_moveSigns_1 : decode cX1_moveSigns 1 = .ok (.getfield 49, 3) := by decide +kernel
theorem dX1_moveSigns_4 : decode cX1_moveSigns 4 = .ok (.ifCond .eq 11, 3) := by decide +kernel
theorem dX1_moveSigns_7 : decode cX1_moveSigns 7 = .ok (.iload_n 1, 1) := by decide +kernel
theorem dX1_moveSigns_8 : decode cX1_moveSigns 8 = .ok (.ifCond .lt 7, 3) := by decide +kernel
theorem dX1_moveSigns_11 : decode cX1_moveSigns 11 = .ok (.iload_n 2, 1) := by decide +kernel
theorem dX1_moveSigns_12 : decode cX1_moveSigns 12 = .ok (.ifCond .ge 4, 3) := by decide +kernel
theorem dX1_moveSigns_15 : decode cX1_moveSigns 15 = .ok (.return_, 1) := by decide +kernel
theorem dX1_moveSigns_16 : decode cX1_moveSigns 16 = .ok (.iconst 0, 1) := by decide +kernel
theorem dX1_moveSigns_17 : decode cX1_moveSigns 17 = .ok (.istore 4, 2) := by decide +kernel
theorem dX1_moveSigns_19 : decode cX1_moveSigns 19 = .ok (.iload 4, 2) := by decide +kernel
theorem dX1_moveSigns_21 : decode cX1_moveSigns 21 = .ok (.iload_n 3, 1) := by decide +kernel
theorem dX1_moveSigns_22 : decode cX1_moveSigns 22 = .ok (.if_icmp .ge 47, 3) := by decide +kernel
theorem dX1_moveSigns_25 : decode cX1_moveSigns 25 = .ok (.iload_n 1, 1) := by decide +kernel
theorem dX1_moveSigns_26 : decode cX1_moveSigns 26 = .ok (.iload 4, 2) := by decide +kernel
theorem dX1_moveSigns_28 : decode cX1_moveSigns 28 = .ok (.iadd, 1) := by decide +kernel
theorem dX1_moveSigns_29 : decode cX1_moveSigns 29 = .ok (.sipush 28380, 3) := by decide +kernel
theorem dX1_moveSigns_32 : decode cX1_moveSigns 32 = .ok (.if_icmp .ge 37, 3) := by decide +kernel
theorem dX1_moveSigns_35 : decode cX1_moveSigns 35 = .ok (.iload_n 2, 1) := by decide +kernel
theorem dX1_moveSigns_36 : decode cX1_moveSigns 36 = .ok (.iload 4, 2) := by decide +kernel
theorem dX1_moveSigns_38 : decode cX1_moveSigns 38 = .ok (.iadd, 1) := by decide +kernel
theorem dX1_moveSigns_39 : decode cX1_moveSigns 39 = .ok (.sipush 28380, 3) := by decide +kernel
theorem dX1_moveSigns_42 : decode cX1_moveSigns 42 = .ok (.if_icmp .ge 27, 3) := by decide +kernel
theorem dX1_moveSigns_45 : decode cX1_moveSigns 45 = .ok (.aload_n 0, 1) := by decide +kernel
theorem dX1_moveSigns_46 : decode cX1_moveSigns 46 = .ok (.getfield 11, 3) := by decide +kernel
theorem dX1_moveSigns_49 : decode cX1_moveSigns 49 = .ok (.iload_n 2, 1) := by decide +kernel
theorem dX1_moveSigns_50 : decode cX1_moveSigns 50 = .ok (.iload 4, 2) := by decide +kernel
theorem dX1_moveSigns_52 : decode cX1_moveSigns 52 = .ok (.iadd, 1) := by decide +kernel
theorem dX1_moveSigns_53 : decode cX1_moveSigns 53 = .ok (.aload_n 0, 1) := by decide +kernel
theorem dX1_moveSigns_54 : decode cX1_moveSigns 54 = .ok (.getfield 11, 3) := by decide +kernel
theorem dX1_moveSigns_57 : decode cX1_moveSigns 57 = .ok (.iload_n 1, 1) := by decide +kernel
theorem dX1_moveSigns_58 : decode cX1_moveSigns 58 = .ok (.iload 4, 2) := by decide +kernel
theorem dX1_moveSigns_60 : decode cX1_moveSigns 60 = .ok (.iadd, 1) := by decide +kernel
theorem dX1_moveSigns_61 : decode cX1_moveSigns 61 = .ok (.iaload, 1) := by decide +kernel
theorem dX1_moveSigns_62 : decode cX1_moveSigns 62 = .ok (.iastore, 1) := by decide +kernel
theorem dX1_moveSigns_63 : decode cX1_moveSigns 63 = .ok (.iinc 4 1, 3) := by decide +kernel
theorem dX1_moveSigns_66 : decode cX1_moveSigns 66 = .ok (.goto (-47), 3) := by decide +kernel
theorem dX1_moveSigns_69 : decode cX1_moveSigns 69 = .ok (.return_, 1) := by decide +kernel
theorem dX2_init_0 : decode cX2_init 0 = .ok (.aload_n 0, 1) := by decide +kernel
theorem dX2_init_1 : decode cX2_init 1 = .ok (.invokespecial 3, 3) := by decide +kernel
theorem dX2_init_4 : decode cX2_init 4 = .ok (.aload_n 0, 1) := by decide +kernel
theorem dX2_init_5 : decode cX2_init 5 = .ok (.bipush 6, 2) := by decide +kernel
theorem dX2_init_7 : decode cX2_init 7 = .ok (.anewarray 9, 3) := by decide +kernel
theorem dX2_init_10 : decode cX2_init 10 = .ok (.putfield 11, 3) := by decide +kernel
theorem dX2_init_13 : decode cX2_init 13 = .ok (.aload_n 0, 1) := by decide +kernel
theorem dX2_init_14 : decode cX2_init 14 = .ok (.iconst 2, 1) := by decide +kernel
theorem dX2_init_15 : decode cX2_init 15 = .ok (.anewarray 9, 3) := by decide +kernel
theorem dX2_init_18 : decode cX2_init 18 = .ok (.putfield 17, 3) := by decide +kernel
theorem dX2_init_21 : decode cX2_init 21 = .ok (.aload_n 0, 1) := by decide +kernel
theorem dX2_init_22 : decode cX2_init 22 = .ok (.iconst 0, 1) := by decide +kernel
theorem dX2_init_23 : decode cX2_init 23 = .ok (.putfield 20, 3) := by decide +kernel
theorem dX2_init_26 : decode cX2_init 26 = .ok (.aload_n 0, 1) := by decide +kernel
theorem dX2_init_27 : decode cX2_init 27 = .ok (.iconst 0, 1) := by decide +kernel
theorem dX2_init_28 : decode cX2_init 28 = .ok (.putfield 24, 3) := by decide +kernel
theorem dX2_init_31 : decode cX2_init 31 = .ok (.return_, 1) := by decide +kernel
theorem dX2_saveState_0 : decode cX2_saveState 0 = .ok (.aload_n 0, 1) := by decide +kernel
theorem dX2_saveState_1 : decode cX2_saveState 1 = .ok (.aload_n 0, 1) := by decide +kernel
theorem dX2_saveState_2 : decode cX2_saveState 2 = .ok (.getfield 20, 3) := by decide +kernel
theorem dX2_saveState_5 : decode cX2_saveState 5 = .ok (.iconst 1, 1) := by decide +kernel
theorem dX2_saveState_6 : decode cX2_saveState 6 = .ok (.iadd, 1) := by decide +kernel
theorem dX2_saveState_7 : decode cX2_saveState 7 = .ok (.bipush 6, 2) := by decide +kernel
theorem dX2_saveState_9 : decode cX2_saveState 9 = .ok (.if_icmp .ge 12, 3) := by decide +kernel
theorem dX2_saveState_12 : decode cX2_saveState 12 = .ok (.aload_n 0, 1) := by decide +kernel
theorem dX2_saveState_13 : decode cX2_saveState 13 = .ok (.getfield 20, 3) := by decide +kernel
theorem dX2_saveState_16 : decode cX2_saveState 16 = .ok (.iconst 1, 1) := by decide +kernel
theorem dX2_saveState_17 : decode cX2_saveState 17 = .ok (.iadd, 1) := by decide +kernel
theorem dX2_saveState_18 : decode cX2_saveState 18 = .ok (.goto 4, 3) := by decide +kernel
theorem dX2_saveState_21 : decode cX2_saveState 21 = .ok (.iconst 0, 1) := by decide +kernel
theorem dX2_saveState_22 : decode cX2_saveState 22 = .ok (.putfield 20, 3) := by decide +kernel
theorem dX2_saveState_25 : decode cX2_saveState 25 = .ok (.aload_n 0, 1) := by decide +kernel
theorem dX2_saveState_26 : decode cX2_saveState 26 = .ok (.getfield 11, 3) := by decide +kernel
theorem dX2_saveState_29 : decode cX2_saveState 29 = .ok (.aload_n 0, 1) := by decide +kernel
theorem dX2_saveState_30 : decode cX2_saveState 30 = .ok (.getfield 20, 3) := by decide +kernel
theorem dX2_saveState_33 : decode cX2_saveState 33 = .ok (.aload_n 1, 1) := by decide +kernel
theorem dX2_saveState_34 : decode cX2_saveState 34 = .ok (.invokestatic 27, 3) := by decide +kernel
theorem dX2_saveState_37 : decode cX2_saveState 37 = .ok (.aload_n 0, 1) := by decide +kernel
theorem dX2_saveState_38 : decode cX2_saveState 38 = .ok (.getfield 24, 3) := by decide +kernel
theorem dX2_saveState_41 : decode cX2_saveState 41 = .ok (.bipush 6, 2) := by decide +kernel
theorem dX2_saveState_43 : decode cX2_saveState 43 = .ok (.if_icmp .ge 13, 3) := by decide +kernel
theorem dX2_saveState_46 : decode cX2_saveState 46 = .ok (.aload_n 0, 1) := by decide +kernel
theorem dX2_saveState_47 : decode cX2_saveState 47 = .ok (.dup, 1) := by decide +kernel
theorem dX2_saveState_48 : decode cX2_saveState 48 = .ok (.getfield 24, 3) := by decide +kernel
theorem dX2_saveState_51 : decode cX2_saveState 51 = .ok (.iconst 1, 1) := by decide +kernel
theorem dX2_saveState_52 : decode cX2_saveState 52 = .ok (.iadd, 1) := by decide +kernel
theorem dX2_saveState_53 : decode cX2_saveState 53 = .ok (.putfield 24, 3) := by decide +kernel
theorem dX2_saveState_56 : decode cX2_saveState 56 = .ok (.return_, 1) := by decide +kernel
theorem dX2_restoreSaved_0 : decode cX2_restoreSaved 0 = .ok (.aload_n 0, 1) := by decide +kernel
theorem dX2_restoreSaved_1 : decode cX2_restoreSaved 1 = .ok (.getfield 24, 3) := by decide +kernel
theorem dX2_restoreSaved_4 : decode cX2_restoreSaved 4 = .ok (.ifCond .le 22, 3) := by decide +kernel
theorem dX2_restoreSaved_7 : decode cX2_restoreSaved 7 = .ok (.aload_n 0, 1) := by decide +kernel
theorem dX2_restoreSaved_8 : decode cX2_restoreSaved 8 = .ok (.getfield 20, 3) := by decide +kernel
theorem dX2_restoreSaved_11 : decode cX2_restoreSaved 11 = .ok (.ifCond .lt 15, 3) := by decide +kernel
theorem dX2_restoreSaved_14 : decode cX2_restoreSaved 14 = .ok (.aload_n 0, 1) := by decide +kernel
theorem dX2_restoreSaved_15 : decode cX2_restoreSaved 15 = .ok (.getfield 20, 3) := by decide +kernel
theorem dX2_restoreSaved_18 : decode cX2_restoreSaved 18 = .ok (.aload_n 0, 1) := by decide +kernel
theorem dX2_restoreSaved_19 : decode cX2_restoreSaved 19 = .ok (.getfield 11, 3) := by decide +kernel
theorem dX2_restoreSaved_22 : decode cX2_restoreSaved 22 = .ok (.arraylength, 1) := by decide +kernel
theorem dX2_restoreSaved_23 : decode cX2_restoreSaved 23 = .ok (.if_icmp .lt 5, 3) := by decide +kernel
theorem dX2_restoreSaved_26 : decode cX2_restoreSaved 26 = .ok (.iconst 0, 1) := by decide +kernel
theorem dX2_restoreSaved_27 : decode cX2_restoreSaved 27 = .ok (.ireturn, 1) := by decide +kernel
theorem dX2_restoreSaved_28 : decode cX2_restoreSaved 28 = .ok (.aload_n 0, 1) := by decide +kernel
theorem dX2_restoreSaved_29 : decode cX2_restoreSaved 29 = .ok (.getfield 11, 3) := by decide +kernel
theorem dX2_restoreSaved_32 : decode cX2_restoreSaved 32 = .ok (.aload_n 0, 1) := by decide +kernel
theorem dX2_restoreSaved_33 : decode cX2_restoreSaved 33 = .ok (.getfield 20, 3) := by decide +kernel
theorem dX2_restoreSaved_36 : decode cX2_restoreSaved 36 = .ok (.aaload, 1) := by decide +kernel
theorem dX2_restoreSaved_37 : decode cX2_restoreSaved 37 = .ok (.astore_n 2, 1) := by decide +kernel
theorem dX2_restoreSaved_38 : decode cX2_restoreSaved 38 = .ok (.aload_n 2, 1) := by decide +kernel
theorem dX2_restoreSaved_39 : decode cX2_restoreSaved 39 = .ok (.ifnonnull 5, 3) := by decide +kernel
theorem dX2_restoreSaved_42 : decode cX2_restoreSaved 42 = .ok (.iconst 0, 1) := by decide +kernel
theorem dX2_restoreSaved_43 : decode cX2_restoreSaved 43 = .ok (.ireturn, 1) := by decide +kernel
theorem dX2_restoreSaved_44 : decode cX2_restoreSaved 44 = .ok (.aload_n 1, 1) := by decide +kernel
theorem dX2_restoreSaved_45 : decode cX2_restoreSaved 45 = .ok (.aload_n 2, 1) := by decide +kernel
theorem dX2_restoreSaved_46 : decode cX2_restoreSaved 46 = .ok (.invokevirtual 31, 3) := by decide +kernel
theorem dX2_restoreSaved_49 : decode cX2_restoreSaved 49 = .ok (.aload_n 0, 1) := by decide +kernel
theorem dX2_restoreSaved_50 : decode cX2_restoreSaved 50 = .ok (.aload_n 0, 1) := by decide +kernel
theorem dX2_restoreSaved_51 : decode cX2_restoreSaved 51 = .ok (.getfield 20, 3) := by decide +kernel
theorem dX2_restoreSaved_54 : decode cX2_restoreSaved 54 = .ok (.ifCond .le 12, 3) := by decide +kernel
theorem dX2_restoreSaved_57 : decode cX2_restoreSaved 57 = .ok (.aload_n 0, 1) := by decide +kernel
theorem dX2_restoreSaved_58 : decode cX2_restoreSaved 58 = .ok (.getfield 20, 3) := by decide +kernel
theorem dX2_restoreSaved_61 : decode cX2_restoreSaved 61 = .ok (.iconst 1, 1) := by decide +kernel
theorem dX2_restoreSaved_62 : decode cX2_restoreSaved 62 = .ok (.isub, 1) := by decide +kernel
theorem dX2_restoreSaved_63 : decode cX2_restoreSaved 63 = .ok (.goto 4, 3) := by decide +kernel
theorem dX2_restoreSaved_66 : decode cX2_restoreSaved 66 = .ok (.iconst 5, 1) := by decide +kernel
theorem dX2_restoreSaved_67 : decode cX2_restoreSaved 67 = .ok (.putfield 20, 3) := by decide +kernel
theorem dX2_restoreSaved_70 : decode cX2_restoreSaved 70 = .ok (.aload_n 0, 1) := by decide +kernel
theorem dX2_restoreSaved_71 : decode cX2_restoreSaved 71 = .ok (.dup, 1) := by decide +kernel
theorem dX2_restoreSaved_72 : decode cX2_restoreSaved 72 = .ok (.getfield 24, 3) := by decide +kernel
theorem dX2_restoreSaved_75 : decode cX2_restoreSaved 75 = .ok (.iconst 1, 1) := by decide +kernel
theorem dX2_restoreSaved_76 : decode cX2_restoreSaved 76 = .ok (.isub, 1) := by decide +kernel
theorem dX2_restoreSaved_77 : decode cX2_restoreSaved 77 = .ok (.putfield 24, 3) := by decide +kernel
theorem dX2_restoreSaved_80 : decode cX2_restoreSaved 80 = .ok (.iconst 1, 1) := by decide +kernel
theorem dX2_restoreSaved_81 : decode cX2_restoreSaved 81 = .ok (.ireturn, 1) := by decide +kernel
theorem dX2_takeSnapshot_0 : decode cX2_takeSnapshot 0 = .ok (.aload_n 0, 1) := by decide +kernel
theorem dX2_takeSnapshot_1 : decode cX2_takeSnapshot 1 = .ok (.getfield 17, 3) := by decide +kernel
theorem dX2_takeSnapshot_4 : decode cX2_takeSnapshot 4 = .ok (.iload_n 1, 1) := by decide +kernel
theorem dX2_takeSnapshot_5 : decode cX2_takeSnapshot 5 = .ok (.aload_n 2, 1) := by decide +kernel
theorem dX2_takeSnapshot_6 : decode cX2_takeSnapshot 6 = .ok (.invokestatic 27, 3) := by decide +kernel
theorem dX2_takeSnapshot_9 : decode cX2_takeSnapshot 9 = .ok (.return_, 1) := by decide +kernel
theorem dX2_snapshotIn_0 : decode cX2_snapshotIn 0 = .ok (.iload_n 1, 1) := by decide +kernel
theorem dX2_snapshotIn_1 : decode cX2_snapshotIn 1 = .ok (.ifCond .lt 21, 3) := by decide +kernel
theorem dX2_snapshotIn_4 : decode cX2_snapshotIn 4 = .ok (.iload_n 1, 1) := by decide +kernel
theorem dX2_snapshotIn_5 : decode cX2_snapshotIn 5 = .ok (.aload_n 0, 1) := by decide +kernel
theorem dX2_snapshotIn_6 : decode cX2_snapshotIn 6 = .ok (.getfield 17, 3) := by decide +kernel
theorem dX2_snapshotIn_9 : decode cX2_snapshotIn 9 = .ok (.arraylength, 1) := by decide +kernel
theorem dX2_snapshotIn_10 : decode cX2_snapshotIn 10 = .ok (.if_icmp .ge 12, 3) := by decide +kernel
theorem dX2_snapshotIn_13 : decode cX2_snapshotIn 13 = .ok (.aload_n 0, 1) := by decide +kernel
theorem dX2_snapshotIn_14 : decode cX2_snapshotIn 14 = .ok (.getfield 17, 3) := by decide +kernel
theorem dX2_snapshotIn_17 : decode cX2_snapshotIn 17 = .ok (.iload_n 1, 1) := by decide +kernel
theorem dX2_snapshotIn_18 : decode cX2_snapshotIn 18 = .ok (.aaload, 1) := by decide +kernel
theorem dX2_snapshotIn_19 : decode cX2_snapshotIn 19 = .ok (.goto 4, 3) := by decide +kernel
theorem dX2_snapshotIn_22 : decode cX2_snapshotIn 22 = .ok (.aconst_null, 1) := by decide +kernel
theorem dX2_snapshotIn_23 : decode cX2_snapshotIn 23 = .ok (.areturn, 1) := by decide +kernel
theorem dX2_copyInto_0 : decode cX2_copyInto 0 = .ok (.iload_n 1, 1) := by decide +kernel
theorem dX2_copyInto_1 : decode cX2_copyInto 1 = .ok (.ifCond .lt 9, 3) := by decide +kernel
theorem dX2_copyInto_4 : decode cX2_copyInto 4 = .ok (.iload_n 1, 1) := by decide +kernel
theorem dX2_copyInto_5 : decode cX2_copyInto 5 = .ok (.aload_n 0, 1) := by decide +kernel
theorem dX2_copyInto_6 : decode cX2_copyInto 6 = .ok (.arraylength, 1) := by decide +kernel
theorem dX2_copyInto_7 : decode cX2_copyInto 7 = .ok (.if_icmp .lt 4, 3) := by decide +kernel
theorem dX2_copyInto_10 : decode cX2_copyInto 10 = .ok (.return_, 1) := by decide +kernel
theorem dX2_copyInto_11 : decode cX2_copyInto 11 = .ok (.aload_n 0, 1) := by decide +kernel
theorem dX2_copyInto_12 : decode cX2_copyInto 12 = .ok (.iload_n 1, 1) := by decide +kernel
theorem dX2_copyInto_13 : decode cX2_copyInto 13 = .ok (.aaload, 1) := by decide +kernel
theorem dX2_copyInto_14 : decode cX2_copyInto 14 = .ok (.astore_n 3, 1) := by decide +kernel
theorem dX2_copyInto_15 : decode cX2_copyInto 15 = .ok (.aload_n 3, 1) := by decide +kernel
theorem dX2_copyInto_16 : decode cX2_copyInto 16 = .ok (.ifnonnull 15, 3) := by decide +kernel
theorem dX2_copyInto_19 : decode cX2_copyInto 19 = .ok (.new 9, 3) := by decide +kernel
theorem dX2_copyInto_22 : decode cX2_copyInto 22 = .ok (.dup, 1) := by decide +kernel
theorem dX2_copyInto_23 : decode cX2_copyInto 23 = .ok (.invokespecial 35, 3) := by decide +kernel
theorem dX2_copyInto_26 : decode cX2_copyInto 26 = .ok (.astore_n 3, 1) := by decide +kernel
theorem dX2_copyInto_27 : decode cX2_copyInto 27 = .ok (.aload_n 0, 1) := by decide +kernel
theorem dX2_copyInto_28 : decode cX2_copyInto 28 = .ok (.iload_n 1, 1) := by decide +kernel
theorem dX2_copyInto_29 : decode cX2_copyInto 29 = .ok (.aload_n 3, 1) := by decide +kernel
theorem dX2_copyInto_30 : decode cX2_copyInto 30 = .ok (.aastore, 1) := by decide +kernel
theorem dX2_copyInto_31 : decode cX2_copyInto 31 = .ok (.aload_n 3, 1) := by decide +kernel
theorem dX2_copyInto_32 : decode cX2_copyInto 32 = .ok (.aload_n 2, 1) := by decide +kernel
theorem dX2_copyInto_33 : decode cX2_copyInto 33 = .ok (.invokevirtual 31, 3) := by decide +kernel
theorem dX2_copyInto_36 : decode cX2_copyInto 36 = .ok (.return_, 1) := by decide +kernel
theorem dX3_init_0 : decode cX3_init 0 = .ok (.aload_n 0, 1) := by decide +kernel
theorem dX3_init_1 : decode cX3_init 1 = .ok (.invokespecial 3, 3) := by decide +kernel
theorem dX3_init_4 : decode cX3_init 4 = .ok (.aload_n 0, 1) := by decide +kernel
theorem dX3_init_5 : decode cX3_init 5 = .ok (.aload_n 1, 1) := by decide +kernel
theorem dX3_init_6 : decode cX3_init 6 = .ok (.putfield 9, 3) := by decide +kernel
theorem dX3_init_9 : decode cX3_init 9 = .ok (.aload_n 0, 1) := by decide +kernel
theorem dX3_init_10 : decode cX3_init 10 = .ok (.aload_n 2, 1) := by decide +kernel
theorem dX3_init_11 : decode cX3_init 11 = .ok (.putfield 15, 3) := by decide +kernel
theorem dX3_init_14 : decode cX3_init 14 = .ok (.aload_n 0, 1) := by decide +kernel
theorem dX3_init_15 : decode cX3_init 15 = .ok (.iload_n 3, 1) := by decide +kernel
theorem dX3_init_16 : decode cX3_init 16 = .ok (.putfield 18, 3) := by decide +kernel
theorem dX3_init_19 : decode cX3_init 19 = .ok (.aload_n 0, 1) := by decide +kernel
theorem dX3_init_20 : decode cX3_init 20 = .ok (.iload 4, 2) := by decide +kernel
theorem dX3_init_22 : decode cX3_init 22 = .ok (.putfield 22, 3) := by decide +kernel
theorem dX3_init_25 : decode cX3_init 25 = .ok (.return_, 1) := by decide +kernel
theorem dX3_occurrencesOf_0 : decode cX3_occurrencesOf 0 = .ok (.iconst 0, 1) := by decide +kernel
theorem dX3_occurrencesOf_1 : decode cX3_occurrencesOf 1 = .ok (.istore_n 2, 1) := by decide +kernel
theorem dX3_occurrencesOf_2 : decode cX3_occurrencesOf 2 = .ok (.iconst 0, 1) := by decide +kernel
theorem dX3_occurrencesOf_3 : decode cX3_occurrencesOf 3 = .ok (.istore_n 3, 1) := by decide +kernel
theorem dX3_occurrencesOf_4 : decode cX3_occurrencesOf 4 = .ok (.iload_n 3, 1) := by decide +kernel
theorem dX3_occurrencesOf_5 : decode cX3_occurrencesOf 5 = .ok (.aload_n 0, 1) := by decide +kernel
theorem dX3_occurrencesOf_6 : decode cX3_occurrencesOf 6 = .ok (.getfield 9, 3) := by decide +kernel
theorem dX3_occurrencesOf_9 : decode cX3_occurrencesOf 9 = .ok (.arraylength, 1) := by decide +kernel
theorem dX3_occurrencesOf_10 : decode cX3_occurrencesOf 10 = .ok (.if_icmp .ge 22, 3) := by decide +kernel
theorem dX3_occurrencesOf_13 : decode cX3_occurrencesOf 13 = .ok (.aload_n 0, 1) := by decide +kernel
theorem dX3_occurrencesOf_14 : decode cX3_occurrencesOf 14 = .ok (.getfield 9, 3) := by decide +kernel
theorem dX3_occurrencesOf_17 : decode cX3_occurrencesOf 17 = .ok (.iload_n 3, 1) := by decide +kernel
theorem dX3_occurrencesOf_18 : decode cX3_occurrencesOf 18 = .ok (.iaload, 1) := by decide +kernel
theorem dX3_occurrencesOf_19 : decode cX3_occurrencesOf 19 = .ok (.iload_n 1, 1) := by decide +kernel
theorem dX3_occurrencesOf_20 : decode cX3_occurrencesOf 20 = .ok (.if_icmp .ne 6, 3) := by decide +kernel
theorem dX3_occurrencesOf_23 : decode cX3_occurrencesOf 23 = .ok (.iinc 2 1, 3) := by decide +kernel
theorem dX3_occurrencesOf_26 : decode cX3_occurrencesOf 26 = .ok (.iinc 3 1, 3) := by decide +kernel
theorem dX3_occurrencesOf_29 : decode cX3_occurrencesOf 29 = .ok (.goto (-25), 3) := by decide +kernel
theorem dX3_occurrencesOf_32 : decode cX3_occurrencesOf 32 = .ok (.iload_n 2, 1) := by decide +kernel
theorem dX3_occurrencesOf_33 : decode cX3_occurrencesOf 33 = .ok (.ireturn, 1) := by decide +kernel
theorem dX3_listedCalls_0 : decode cX3_listedCalls 0 = .ok (.aload_n 0, 1) := by decide +kernel
theorem dX3_listedCalls_1 : decode cX3_listedCalls 1 = .ok (.getfield 15, 3) := by decide +kernel
theorem dX3_listedCalls_4 : decode cX3_listedCalls 4 = .ok (.arraylength, 1) := by decide +kernel
theorem dX3_listedCalls_5 : decode cX3_listedCalls 5 = .ok (.bipush 6, 2) := by decide +kernel
theorem dX3_listedCalls_7 : decode cX3_listedCalls 7 = .ok (.idiv, 1) := by decide +kernel
theorem dX3_listedCalls_8 : decode cX3_listedCalls 8 = .ok (.ireturn, 1) := by decide +kernel
theorem dX3_numberOfCall_0 : decode cX3_numberOfCall 0 = .ok (.iload_n 1, 1) := by decide +kernel
theorem dX3_numberOfCall_1 : decode cX3_numberOfCall 1 = .ok (.ifCond .lt 21, 3) := by decide +kernel
theorem dX3_numberOfCall_4 : decode cX3_numberOfCall 4 = .ok (.iload_n 1, 1) := by decide +kernel
theorem dX3_numberOfCall_5 : decode cX3_numberOfCall 5 = .ok (.aload_n 0, 1) := by decide +kernel
theorem dX3_numberOfCall_6 : decode cX3_numberOfCall 6 = .ok (.invokevirtual 25, 3) := by decide +kernel
theorem dX3_numberOfCall_9 : decode cX3_numberOfCall 9 = .ok (.if_icmp .ge 13, 3) := by decide +kernel
theorem dX3_numberOfCall_12 : decode cX3_numberOfCall 12 = .ok (.iload_n 2, 1) := by decide +kernel
theorem dX3_numberOfCall_13 : decode cX3_numberOfCall 13 = .ok (.ifCond .lt 9, 3) := by decide +kernel
theorem dX3_numberOfCall_16 : decode cX3_numberOfCall 16 = .ok (.iload_n 2, 1) := by decide +kernel
theorem dX3_numberOfCall_17 : decode cX3_numberOfCall 17 = .ok (.bipush 6, 2) := by decide +kernel
theorem dX3_numberOfCall_19 : decode cX3_numberOfCall 19 = .ok (.if_icmp .lt 5, 3) := by decide +kernel
theorem dX3_numberOfCall_22 : decode cX3_numberOfCall 22 = .ok (.iconst (-1), 1) := by decide +kernel
theorem dX3_numberOfCall_23 : decode cX3_numberOfCall 23 = .ok (.ireturn, 1) := by decide +kernel
theorem dX3_numberOfCall_24 : decode cX3_numberOfCall 24 = .ok (.aload_n 0, 1) := by decide +kernel
theorem dX3_numberOfCall_25 : decode cX3_numberOfCall 25 = .ok (.getfield 15, 3) := by decide +kernel
theorem dX3_numberOfCall_28 : decode cX3_numberOfCall 28 = .ok (.iload_n 1, 1) := by decide +kernel
theorem dX3_numberOfCall_29 : decode cX3_numberOfCall 29 = .ok (.bipush 6, 2) := by decide +kernel
theorem dX3_numberOfCall_31 : decode cX3_numberOfCall 31 = .ok (.imul, 1) := by decide +kernel
theorem dX3_numberOfCall_32 : decode cX3_numberOfCall 32 = .ok (.iload_n 2, 1) := by decide +kernel
theorem dX3_numberOfCall_33 : decode cX3_numberOfCall 33 = .ok (.iadd, 1) := by decide +kernel
theorem dX3_numberOfCall_34 : decode cX3_numberOfCall 34 = .ok (.iaload, 1) := by decide +kernel
theorem dX3_numberOfCall_35 : decode cX3_numberOfCall 35 = .ok (.ireturn, 1) := by decide +kernel
theorem dX4_init_0 : decode cX4_init 0 = .ok (.aload_n 0, 1) := by decide +kernel
theorem dX4_init_1 : decode cX4_init 1 = .ok (.invokespecial 3, 3) := by decide +kernel
theorem dX4_init_4 : decode cX4_init 4 = .ok (.aload_n 0, 1) := by decide +kernel
theorem dX4_init_5 : decode cX4_init 5 = .ok (.bipush 60, 2) := by decide +kernel
theorem dX4_init_7 : decode cX4_init 7 = .ok (.newarray .int, 2) := by decide +kernel
theorem dX4_init_9 : decode cX4_init 9 = .ok (.putfield 9, 3) := by decide +kernel
theorem dX4_init_12 : decode cX4_init 12 = .ok (.aload_n 0, 1) := by decide +kernel
theorem dX4_init_13 : decode cX4_init 13 = .ok (.iconst 0, 1) := by decide +kernel
theorem dX4_init_14 : decode cX4_init 14 = .ok (.putfield 15, 3) := by decide +kernel
theorem dX4_init_17 : decode cX4_init 17 = .ok (.aload_n 0, 1) := by decide +kernel
theorem dX4_init_18 : decode cX4_init 18 = .ok (.iconst 0, 1) := by decide +kernel
theorem dX4_init_19 : decode cX4_init 19 = .ok (.putfield 19, 3) := by decide +kernel
theorem dX4_init_22 : decode cX4_init 22 = .ok (.aload_n 0, 1) := by decide +kernel
theorem dX4_init_23 : decode cX4_init 23 = .ok (.iconst 0, 1) := by decide +kernel
theorem dX4_init_24 : decode cX4_init 24 = .ok (.putfield 22, 3) := by decide +kernel
theorem dX4_init_27 : decode cX4_init 27 = .ok (.aload_n 0, 1) := by decide +kernel
theorem dX4_init_28 : decode cX4_init 28 = .ok (.iconst 0, 1) := by decide +kernel
theorem dX4_init_29 : decode cX4_init 29 = .ok (.putfield 25, 3) := by decide +kernel
theorem dX4_init_32 : decode cX4_init 32 = .ok (.aload_n 0, 1) := by decide +kernel
theorem dX4_init_33 : decode cX4_init 33 = .ok (.iconst 0, 1) := by decide +kernel
theorem dX4_init_34 : decode cX4_init 34 = .ok (.putfield 28, 3) := by decide +kernel
theorem dX4_init_37 : decode cX4_init 37 = .ok (.aload_n 0, 1) := by decide +kernel
theorem dX4_init_38 : decode cX4_init 38 = .ok (.iconst 0, 1) := by decide +kernel
theorem dX4_init_39 : decode cX4_init 39 = .ok (.putfield 31, 3) := by decide +kernel
theorem dX4_init_42 : decode cX4_init 42 = .ok (.aload_n 0, 1) := by decide +kernel
theorem dX4_init_43 : decode cX4_init 43 = .ok (.iconst 0, 1) := by decide +kernel
theorem dX4_init_44 : decode cX4_init 44 = .ok (.putfield 34, 3) := by decide +kernel
theorem dX4_init_47 : decode cX4_init 47 = .ok (.aload_n 0, 1) := by decide +kernel
theorem dX4_init_48 : decode cX4_init 48 = .ok (.iconst 0, 1) := by decide +kernel
theorem dX4_init_49 : decode cX4_init 49 = .ok (.putfield 37, 3) := by decide +kernel
theorem dX4_init_52 : decode cX4_init 52 = .ok (.aload_n 0, 1) := by decide +kernel
theorem dX4_init_53 : decode cX4_init 53 = .ok (.iconst 0, 1) := by decide +kernel
theorem dX4_init_54 : decode cX4_init 54 = .ok (.putfield 40, 3) := by decide +kernel
theorem dX4_init_57 : decode cX4_init 57 = .ok (.return_, 1) := by decide +kernel
theorem dX4_readText_0 : decode cX4_readText 0 = .ok (.aload_n 0, 1) := by decide +kernel
theorem dX4_readText_1 : decode cX4_readText 1 = .ok (.iload_n 2, 1) := by decide +kernel
theorem dX4_readText_2 : decode cX4_readText 2 = .ok (.invokevirtual 43, 3) := by decide +kernel
theorem dX4_readText_5 : decode cX4_readText 5 = .ok (.iconst 0, 1) := by decide +kernel
theorem dX4_readText_6 : decode cX4_readText 6 = .ok (.istore_n 3, 1) := by decide +kernel
theorem dX4_readText_7 : decode cX4_readText 7 = .ok (.iconst 0, 1) := by decide +kernel
theorem dX4_readText_8 : decode cX4_readText 8 = .ok (.istore 4, 2) := by decide +kernel
theorem dX4_readText_10 : decode cX4_readText 10 = .ok (.iload 4, 2) := by decide +kernel
theorem dX4_readText_12 : decode cX4_readText 12 = .ok (.iload_n 2, 1) := by decide +kernel
theorem dX4_readText_13 : decode cX4_readText 13 = .ok (.if_icmp .ge 42, 3) := by decide +kernel
theorem dX4_readText_16 : decode cX4_readText 16 = .ok (.iload 4, 2) := by decide +kernel
theorem dX4_readText_18 : decode cX4_readText 18 = .ok (.aload_n 1, 1) := by decide +kernel
theorem dX4_readText_19 : decode cX4_readText 19 = .ok (.arraylength, 1) := by decide +kernel
theorem dX4_readText_20 : decode cX4_readText 20 = .ok (.if_icmp .ge 35, 3) := by decide +kernel
theorem dX4_readText_23 : decode cX4_readText 23 = .ok (.aload_n 0, 1) := by decide +kernel
theorem dX4_readText_24 : decode cX4_readText 24 = .ok (.aload_n 1, 1) := by decide +kernel
theorem dX4_readText_25 : decode cX4_readText 25 = .ok (.iload 4, 2) := by decide +kernel
theorem dX4_readText_27 : decode cX4_readText 27 = .ok (.iaload, 1) := by decide +kernel
theorem dX4_readText_28 : decode cX4_readText 28 = .ok (.iload_n 3, 1) := by decide +kernel
theorem dX4_readText_29 : decode cX4_readText 29 = .ok (.invokevirtual 47, 3) := by decide +kernel
theorem dX4_readText_32 : decode cX4_readText 32 = .ok (.ifCond .ne 4, 3) := by decide +kernel
theorem dX4_readText_35 : decode cX4_readText 35 = .ok (.return_, 1) := by decide +kernel
theorem dX4_readText_36 : decode cX4_readText 36 = .ok (.aload_n 1, 1) := by decide +kernel
theorem dX4_readText_37 : decode cX4_readText 37 = .ok (.iload 4, 2) := by decide +kernel
theorem dX4_readText_39 : decode cX4_readText 39 = .ok (.iaload, 1) := by decide +kernel
theorem dX4_readText_40 : decode cX4_readText 40 = .ok (.istore_n 3, 1) := by decide +kernel
theorem dX4_readText_41 : decode cX4_readText 41 = .ok (.aload_n 0, 1) := by decide +kernel
theorem dX4_readText_42 : decode cX4_readText 42 = .ok (.iload 4, 2) := by decide +kernel
theorem dX4_readText_44 : decode cX4_readText 44 = .ok (.iconst 1, 1) := by decide +kernel
theorem dX4_readText_45 : decode cX4_readText 45 = .ok (.iadd, 1) := by decide +kernel
theorem dX4_readText_46 : decode cX4_readText 46 = .ok (.putfield 22, 3) := by decide +kernel
theorem dX4_readText_49 : decode cX4_readText 49 = .ok (.iinc 4 1, 3) := by decide +kernel
theorem dX4_readText_52 : decode cX4_readText 52 = .ok (.goto (-42), 3) := by decide +kernel
theorem dX4_readText_55 : decode cX4_readText 55 = .ok (.return_, 1) := by decide +kernel
theorem dX4_isComplete_0 : decode cX4_isComplete 0 = .ok (.aload_n 0, 1) := by decide +kernel
theorem dX4_isComplete_1 : decode cX4_isComplete 1 = .ok (.getfield 22, 3) := by decide +kernel
theorem dX4_isComplete_4 : decode cX4_isComplete 4 = .ok (.aload_n 0, 1) := by decide +kernel
theorem dX4_isComplete_5 : decode cX4_isComplete 5 = .ok (.getfield 19, 3) := by decide +kernel
theorem dX4_isComplete_8 : decode cX4_isComplete 8 = .ok (.if_icmp .ne 14, 3) := by decide +kernel
theorem dX4_isComplete_11 : decode cX4_isComplete 11 = .ok (.aload_n 0, 1) := by decide +kernel
theorem dX4_isComplete_12 : decode cX4_isComplete 12 = .ok (.getfield 15, 3) := by decide +kernel
theorem dX4_isComplete_15 : decode cX4_isComplete 15 = .ok (.ifCond .ne 7, 3) := by decide +kernel
theorem dX4_isComplete_18 : decode cX4_isComplete 18 = .ok (.iconst 1, 1) := by decide +kernel
theorem dX4_isComplete_19 : decode cX4_isComplete 19 = .ok (.goto 4, 3) := by decide +kernel
theorem dX4_isComplete_22 : decode cX4_isComplete 22 = .ok (.iconst 0, 1) := by decide +kernel
theorem dX4_isComplete_23 : decode cX4_isComplete 23 = .ok (.ireturn, 1) := by decide +kernel
theorem dX4_startOver_0 : decode cX4_startOver 0 = .ok (.aload_n 0, 1) := by decide +kernel
theorem dX4_startOver_1 : decode cX4_startOver 1 = .ok (.iload_n 1, 1) := by decide +kernel
theorem dX4_startOver_2 : decode cX4_startOver 2 = .ok (.putfield 19, 3) := by decide +kernel
theorem dX4_startOver_5 : decode cX4_startOver 5 = .ok (.aload_n 0, 1) := by decide +kernel
theorem dX4_startOver_6 : decode cX4_startOver 6 = .ok (.iconst 0, 1) := by decide +kernel
theorem dX4_startOver_7 : decode cX4_startOver 7 = .ok (.putfield 22, 3) := by decide +kernel
theorem dX4_startOver_10 : decode cX4_startOver 10 = .ok (.aload_n 0, 1) := by decide +kernel
theorem dX4_startOver_11 : decode cX4_startOver 11 = .ok (.iconst 0, 1) := by decide +kernel
theorem dX4_startOver_12 : decode cX4_startOver 12 = .ok (.putfield 15, 3) := by decide +kernel
theorem dX4_startOver_15 : decode cX4_startOver 15 = .ok (.aload_n 0, 1) := by decide +kernel
theorem dX4_startOver_16 : decode cX4_startOver 16 = .ok (.iconst 0, 1) := by decide +kernel
theorem dX4_startOver_17 : decode cX4_startOver 17 = .ok (.putfield 25, 3) := by decide +kernel
theorem dX4_startOver_20 : decode cX4_startOver 20 = .ok (.aload_n 0, 1) := by decide +kernel
theorem dX4_startOver_21 : decode cX4_startOver 21 = .ok (.iconst 0, 1) := by decide +kernel
theorem dX4_startOver_22 : decode cX4_startOver 22 = .ok (.putfield 28, 3) := by decide +kernel
theorem dX4_startOver_25 : decode cX4_startOver 25 = .ok (.aload_n 0, 1) := by decide +kernel
theorem dX4_startOver_26 : decode cX4_startOver 26 = .ok (.iconst 0, 1) := by decide +kernel
theorem dX4_startOver_27 : decode cX4_startOver 27 = .ok (.putfield 31, 3) := by decide +kernel
theorem dX4_startOver_30 : decode cX4_startOver 30 = .ok (.aload_n 0, 1) := by decide +kernel
theorem dX4_startOver_31 : decode cX4_startOver 31 = .ok (.iconst 0, 1) := by decide +kernel
theorem dX4_startOver_32 : decode cX4_startOver 32 = .ok (.putfield 34, 3) := by decide +kernel
theorem dX4_startOver_35 : decode cX4_startOver 35 = .ok (.aload_n 0, 1) := by decide +kernel
theorem dX4_startOver_36 : decode cX4_startOver 36 = .ok (.iconst 0, 1) := by decide +kernel
theorem dX4_startOver_37 : decode cX4_startOver 37 = .ok (.putfield 37, 3) := by decide +kernel
theorem dX4_startOver_40 : decode cX4_startOver 40 = .ok (.aload_n 0, 1) := by decide +kernel
theorem dX4_startOver_41 : decode cX4_startOver 41 = .ok (.iconst 0, 1) := by decide +kernel
theorem dX4_startOver_42 : decode cX4_startOver 42 = .ok (.putfield 40, 3) := by decide +kernel
theorem dX4_startOver_45 : decode cX4_startOver 45 = .ok (.return_, 1) := by decide +kernel
theorem dX4_accepts_0 : decode cX4_accepts 0 = .ok (.iload_n 1, 1) := by decide +kernel
theorem dX4_accepts_1 : decode cX4_accepts 1 = .ok (.bipush 97, 2) := by decide +kernel
theorem dX4_accepts_3 : decode cX4_accepts 3 = .ok (.if_icmp .lt 9, 3) := by decide +kernel
theorem dX4_accepts_6 : decode cX4_accepts 6 = .ok (.iload_n 1, 1) := by decide +kernel
theorem dX4_accepts_7 : decode cX4_accepts 7 = .ok (.bipush 122, 2) := by decide +kernel
theorem dX4_accepts_9 : decode cX4_accepts 9 = .ok (.if_icmp .le 9, 3) := by decide +kernel
theorem dX4_accepts_12 : decode cX4_accepts 12 = .ok (.iload_n 1, 1) := by decide +kernel
theorem dX4_accepts_13 : decode cX4_accepts 13 = .ok (.bipush 95, 2) := by decide +kernel
theorem dX4_accepts_15 : decode cX4_accepts 15 = .ok (.if_icmp .ne 15, 3) := by decide +kernel
theorem dX4_accepts_18 : decode cX4_accepts 18 = .ok (.aload_n 0, 1) := by decide +kernel
theorem dX4_accepts_19 : decode cX4_accepts 19 = .ok (.dup, 1) := by decide +kernel
theorem dX4_accepts_20 : decode cX4_accepts 20 = .ok (.getfield 37, 3) := by decide +kernel
theorem dX4_accepts_23 : decode cX4_accepts 23 = .ok (.iconst 1, 1) := by decide +kernel
theorem dX4_accepts_24 : decode cX4_accepts 24 = .ok (.iadd, 1) := by decide +kernel
theorem dX4_accepts_25 : decode cX4_accepts 25 = .ok (.putfield 37, 3) := by decide +kernel
theorem dX4_accepts_28 : decode cX4_accepts 28 = .ok (.iconst 1, 1) := by decide +kernel
theorem dX4_accepts_29 : decode cX4_accepts 29 = .ok (.ireturn, 1) := by decide +kernel
theorem dX4_accepts_30 : decode cX4_accepts 30 = .ok (.iload_n 1, 1) := by decide +kernel
theorem dX4_accepts_31 : decode cX4_accepts 31 = .ok (.bipush 63, 2) := by decide +kernel
theorem dX4_accepts_33 : decode cX4_accepts 33 = .ok (.if_icmp .ne 15, 3) := by decide +kernel
theorem dX4_accepts_36 : decode cX4_accepts 36 = .ok (.aload_n 0, 1) := by decide +kernel
theorem dX4_accepts_37 : decode cX4_accepts 37 = .ok (.dup, 1) := by decide +kernel
theorem dX4_accepts_38 : decode cX4_accepts 38 = .ok (.getfield 25, 3) := by decide +kernel
theorem dX4_accepts_41 : decode cX4_accepts 41 = .ok (.iconst 1, 1) := by decide +kernel
theorem dX4_accepts_42 : decode cX4_accepts 42 = .ok (.iadd, 1) := by decide +kernel
theorem dX4_accepts_43 : decode cX4_accepts 43 = .ok (.putfield 25, 3) := by decide +kernel
theorem dX4_accepts_46 : decode cX4_accepts 46 = .ok (.iconst 1, 1) := by decide +kernel
theorem dX4_accepts_47 : decode cX4_accepts 47 = .ok (.ireturn, 1) := by decide +kernel
theorem dX4_accepts_48 : decode cX4_accepts 48 = .ok (.iload_n 1, 1) := by decide +kernel
theorem dX4_accepts_49 : decode cX4_accepts 49 = .ok (.invokestatic 51, 3) := by decide +kernel
theorem dX4_accepts_52 : decode cX4_accepts 52 = .ok (.ifCond .eq 13, 3) := by decide +kernel
theorem dX4_accepts_55 : decode cX4_accepts 55 = .ok (.aload_n 0, 1) := by decide +kernel
theorem dX4_accepts_56 : decode cX4_accepts 56 = .ok (.iload_n 1, 1) := by decide +kernel
theorem dX4_accepts_57 : decode cX4_accepts 57 = .ok (.bipush 65, 2) := by decide +kernel
theorem dX4_accepts_59 : decode cX4_accepts 59 = .ok (.isub, 1) := by decide +kernel
theorem dX4_accepts_60 : decode cX4_accepts 60 = .ok (.invokevirtual 55, 3) := by decide +kernel
theorem dX4_accepts_63 : decode cX4_accepts 63 = .ok (.iconst 1, 1) := by decide +kernel
theorem dX4_accepts_64 : decode cX4_accepts 64 = .ok (.ireturn, 1) := by decide +kernel
theorem dX4_accepts_65 : decode cX4_accepts 65 = .ok (.iload_n 1, 1) := by decide +kernel
theorem dX4_accepts_66 : decode cX4_accepts 66 = .ok (.bipush 40, 2) := by decide +kernel
theorem dX4_accepts_68 : decode cX4_accepts 68 = .ok (.if_icmp .ne 23, 3) := by decide +kernel
theorem dX4_accepts_71 : decode cX4_accepts 71 = .ok (.iload_n 2, 1) := by decide +kernel
theorem dX4_accepts_72 : decode cX4_accepts 72 = .ok (.invokestatic 51, 3) := by decide +kernel
theorem dX4_accepts_75 : decode cX4_accepts 75 = .ok (.ifCond .eq 14, 3) := by decide +kernel
theorem dX4_accepts_78 : decode cX4_accepts 78 = .ok (.aload_n 0, 1) := by decide +kernel
theorem dX4_accepts_79 : decode cX4_accepts 79 = .ok (.invokevirtual 58, 3) := by decide +kernel
theorem dX4_accepts_82 : decode cX4_accepts 82 = .ok (.ifCond .eq 7, 3) := by decide +kernel
theorem dX4_accepts_85 : decode cX4_accepts 85 = .ok (.iconst 1, 1) := by decide +kernel
theorem dX4_accepts_86 : decode cX4_accepts 86 = .ok (.goto 4, 3) := by decide +kernel
theorem dX4_accepts_89 : decode cX4_accepts 89 = .ok (.iconst 0, 1) := by decide +kernel
theorem dX4_accepts_90 : decode cX4_accepts 90 = .ok (.ireturn, 1) := by decide +kernel
theorem dX4_accepts_91 : decode cX4_accepts 91 = .ok (.iload_n 1, 1) := by decide +kernel
theorem dX4_accepts_92 : decode cX4_accepts 92 = .ok (.bipush 44, 2) := by decide +kernel
theorem dX4_accepts_94 : decode cX4_accepts 94 = .ok (.if_icmp .ne 8, 3) := by decide +kernel
theorem dX4_accepts_97 : decode cX4_accepts 97 = .ok (.aload_n 0, 1) := by decide +kernel
theorem dX4_accepts_98 : decode cX4_accepts 98 = .ok (.invokevirtual 62, 3) := by decide +kernel
theorem dX4_accepts_101 : decode cX4_accepts 101 = .ok (.ireturn, 1) := by decide +kernel
theorem dX4_accepts_102 : decode cX4_accepts 102 = .ok (.iload_n 1, 1) := by decide +kernel
theorem dX4_accepts_103 : decode cX4_accepts 103 = .ok (.bipush 41, 2) := by decide +kernel
theorem dX4_accepts_105 : decode cX4_accepts 105 = .ok (.if_icmp .ne 14, 3) := by decide +kernel
theorem dX4_accepts_108 : decode cX4_accepts 108 = .ok (.aload_n 0, 1) := by decide +kernel
theorem dX4_accepts_109 : decode cX4_accepts 109 = .ok (.invokevirtual 65, 3) := by decide +kernel
theorem dX4_accepts_112 : decode cX4_accepts 112 = .ok (.ifCond .eq 7, 3) := by decide +kernel
theorem dX4_accepts_115 : decode cX4_accepts 115 = .ok (.iconst 1, 1) := by decide +kernel
theorem dX4_accepts_116 : decode cX4_accepts 116 = .ok (.goto 4, 3) := by decide +kernel
theorem dX4_accepts_119 : decode cX4_accepts 119 = .ok (.iconst 0, 1) := by decide +kernel
theorem dX4_accepts_120 : decode cX4_accepts 120 = .ok (.ireturn, 1) := by decide +kernel
theorem dX4_noteCall_0 : decode cX4_noteCall 0 = .ok (.aload_n 0, 1) := by decide +kernel
theorem dX4_noteCall_1 : decode cX4_noteCall 1 = .ok (.dup, 1) := by decide +kernel
theorem dX4_noteCall_2 : decode cX4_noteCall 2 = .ok (.getfield 28, 3) := by decide +kernel
theorem dX4_noteCall_5 : decode cX4_noteCall 5 = .ok (.iconst 1, 1) := by decide +kernel
theorem dX4_noteCall_6 : decode cX4_noteCall 6 = .ok (.iadd, 1) := by decide +kernel
theorem dX4_noteCall_7 : decode cX4_noteCall 7 = .ok (.putfield 28, 3) := by decide +kernel
theorem dX4_noteCall_10 : decode cX4_noteCall 10 = .ok (.aload_n 0, 1) := by decide +kernel
theorem dX4_noteCall_11 : decode cX4_noteCall 11 = .ok (.dup, 1) := by decide +kernel
theorem dX4_noteCall_12 : decode cX4_noteCall 12 = .ok (.getfield 40, 3) := by decide +kernel
theorem dX4_noteCall_15 : decode cX4_noteCall 15 = .ok (.iconst 1, 1) := by decide +kernel
theorem dX4_noteCall_16 : decode cX4_noteCall 16 = .ok (.iload_n 1, 1) := by decide +kernel
theorem dX4_noteCall_17 : decode cX4_noteCall 17 = .ok (.ishl, 1) := by decide +kernel
theorem dX4_noteCall_18 : decode cX4_noteCall 18 = .ok (.ior, 1) := by decide +kernel
theorem dX4_noteCall_19 : decode cX4_noteCall 19 = .ok (.putfield 40, 3) := by decide +kernel
theorem dX4_noteCall_22 : decode cX4_noteCall 22 = .ok (.aload_n 0, 1) := by decide +kernel
theorem dX4_noteCall_23 : decode cX4_noteCall 23 = .ok (.aload_n 0, 1) := by decide +kernel
theorem dX4_noteCall_24 : decode cX4_noteCall 24 = .ok (.getfield 34, 3) := by decide +kernel
theorem dX4_noteCall_27 : decode cX4_noteCall 27 = .ok (.aload_n 0, 1) := by decide +kernel
theorem dX4_noteCall_28 : decode cX4_noteCall 28 = .ok (.getfield 15, 3) := by decide +kernel
theorem dX4_noteCall_31 : decode cX4_noteCall 31 = .ok (.iconst 1, 1) := by decide +kernel
theorem dX4_noteCall_32 : decode cX4_noteCall 32 = .ok (.iadd, 1) := by decide +kernel
theorem dX4_noteCall_33 : decode cX4_noteCall 33 = .ok (.invokestatic 68, 3) := by decide +kernel
theorem dX4_noteCall_36 : decode cX4_noteCall 36 = .ok (.putfield 34, 3) := by decide +kernel
theorem dX4_noteCall_39 : decode cX4_noteCall 39 = .ok (.return_, 1) := by decide +kernel
theorem dX4_opensCall_0 : decode cX4_opensCall 0 = .ok (.aload_n 0, 1) := by decide +kernel
theorem dX4_opensCall_1 : decode cX4_opensCall 1 = .ok (.getfield 15, 3) := by decide +kernel
theorem dX4_opensCall_4 : decode cX4_opensCall 4 = .ok (.ifCond .lt 15, 3) := by decide +kernel
theorem dX4_opensCall_7 : decode cX4_opensCall 7 = .ok (.aload_n 0, 1) := by decide +kernel
theorem dX4_opensCall_8 : decode cX4_opensCall 8 = .ok (.getfield 15, 3) := by decide +kernel
theorem dX4_opensCall_11 : decode cX4_opensCall 11 = .ok (.aload_n 0, 1) := by decide +kernel
theorem dX4_opensCall_12 : decode cX4_opensCall 12 = .ok (.getfield 9, 3) := by decide +kernel
theorem dX4_opensCall_15 : decode cX4_opensCall 15 = .ok (.arraylength, 1) := by decide +kernel
theorem dX4_opensCall_16 : decode cX4_opensCall 16 = .ok (.if_icmp .lt 5, 3) := by decide +kernel
theorem dX4_opensCall_19 : decode cX4_opensCall 19 = .ok (.iconst 0, 1) := by decide +kernel
theorem dX4_opensCall_20 : decode cX4_opensCall 20 = .ok (.ireturn, 1) := by decide +kernel
theorem dX4_opensCall_21 : decode cX4_opensCall 21 = .ok (.aload_n 0, 1) := by decide +kernel
theorem dX4_opensCall_22 : decode cX4_opensCall 22 = .ok (.getfield 9, 3) := by decide +kernel
theorem dX4_opensCall_25 : decode cX4_opensCall 25 = .ok (.aload_n 0, 1) := by decide +kernel
theorem dX4_opensCall_26 : decode cX4_opensCall 26 = .ok (.getfield 15, 3) := by decide +kernel
theorem dX4_opensCall_29 : decode cX4_opensCall 29 = .ok (.iconst 1, 1) := by decide +kernel
theorem dX4_opensCall_30 : decode cX4_opensCall 30 = .ok (.iastore, 1) := by decide +kernel
theorem dX4_opensCall_31 : decode cX4_opensCall 31 = .ok (.aload_n 0, 1) := by decide +kernel
theorem dX4_opensCall_32 : decode cX4_opensCall 32 = .ok (.aload_n 0, 1) := by decide +kernel
theorem dX4_opensCall_33 : decode cX4_opensCall 33 = .ok (.getfield 31, 3) := by decide +kernel
theorem dX4_opensCall_36 : decode cX4_opensCall 36 = .ok (.iconst 1, 1) := by decide +kernel
theorem dX4_opensCall_37 : decode cX4_opensCall 37 = .ok (.invokestatic 68, 3) := by decide +kernel
theorem dX4_opensCall_40 : decode cX4_opensCall 40 = .ok (.putfield 31, 3) := by decide +kernel
theorem dX4_opensCall_43 : decode cX4_opensCall 43 = .ok (.aload_n 0, 1) := by decide +kernel
theorem dX4_opensCall_44 : decode cX4_opensCall 44 = .ok (.dup, 1) := by decide +kernel
theorem dX4_opensCall_45 : decode cX4_opensCall 45 = .ok (.getfield 15, 3) := by decide +kernel
theorem dX4_opensCall_48 : decode cX4_opensCall 48 = .ok (.iconst 1, 1) := by decide +kernel
theorem dX4_opensCall_49 : decode cX4_opensCall 49 = .ok (.iadd, 1) := by decide +kernel
theorem dX4_opensCall_50 : decode cX4_opensCall 50 = .ok (.putfield 15, 3) := by decide +kernel
theorem dX4_opensCall_53 : decode cX4_opensCall 53 = .ok (.iconst 1, 1) := by decide +kernel
theorem dX4_opensCall_54 : decode cX4_opensCall 54 = .ok (.ireturn, 1) := by decide +kernel
theorem dX4_addsArgument_0 : decode cX4_addsArgument 0 = .ok (.aload_n 0, 1) := by decide +kernel
theorem dX4_addsArgument_1 : decode cX4_addsArgument 1 = .ok (.getfield 15, 3) := by decide +kernel
theorem dX4_addsArgument_4 : decode cX4_addsArgument 4 = .ok (.iconst 1, 1) := by decide +kernel
theorem dX4_addsArgument_5 : decode cX4_addsArgument 5 = .ok (.isub, 1) := by decide +kernel
theorem dX4_addsArgument_6 : decode cX4_addsArgument 6 = .ok (.istore_n 1, 1) := by decide +kernel
theorem dX4_addsArgument_7 : decode cX4_addsArgument 7 = .ok (.iload_n 1, 1) := by decide +kernel
theorem dX4_addsArgument_8 : decode cX4_addsArgument 8 = .ok (.ifCond .lt 12, 3) := by decide +kernel
theorem dX4_addsArgument_11 : decode cX4_addsArgument 11 = .ok (.iload_n 1, 1) := by decide +kernel
theorem dX4_addsArgument_12 : decode cX4_addsArgument 12 = .ok (.aload_n 0, 1) := by decide +kernel
theorem dX4_addsArgument_13 : decode cX4_addsArgument 13 = .ok (.getfield 9, 3) := by decide +kernel
theorem dX4_addsArgument_16 : decode cX4_addsArgument 16 = .ok (.arraylength, 1) := by decide +kernel
theorem dX4_addsArgument_17 : decode cX4_addsArgument 17 = .ok (.if_icmp .lt 5, 3) := by decide +kernel
theorem dX4_addsArgument_20 : decode cX4_addsArgument 20 = .ok (.iconst 0, 1) := by decide +kernel
theorem dX4_addsArgument_21 : decode cX4_addsArgument 21 = .ok (.ireturn, 1) := by decide +kernel
theorem dX4_addsArgument_22 : decode cX4_addsArgument 22 = .ok (.aload_n 0, 1) := by decide +kernel
theorem dX4_addsArgument_23 : decode cX4_addsArgument 23 = .ok (.getfield 9, 3) := by decide +kernel
theorem dX4_addsArgument_26 : decode cX4_addsArgument 26 = .ok (.iload_n 1, 1) := by decide +kernel
theorem dX4_addsArgument_27 : decode cX4_addsArgument 27 = .ok (.iaload, 1) := by decide +kernel
theorem dX4_addsArgument_28 : decode cX4_addsArgument 28 = .ok (.bipush 6, 2) := by decide +kernel
theorem dX4_addsArgument_30 : decode cX4_addsArgument 30 = .ok (.if_icmp .lt 5, 3) := by decide +kernel
theorem dX4_addsArgument_33 : decode cX4_addsArgument 33 = .ok (.iconst 0, 1) := by decide +kernel
theorem dX4_addsArgument_34 : decode cX4_addsArgument 34 = .ok (.ireturn, 1) := by decide +kernel
theorem dX4_addsArgument_35 : decode cX4_addsArgument 35 = .ok (.aload_n 0, 1) := by decide +kernel
theorem dX4_addsArgument_36 : decode cX4_addsArgument 36 = .ok (.getfield 9, 3) := by decide +kernel
theorem dX4_addsArgument_39 : decode cX4_addsArgument 39 = .ok (.iload_n 1, 1) := by decide +kernel
theorem dX4_addsArgument_40 : decode cX4_addsArgument 40 = .ok (.dup2, 1) := by decide +kernel
theorem dX4_addsArgument_41 : decode cX4_addsArgument 41 = .ok (.iaload, 1) := by decide +kernel
theorem dX4_addsArgument_42 : decode cX4_addsArgument 42 = .ok (.iconst 1, 1) := by decide +kernel
theorem dX4_addsArgument_43 : decode cX4_addsArgument 43 = .ok (.iadd, 1) := by decide +kernel
theorem dX4_addsArgument_44 : decode cX4_addsArgument 44 = .ok (.iastore, 1) := by decide +kernel
theorem dX4_addsArgument_45 : decode cX4_addsArgument 45 = .ok (.aload_n 0, 1) := by decide +kernel
theorem dX4_addsArgument_46 : decode cX4_addsArgument 46 = .ok (.aload_n 0, 1) := by decide +kernel
theorem dX4_addsArgument_47 : decode cX4_addsArgument 47 = .ok (.getfield 31, 3) := by decide +kernel
theorem dX4_addsArgument_50 : decode cX4_addsArgument 50 = .ok (.aload_n 0, 1) := by decide +kernel
theorem dX4_addsArgument_51 : decode cX4_addsArgument 51 = .ok (.getfield 9, 3) := by decide +kernel
theorem dX4_addsArgument_54 : decode cX4_addsArgument 54 = .ok (.iload_n 1, 1) := by decide +kernel
theorem dX4_addsArgument_55 : decode cX4_addsArgument 55 = .ok (.iaload, 1) := by decide +kernel
theorem dX4_addsArgument_56 : decode cX4_addsArgument 56 = .ok (.invokestatic 68, 3) := by decide +kernel
theorem dX4_addsArgument_59 : decode cX4_addsArgument 59 = .ok (.putfield 31, 3) := by decide +kernel
theorem dX4_addsArgument_62 : decode cX4_addsArgument 62 = .ok (.iconst 1, 1) := by decide +kernel
theorem dX4_addsArgument_63 : decode cX4_addsArgument 63 = .ok (.ireturn, 1) := by decide +kernel
theorem dX4_closesCall_0 : decode cX4_closesCall 0 = .ok (.aload_n 0, 1) := by decide +kernel
theorem dX4_closesCall_1 : decode cX4_closesCall 1 = .ok (.getfield 15, 3) := by decide +kernel
theorem dX4_closesCall_4 : decode cX4_closesCall 4 = .ok (.ifCond .gt 5, 3) := by decide +kernel
theorem dX4_closesCall_7 : decode cX4_closesCall 7 = .ok (.iconst 0, 1) := by decide +kernel
theorem dX4_closesCall_8 : decode cX4_closesCall 8 = .ok (.ireturn, 1) := by decide +kernel
theorem dX4_closesCall_9 : decode cX4_closesCall 9 = .ok (.aload_n 0, 1) := by decide +kernel
theorem dX4_closesCall_10 : decode cX4_closesCall 10 = .ok (.dup, 1) := by decide +kernel
theorem dX4_closesCall_11 : decode cX4_closesCall 11 = .ok (.getfield 15, 3) := by decide +kernel
theorem dX4_closesCall_14 : decode cX4_closesCall 14 = .ok (.iconst 1, 1) := by decide +kernel
theorem dX4_closesCall_15 : decode cX4_closesCall 15 = .ok (.isub, 1) := by decide +kernel
theorem dX4_closesCall_16 : decode cX4_closesCall 16 = .ok (.putfield 15, 3) := by decide +kernel
theorem dX4_closesCall_19 : decode cX4_closesCall 19 = .ok (.iconst 1, 1) := by decide +kernel
theorem dX4_closesCall_20 : decode cX4_closesCall 20 = .ok (.ireturn, 1) := by decide +kernel
theorem dX5_init_0 : decode cX5_init 0 = .ok (.aload_n 0, 1) := by decide +kernel
theorem dX5_init_1 : decode cX5_init 1 = .ok (.invokespecial 3, 3) := by decide +kernel
theorem dX5_init_4 : decode cX5_init 4 = .ok (.aload_n 0, 1) := by decide +kernel
theorem dX5_init_5 : decode cX5_init 5 = .ok (.bipush 26, 2) := by decide +kernel
theorem dX5_init_7 : decode cX5_init 7 = .ok (.anewarray 9, 3) := by decide +kernel
theorem dX5_init_10 : decode cX5_init 10 = .ok (.putfield 11, 3) := by decide +kernel
theorem dX5_init_13 : decode cX5_init 13 = .ok (.aload_n 0, 1) := by decide +kernel
theorem dX5_init_14 : decode cX5_init 14 = .ok (.new 17, 3) := by decide +kernel
theorem dX5_init_17 : decode cX5_init 17 = .ok (.dup, 1) := by decide +kernel
theorem dX5_init_18 : decode cX5_init 18 = .ok (.iconst 0, 1) := by decide +kernel
theorem dX5_init_19 : decode cX5_init 19 = .ok (.newarray .int, 2) := by decide +kernel
theorem dX5_init_21 : decode cX5_init 21 = .ok (.iconst 0, 1) := by decide +kernel
theorem dX5_init_22 : decode cX5_init 22 = .ok (.newarray .int, 2) := by decide +kernel
theorem dX5_init_24 : decode cX5_init 24 = .ok (.iconst 0, 1) := by decide +kernel
theorem dX5_init_25 : decode cX5_init 25 = .ok (.iconst 0, 1) := by decide +kernel
theorem dX5_init_26 : decode cX5_init 26 = .ok (.invokespecial 19, 3) := by decide +kernel
theorem dX5_init_29 : decode cX5_init 29 = .ok (.putfield 22, 3) := by decide +kernel
theorem dX5_init_32 : decode cX5_init 32 = .ok (.aload_n 0, 1) := by decide +kernel
theorem dX5_init_33 : decode cX5_init 33 = .ok (.bipush 8, 2) := by decide +kernel
theorem dX5_init_35 : decode cX5_init 35 = .ok (.putfield 26, 3) := by decide +kernel
theorem dX5_init_38 : decode cX5_init 38 = .ok (.aload_n 0, 1) := by decide +kernel
theorem dX5_init_39 : decode cX5_init 39 = .ok (.iconst 0, 1) := by decide +kernel
theorem dX5_init_40 : decode cX5_init 40 = .ok (.putfield 30, 3) := by decide +kernel
theorem dX5_init_43 : decode cX5_init 43 = .ok (.aload_n 0, 1) := by decide +kernel
theorem dX5_init_44 : decode cX5_init 44 = .ok (.iconst 0, 1) := by decide +kernel
theorem dX5_init_45 : decode cX5_init 45 = .ok (.putfield 33, 3) := by decide +kernel
theorem dX5_init_48 : decode cX5_init 48 = .ok (.return_, 1) := by decide +kernel
theorem dX5_copyFrom_0 : decode cX5_copyFrom 0 = .ok (.iconst 0, 1) := by decide +kernel
theorem dX5_copyFrom_1 : decode cX5_copyFrom 1 = .ok (.istore_n 2, 1) := by decide +kernel
theorem dX5_copyFrom_2 : decode cX5_copyFrom 2 = .ok (.iload_n 2, 1) := by decide +kernel
theorem dX5_copyFrom_3 : decode cX5_copyFrom 3 = .ok (.bipush 26, 2) := by decide +kernel
theorem dX5_copyFrom_5 : decode cX5_copyFrom 5 = .ok (.if_icmp .ge 21, 3) := by decide +kernel
theorem dX5_copyFrom_8 : decode cX5_copyFrom 8 = .ok (.aload_n 0, 1) := by decide +kernel
theorem dX5_copyFrom_9 : decode cX5_copyFrom 9 = .ok (.getfield 11, 3) := by decide +kernel
theorem dX5_copyFrom_12 : decode cX5_copyFrom 12 = .ok (.iload_n 2, 1) := by decide +kernel
theorem dX5_copyFrom_13 : decode cX5_copyFrom 13 = .ok (.aload_n 1, 1) := by decide +kernel
theorem dX5_copyFrom_14 : decode cX5_copyFrom 14 = .ok (.getfield 11, 3) := by decide +kernel
theorem dX5_copyFrom_17 : decode cX5_copyFrom 17 = .ok (.iload_n 2, 1) := by decide +kernel
theorem dX5_copyFrom_18 : decode cX5_copyFrom 18 = .ok (.aaload, 1) := by decide +kernel
theorem dX5_copyFrom_19 : decode cX5_copyFrom 19 = .ok (.aastore, 1) := by decide +kernel
theorem dX5_copyFrom_20 : decode cX5_copyFrom 20 = .ok (.iinc 2 1, 3) := by decide +kernel
theorem dX5_copyFrom_23 : decode cX5_copyFrom 23 = .ok (.goto (-21), 3) := by decide +kernel
theorem dX5_copyFrom_26 : decode cX5_copyFrom 26 = .ok (.aload_n 0, 1) := by decide +kernel
theorem dX5_copyFrom_27 : decode cX5_copyFrom 27 = .ok (.aload_n 1, 1) := by decide +kernel
theorem dX5_copyFrom_28 : decode cX5_copyFrom 28 = .ok (.getfield 22, 3) := by decide +kernel
theorem dX5_copyFrom_31 : decode cX5_copyFrom 31 = .ok (.putfield 22, 3) := by decide +kernel
theorem dX5_copyFrom_34 : decode cX5_copyFrom 34 = .ok (.aload_n 0, 1) := by decide +kernel
theorem dX5_copyFrom_35 : decode cX5_copyFrom 35 = .ok (.aload_n 1, 1) := by decide +kernel
theorem dX5_copyFrom_36 : decode cX5_copyFrom 36 = .ok (.getfield 26, 3) := by decide +kernel
theorem dX5_copyFrom_39 : decode cX5_copyFrom 39 = .ok (.putfield 26, 3) := by decide +kernel
theorem dX5_copyFrom_42 : decode cX5_copyFrom 42 = .ok (.aload_n 0, 1) := by decide +kernel
theorem dX5_copyFrom_43 : decode cX5_copyFrom 43 = .ok (.aload_n 1, 1) := by decide +kernel
theorem dX5_copyFrom_44 : decode cX5_copyFrom 44 = .ok (.getfield 30, 3) := by decide +kernel
theorem dX5_copyFrom_47 : decode cX5_copyFrom 47 = .ok (.putfield 30, 3) := by decide +kernel
theorem dX5_copyFrom_50 : decode cX5_copyFrom 50 = .ok (.aload_n 0, 1) := by decide +kernel
theorem dX5_copyFrom_51 : decode cX5_copyFrom 51 = .ok (.aload_n 1, 1) := by decide +kernel
theorem dX5_copyFrom_52 : decode cX5_copyFrom 52 = .ok (.getfield 33, 3) := by decide +kernel
theorem dX5_copyFrom_55 : decode cX5_copyFrom 55 = .ok (.putfield 33, 3) := by decide +kernel
theorem dX5_copyFrom_58 : decode cX5_copyFrom 58 = .ok (.return_, 1) := by decide +kernel
theorem dX5_definitionOf_0 : decode cX5_definitionOf 0 = .ok (.iload_n 1, 1) := by decide +kernel
theorem dX5_definitionOf_1 : decode cX5_definitionOf 1 = .ok (.invokestatic 36, 3) := by decide +kernel
theorem dX5_definitionOf_4 : decode cX5_definitionOf 4 = .ok (.ifCond .eq 12, 3) := by decide +kernel
theorem dX5_definitionOf_7 : decode cX5_definitionOf 7 = .ok (.aload_n 0, 1) := by decide +kernel
theorem dX5_definitionOf_8 : decode cX5_definitionOf 8 = .ok (.getfield 11, 3) := by decide +kernel
theorem dX5_definitionOf_11 : decode cX5_definitionOf 11 = .ok (.iload_n 1, 1) := by decide +kernel
theorem dX5_definitionOf_12 : decode cX5_definitionOf 12 = .ok (.aaload, 1) := by decide +kernel
theorem dX5_definitionOf_13 : decode cX5_definitionOf 13 = .ok (.goto 4, 3) := by decide +kernel
theorem dX5_definitionOf_16 : decode cX5_definitionOf 16 = .ok (.aconst_null, 1) := by decide +kernel
theorem dX5_definitionOf_17 : decode cX5_definitionOf 17 = .ok (.areturn, 1) := by decide +kernel
theorem dX5_putDefinition_0 : decode cX5_putDefinition 0 = .ok (.iload_n 1, 1) := by decide +kernel
theorem dX5_putDefinition_1 : decode cX5_putDefinition 1 = .ok (.invokestatic 36, 3) := by decide +kernel
theorem dX5_putDefinition_4 : decode cX5_putDefinition 4 = .ok (.ifCond .eq 10, 3) := by decide +kernel
theorem dX5_putDefinition_7 : decode cX5_putDefinition 7 = .ok (.aload_n 0, 1) := by decide +kernel
theorem dX5_putDefinition_8 : decode cX5_putDefinition 8 = .ok (.getfield 11, 3) := by decide +kernel
theorem dX5_putDefinition_11 : decode cX5_putDefinition 11 = .ok (.iload_n 1, 1) := by decide +kernel
theorem dX5_putDefinition_12 : decode cX5_putDefinition 12 = .ok (.aload_n 2, 1) := by decide +kernel
theorem dX5_putDefinition_13 : decode cX5_putDefinition 13 = .ok (.aastore, 1) := by decide +kernel
theorem dX5_putDefinition_14 : decode cX5_putDefinition 14 = .ok (.return_, 1) := by decide +kernel
theorem dX5_definedSet_0 : decode cX5_definedSet 0 = .ok (.iconst 0, 1) := by decide +kernel
theorem dX5_definedSet_1 : decode cX5_definedSet 1 = .ok (.istore_n 1, 1) := by decide +kernel
theorem dX5_definedSet_2 : decode cX5_definedSet 2 = .ok (.iconst 0, 1) := by decide +kernel
theorem dX5_definedSet_3 : decode cX5_definedSet 3 = .ok (.istore_n 2, 1) := by decide +kernel
theorem dX5_definedSet_4 : decode cX5_definedSet 4 = .ok (.iload_n 2, 1) := by decide +kernel
theorem dX5_definedSet_5 : decode cX5_definedSet 5 = .ok (.bipush 26, 2) := by decide +kernel
theorem dX5_definedSet_7 : decode cX5_definedSet 7 = .ok (.if_icmp .ge 24, 3) := by decide +kernel
theorem dX5_definedSet_10 : decode cX5_definedSet 10 = .ok (.aload_n 0, 1) := by decide +kernel
theorem dX5_definedSet_11 : decode cX5_definedSet 11 = .ok (.getfield 11, 3) := by decide +kernel
theorem dX5_definedSet_14 : decode cX5_definedSet 14 = .ok (.iload_n 2, 1) := by decide +kernel
theorem dX5_definedSet_15 : decode cX5_definedSet 15 = .ok (.aaload, 1) := by decide +kernel
theorem dX5_definedSet_16 : decode cX5_definedSet 16 = .ok (.ifnull 9, 3) := by decide +kernel
theorem dX5_definedSet_19 : decode cX5_definedSet 19 = .ok (.iload_n 1, 1) := by decide +kernel
theorem dX5_definedSet_20 : decode cX5_definedSet 20 = .ok (.iconst 1, 1) := by decide +kernel
theorem dX5_definedSet_21 : decode cX5_definedSet 21 = .ok (.iload_n 2, 1) := by decide +kernel
theorem dX5_definedSet_22 : decode cX5_definedSet 22 = .ok (.ishl, 1) := by decide +kernel
theorem dX5_definedSet_23 : decode cX5_definedSet 23 = .ok (.ior, 1) := by decide +kernel
theorem dX5_definedSet_24 : decode cX5_definedSet 24 = .ok (.istore_n 1, 1) := by decide +kernel
theorem dX5_definedSet_25 : decode cX5_definedSet 25 = .ok (.iinc 2 1, 3) := by decide +kernel
theorem dX5_definedSet_28 : decode cX5_definedSet 28 = .ok (.goto (-24), 3) := by decide +kernel
theorem dX5_definedSet_31 : decode cX5_definedSet 31 = .ok (.iload_n 1, 1) := by decide +kernel
theorem dX5_definedSet_32 : decode cX5_definedSet 32 = .ok (.ireturn, 1) := by decide +kernel
theorem dX5_definedCount_0 : decode cX5_definedCount 0 = .ok (.aload_n 0, 1) := by decide +kernel
theorem dX5_definedCount_1 : decode cX5_definedCount 1 = .ok (.invokevirtual 40, 3) := by decide +kernel
theorem dX5_definedCount_4 : decode cX5_definedCount 4 = .ok (.invokestatic 44, 3) := by decide +kernel
theorem dX5_definedCount_7 : decode cX5_definedCount 7 = .ok (.ireturn, 1) := by decide +kernel
theorem dX5_callsOfBodies_0 : decode cX5_callsOfBodies 0 = .ok (.iconst 0, 1) := by decide +kernel
theorem dX5_callsOfBodies_1 : decode cX5_callsOfBodies 1 = .ok (.istore_n 1, 1) := by decide +kernel
theorem dX5_callsOfBodies_2 : decode cX5_callsOfBodies 2 = .ok (.iconst 0, 1) := by decide +kernel
theorem dX5_callsOfBodies_3 : decode cX5_callsOfBodies 3 = .ok (.istore_n 2, 1) := by decide +kernel
theorem dX5_callsOfBodies_4 : decode cX5_callsOfBodies 4 = .ok (.iload_n 2, 1) := by decide +kernel
theorem dX5_callsOfBodies_5 : decode cX5_callsOfBodies 5 = .ok (.bipush 26, 2) := by decide +kernel
theorem dX5_callsOfBodies_7 : decode cX5_callsOfBodies 7 = .ok (.if_icmp .ge 27, 3) := by decide +kernel
theorem dX5_callsOfBodies_10 : decode cX5_callsOfBodies 10 = .ok (.aload_n 0, 1) := by decide +kernel
theorem dX5_callsOfBodies_11 : decode cX5_callsOfBodies 11 = .ok (.getfield 11, 3) := by decide +kernel
theorem dX5_callsOfBodies_14 : decode cX5_callsOfBodies 14 = .ok (.iload_n 2, 1) := by decide +kernel
theorem dX5_callsOfBodies_15 : decode cX5_callsOfBodies 15 = .ok (.aaload, 1) := by decide +kernel
theorem dX5_callsOfBodies_16 : decode cX5_callsOfBodies 16 = .ok (.astore_n 3, 1) := by decide +kernel
theorem dX5_callsOfBodies_17 : decode cX5_callsOfBodies 17 = .ok (.aload_n 3, 1) := by decide +kernel
theorem dX5_callsOfBodies_18 : decode cX5_callsOfBodies 18 = .ok (.ifnull 10, 3) := by decide +kernel
theorem dX5_callsOfBodies_21 : decode cX5_callsOfBodies 21 = .ok (.iload_n 1, 1) := by decide +kernel
theorem dX5_callsOfBodies_22 : decode cX5_callsOfBodies 22 = .ok (.aload_n 3, 1) := by decide +kernel
theorem dX5_callsOfBodies_23 : decode cX5_callsOfBodies 23 = .ok (.getfield 50, 3) := by decide +kernel
theorem dX5_callsOfBodies_26 : decode cX5_callsOfBodies 26 = .ok (.iadd, 1) := by decide +kernel
theorem dX5_callsOfBodies_27 : decode cX5_callsOfBodies 27 = .ok (.istore_n 1, 1) := by decide +kernel
theorem dX5_callsOfBodies_28 : decode cX5_callsOfBodies 28 = .ok (.iinc 2 1, 3) := by decide +kernel
theorem dX5_callsOfBodies_31 : decode cX5_callsOfBodies 31 = .ok (.goto (-27), 3) := by decide +kernel
theorem dX5_callsOfBodies_34 : decode cX5_callsOfBodies 34 = .ok (.iload_n 1, 1) := by decide +kernel
theorem dX5_callsOfBodies_35 : decode cX5_callsOfBodies 35 = .ok (.ireturn, 1) := by decide +kernel
theorem dX5_holesOfBodies_0 : decode cX5_holesOfBodies 0 = .ok (.iconst 0, 1) := by decide +kernel
theorem dX5_holesOfBodies_1 : decode cX5_holesOfBodies 1 = .ok (.istore_n 1, 1) := by decide +kernel
theorem dX5_holesOfBodies_2 : decode cX5_holesOfBodies 2 = .ok (.iconst 0, 1) := by decide +kernel
theorem dX5_holesOfBodies_3 : decode cX5_holesOfBodies 3 = .ok (.istore_n 2, 1) := by decide +kernel
theorem dX5_holesOfBodies_4 : decode cX5_holesOfBodies 4 = .ok (.iload_n 2, 1) := by decide +kernel
theorem dX5_holesOfBodies_5 : decode cX5_holesOfBodies 5 = .ok (.bipush 26, 2) := by decide +kernel
theorem dX5_holesOfBodies_7 : decode cX5_holesOfBodies 7 = .ok (.if_icmp .ge 27, 3) := by decide +kernel
theorem dX5_holesOfBodies_10 : decode cX5_holesOfBodies 10 = .ok (.aload_n 0, 1) := by decide +kernel
theorem dX5_holesOfBodies_11 : decode cX5_holesOfBodies 11 = .ok (.getfield 11, 3) := by decide +kernel
theorem dX5_holesOfBodies_14 : decode cX5_holesOfBodies 14 = .ok (.iload_n 2, 1) := by decide +kernel
theorem dX5_holesOfBodies_15 : decode cX5_holesOfBodies 15 = .ok (.aaload, 1) := by decide +kernel
theorem dX5_holesOfBodies_16 : decode cX5_holesOfBodies 16 = .ok (.astore_n 3, 1) := by decide +kernel
theorem dX5_holesOfBodies_17 : decode cX5_holesOfBodies 17 = .ok (.aload_n 3, 1) := by decide +kernel
theorem dX5_holesOfBodies_18 : decode cX5_holesOfBodies 18 = .ok (.ifnull 10, 3) := by decide +kernel
theorem dX5_holesOfBodies_21 : decode cX5_holesOfBodies 21 = .ok (.iload_n 1, 1) := by decide +kernel
theorem dX5_holesOfBodies_22 : decode cX5_holesOfBodies 22 = .ok (.aload_n 3, 1) := by decide +kernel
theorem dX5_holesOfBodies_23 : decode cX5_holesOfBodies 23 = .ok (.getfield 53, 3) := by decide +kernel
theorem dX5_holesOfBodies_26 : decode cX5_holesOfBodies 26 = .ok (.iadd, 1) := by decide +kernel
theorem dX5_holesOfBodies_27 : decode cX5_holesOfBodies 27 = .ok (.istore_n 1, 1) := by decide +kernel
theorem dX5_holesOfBodies_28 : decode cX5_holesOfBodies 28 = .ok (.iinc 2 1, 3) := by decide +kernel
theorem dX5_holesOfBodies_31 : decode cX5_holesOfBodies 31 = .ok (.goto (-27), 3) := by decide +kernel
theorem dX5_holesOfBodies_34 : decode cX5_holesOfBodies 34 = .ok (.iload_n 1, 1) := by decide +kernel
theorem dX5_holesOfBodies_35 : decode cX5_holesOfBodies 35 = .ok (.ireturn, 1) := by decide +kernel
theorem dX6_init_0 : decode cX6_init 0 = .ok (.aload_n 0, 1) := by decide +kernel
theorem dX6_init_1 : decode cX6_init 1 = .ok (.invokespecial 1, 3) := by decide +kernel
theorem dX6_init_4 : decode cX6_init 4 = .ok (.aload_n 0, 1) := by decide +kernel
theorem dX6_init_5 : decode cX6_init 5 = .ok (.aload_n 1, 1) := by decide +kernel
theorem dX6_init_6 : decode cX6_init 6 = .ok (.putfield 7, 3) := by decide +kernel
theorem dX6_init_9 : decode cX6_init 9 = .ok (.aload_n 0, 1) := by decide +kernel
theorem dX6_init_10 : decode cX6_init 10 = .ok (.aload_n 2, 1) := by decide +kernel
theorem dX6_init_11 : decode cX6_init 11 = .ok (.getfield 13, 3) := by decide +kernel
theorem dX6_init_14 : decode cX6_init 14 = .ok (.putfield 19, 3) := by decide +kernel
theorem dX6_init_17 : decode cX6_init 17 = .ok (.aload_n 0, 1) := by decide +kernel
theorem dX6_init_18 : decode cX6_init 18 = .ok (.aload_n 2, 1) := by decide +kernel
theorem dX6_init_19 : decode cX6_init 19 = .ok (.getfield 20, 3) := by decide +kernel
theorem dX6_init_22 : decode cX6_init 22 = .ok (.putfield 23, 3) := by decide +kernel
theorem dX6_init_25 : decode cX6_init 25 = .ok (.aload_n 0, 1) := by decide +kernel
theorem dX6_init_26 : decode cX6_init 26 = .ok (.aload_n 2, 1) := by decide +kernel
theorem dX6_init_27 : decode cX6_init 27 = .ok (.getfield 24, 3) := by decide +kernel
theorem dX6_init_30 : decode cX6_init 30 = .ok (.putfield 27, 3) := by decide +kernel
theorem dX6_init_33 : decode cX6_init 33 = .ok (.aload_n 0, 1) := by decide +kernel
theorem dX6_init_34 : decode cX6_init 34 = .ok (.aload_n 2, 1) := by decide +kernel
theorem dX6_init_35 : decode cX6_init 35 = .ok (.getfield 28, 3) := by decide +kernel
theorem dX6_init_38 : decode cX6_init 38 = .ok (.putfield 31, 3) := by decide +kernel
theorem dX6_init_41 : decode cX6_init 41 = .ok (.aload_n 0, 1) := by decide +kernel
theorem dX6_init_42 : decode cX6_init 42 = .ok (.aload_n 2, 1) := by decide +kernel
theorem dX6_init_43 : decode cX6_init 43 = .ok (.getfield 32, 3) := by decide +kernel
theorem dX6_init_46 : decode cX6_init 46 = .ok (.putfield 35, 3) := by decide +kernel
theorem dX6_init_49 : decode cX6_init 49 = .ok (.aload_n 0, 1) := by decide +kernel
theorem dX6_init_50 : decode cX6_init 50 = .ok (.aload_n 2, 1) := by decide +kernel
theorem dX6_init_51 : decode cX6_init 51 = .ok (.getfield 36, 3) := by decide +kernel
theorem dX6_init_54 : decode cX6_init 54 = .ok (.putfield 39, 3) := by decide +kernel
theorem dX6_init_57 : decode cX6_init 57 = .ok (.return_, 1) := by decide +kernel
theorem dX7_init_0 : decode cX7_init 0 = .ok (.aload_n 0, 1) := by decide +kernel
theorem dX7_init_1 : decode cX7_init 1 = .ok (.invokespecial 1, 3) := by decide +kernel
theorem dX7_init_4 : decode cX7_init 4 = .ok (.aload_n 0, 1) := by decide +kernel
theorem dX7_init_5 : decode cX7_init 5 = .ok (.new 7, 3) := by decide +kernel
theorem dX7_init_8 : decode cX7_init 8 = .ok (.dup, 1) := by decide +kernel
theorem dX7_init_9 : decode cX7_init 9 = .ok (.invokespecial 9, 3) := by decide +kernel
theorem dX7_init_12 : decode cX7_init 12 = .ok (.putfield 10, 3) := by decide +kernel
theorem dX7_init_15 : decode cX7_init 15 = .ok (.aload_n 0, 1) := by decide +kernel
theorem dX7_init_16 : decode cX7_init 16 = .ok (.new 16, 3) := by decide +kernel
theorem dX7_init_19 : decode cX7_init 19 = .ok (.dup, 1) := by decide +kernel
theorem dX7_init_20 : decode cX7_init 20 = .ok (.invokespecial 18, 3) := by decide +kernel
theorem dX7_init_23 : decode cX7_init 23 = .ok (.putfield 19, 3) := by decide +kernel
theorem dX7_init_26 : decode cX7_init 26 = .ok (.aload_n 0, 1) := by decide +kernel
theorem dX7_init_27 : decode cX7_init 27 = .ok (.bipush 60, 2) := by decide +kernel
theorem dX7_init_29 : decode cX7_init 29 = .ok (.newarray .int, 2) := by decide +kernel
theorem dX7_init_31 : decode cX7_init 31 = .ok (.putfield 23, 3) := by decide +kernel
theorem dX7_init_34 : decode cX7_init 34 = .ok (.aload_n 0, 1) := by decide +kernel
theorem dX7_init_35 : decode cX7_init 35 = .ok (.new 27, 3) := by decide +kernel
theorem dX7_init_38 : decode cX7_init 38 = .ok (.dup, 1) := by decide +kernel
theorem dX7_init_39 : decode cX7_init 39 = .ok (.invokespecial 29, 3) := by decide +kernel
theorem dX7_init_42 : decode cX7_init 42 = .ok (.putfield 30, 3) := by decide +kernel
theorem dX7_init_45 : decode cX7_init 45 = .ok (.aload_n 0, 1) := by decide +kernel
theorem dX7_init_46 : decode cX7_init 46 = .ok (.new 34, 3) := by decide +kernel
theorem dX7_init_49 : decode cX7_init 49 = .ok (.dup, 1) := by decide +kernel
theorem dX7_init_50 : decode cX7_init 50 = .ok (.invokespecial 36, 3) := by decide +kernel
theorem dX7_init_53 : decode cX7_init 53 = .ok (.putfield 37, 3) := by decide +kernel
theorem dX7_init_56 : decode cX7_init 56 = .ok (.aload_n 0, 1) := by decide +kernel
theorem dX7_init_57 : decode cX7_init 57 = .ok (.new 41, 3) := by decide +kernel
theorem dX7_init_60 : decode cX7_init 60 = .ok (.dup, 1) := by decide +kernel
theorem dX7_init_61 : decode cX7_init 61 = .ok (.invokespecial 43, 3) := by decide +kernel
theorem dX7_init_64 : decode cX7_init 64 = .ok (.putfield 44, 3) := by decide +kernel
theorem dX7_init_67 : decode cX7_init 67 = .ok (.aload_n 0, 1) := by decide +kernel
theorem dX7_init_68 : decode cX7_init 68 = .ok (.iconst 0, 1) := by decide +kernel
theorem dX7_init_69 : decode cX7_init 69 = .ok (.putfield 48, 3) := by decide +kernel
theorem dX7_init_72 : decode cX7_init 72 = .ok (.return_, 1) := by decide +kernel
theorem dX7_define_0 : decode cX7_define 0 = .ok (.iload_n 1, 1) := by decide +kernel
theorem dX7_define_1 : decode cX7_define 1 = .ok (.invokestatic 52, 3) := by decide +kernel
theorem dX7_define_4 : decode cX7_define 4 = .ok (.aload_n 0, 1) := by decide +kernel
theorem dX7_define_5 : decode cX7_define 5 = .ok (.invokevirtual 56, 3) := by decide +kernel
theorem dX7_define_8 : decode cX7_define 8 = .ok (.aload_n 0, 1) := by decide +kernel
theorem dX7_define_9 : decode cX7_define 9 = .ok (.getfield 19, 3) := by decide +kernel
theorem dX7_define_12 : decode cX7_define 12 = .ok (.aload_n 0, 1) := by decide +kernel
theorem dX7_define_13 : decode cX7_define 13 = .ok (.getfield 10, 3) := by decide +kernel
theorem dX7_define_16 : decode cX7_define 16 = .ok (.invokevirtual 59, 3) := by decide +kernel
theorem dX7_define_19 : decode cX7_define 19 = .ok (.new 63, 3) := by decide +kernel
theorem dX7_define_22 : decode cX7_define 22 = .ok (.dup, 1) := by decide +kernel
theorem dX7_define_23 : decode cX7_define 23 = .ok (.aload_n 0, 1) := by decide +kernel
theorem dX7_define_24 : decode cX7_define 24 = .ok (.invokevirtual 65, 3) := by decide +kernel
theorem dX7_define_27 : decode cX7_define 27 = .ok (.aload_n 0, 1) := by decide +kernel
theorem dX7_define_28 : decode cX7_define 28 = .ok (.getfield 30, 3) := by decide +kernel
theorem dX7_define_31 : decode cX7_define 31 = .ok (.invokespecial 69, 3) := by decide +kernel
theorem dX7_define_34 : decode cX7_define 34 = .ok (.astore_n 2, 1) := by decide +kernel
theorem dX7_define_35 : decode cX7_define 35 = .ok (.aload_n 0, 1) := by decide +kernel
theorem dX7_define_36 : decode cX7_define 36 = .ok (.getfield 10, 3) := by decide +kernel
theorem dX7_define_39 : decode cX7_define 39 = .ok (.iload_n 1, 1) := by decide +kernel
theorem dX7_define_40 : decode cX7_define 40 = .ok (.aload_n 2, 1) := by decide +kernel
theorem dX7_define_41 : decode cX7_define 41 = .ok (.invokevirtual 72, 3) := by decide +kernel
theorem dX7_define_44 : decode cX7_define 44 = .ok (.aload_n 0, 1) := by decide +kernel
theorem dX7_define_45 : decode cX7_define 45 = .ok (.iconst 0, 1) := by decide +kernel
theorem dX7_define_46 : decode cX7_define 46 = .ok (.putfield 48, 3) := by decide +kernel
theorem dX7_define_49 : decode cX7_define 49 = .ok (.aload_n 2, 1) := by decide +kernel
theorem dX7_define_50 : decode cX7_define 50 = .ok (.getfield 76, 3) := by decide +kernel
theorem dX7_define_53 : decode cX7_define 53 = .ok (.ireturn, 1) := by decide +kernel
theorem dX7_remove_0 : decode cX7_remove 0 = .ok (.iload_n 1, 1) := by decide +kernel
theorem dX7_remove_1 : decode cX7_remove 1 = .ok (.invokestatic 52, 3) := by decide +kernel
theorem dX7_remove_4 : decode cX7_remove 4 = .ok (.aload_n 0, 1) := by decide +kernel
theorem dX7_remove_5 : decode cX7_remove 5 = .ok (.iload_n 1, 1) := by decide +kernel
theorem dX7_remove_6 : decode cX7_remove 6 = .ok (.invokevirtual 79, 3) := by decide +kernel
theorem dX7_remove_9 : decode cX7_remove 9 = .ok (.pop, 1) := by decide +kernel
theorem dX7_remove_10 : decode cX7_remove 10 = .ok (.aload_n 0, 1) := by decide +kernel
theorem dX7_remove_11 : decode cX7_remove 11 = .ok (.getfield 19, 3) := by decide +kernel
theorem dX7_remove_14 : decode cX7_remove 14 = .ok (.aload_n 0, 1) := by decide +kernel
theorem dX7_remove_15 : decode cX7_remove 15 = .ok (.getfield 10, 3) := by decide +kernel
theorem dX7_remove_18 : decode cX7_remove 18 = .ok (.invokevirtual 59, 3) := by decide +kernel
theorem dX7_remove_21 : decode cX7_remove 21 = .ok (.aload_n 0, 1) := by decide +kernel
theorem dX7_remove_22 : decode cX7_remove 22 = .ok (.getfield 10, 3) := by decide +kernel
theorem dX7_remove_25 : decode cX7_remove 25 = .ok (.iload_n 1, 1) := by decide +kernel
theorem dX7_remove_26 : decode cX7_remove 26 = .ok (.aconst_null, 1) := by decide +kernel
theorem dX7_remove_27 : decode cX7_remove 27 = .ok (.invokevirtual 72, 3) := by decide +kernel
theorem dX7_remove_30 : decode cX7_remove 30 = .ok (.aload_n 0, 1) := by decide +kernel
theorem dX7_remove_31 : decode cX7_remove 31 = .ok (.getfield 10, 3) := by decide +kernel
theorem dX7_remove_34 : decode cX7_remove 34 = .ok (.invokevirtual 83, 3) := by decide +kernel
theorem dX7_remove_37 : decode cX7_remove 37 = .ok (.ireturn, 1) := by decide +kernel
theorem dX7_exchange_0 : decode cX7_exchange 0 = .ok (.iload_n 1, 1) := by decide +kernel
theorem dX7_exchange_1 : decode cX7_exchange 1 = .ok (.invokestatic 52, 3) := by decide +kernel
theorem dX7_exchange_4 : decode cX7_exchange 4 = .ok (.iload_n 2, 1) := by decide +kernel
theorem dX7_exchange_5 : decode cX7_exchange 5 = .ok (.invokestatic 52, 3) := by decide +kernel
theorem dX7_exchange_8 : decode cX7_exchange 8 = .ok (.aload_n 0, 1) := by decide +kernel
theorem dX7_exchange_9 : decode cX7_exchange 9 = .ok (.getfield 19, 3) := by decide +kernel
theorem dX7_exchange_12 : decode cX7_exchange 12 = .ok (.aload_n 0, 1) := by decide +kernel
theorem dX7_exchange_13 : decode cX7_exchange 13 = .ok (.getfield 10, 3) := by decide +kernel
theorem dX7_exchange_16 : decode cX7_exchange 16 = .ok (.invokevirtual 59, 3) := by decide +kernel
theorem dX7_exchange_19 : decode cX7_exchange 19 = .ok (.aload_n 0, 1) := by decide +kernel
theorem dX7_exchange_20 : decode cX7_exchange 20 = .ok (.getfield 10, 3) := by decide +kernel
theorem dX7_exchange_23 : decode cX7_exchange 23 = .ok (.iload_n 1, 1) := by decide +kernel
theorem dX7_exchange_24 : decode cX7_exchange 24 = .ok (.invokevirtual 87, 3) := by decide +kernel
theorem dX7_exchange_27 : decode cX7_exchange 27 = .ok (.astore_n 3, 1) := by decide +kernel
theorem dX7_exchange_28 : decode cX7_exchange 28 = .ok (.aload_n 0, 1) := by decide +kernel
theorem dX7_exchange_29 : decode cX7_exchange 29 = .ok (.getfield 10, 3) := by decide +kernel
theorem dX7_exchange_32 : decode cX7_exchange 32 = .ok (.iload_n 2, 1) := by decide +kernel
theorem dX7_exchange_33 : decode cX7_exchange 33 = .ok (.invokevirtual 87, 3) := by decide +kernel
theorem dX7_exchange_36 : decode cX7_exchange 36 = .ok (.astore 4, 2) := by decide +kernel
theorem dX7_exchange_38 : decode cX7_exchange 38 = .ok (.aload_n 0, 1) := by decide +kernel
theorem dX7_exchange_39 : decode cX7_exchange 39 = .ok (.getfield 10, 3) := by decide +kernel
theorem dX7_exchange_42 : decode cX7_exchange 42 = .ok (.iload_n 1, 1) := by decide +kernel
theorem dX7_exchange_43 : decode cX7_exchange 43 = .ok (.aload 4, 2) := by decide +kernel
theorem dX7_exchange_45 : decode cX7_exchange 45 = .ok (.invokevirtual 72, 3) := by decide +kernel
theorem dX7_exchange_48 : decode cX7_exchange 48 = .ok (.aload_n 0, 1) := by decide +kernel
theorem dX7_exchange_49 : decode cX7_exchange 49 = .ok (.getfield 10, 3) := by decide +kernel
theorem dX7_exchange_52 : decode cX7_exchange 52 = .ok (.iload_n 2, 1) := by decide +kernel
theorem dX7_exchange_53 : decode cX7_exchange 53 = .ok (.aload_n 3, 1) := by decide +kernel
theorem dX7_exchange_54 : decode cX7_exchange 54 = .ok (.invokevirtual 72, 3) := by decide +kernel
theorem dX7_exchange_57 : decode cX7_exchange 57 = .ok (.aload_n 3, 1) := by decide +kernel
theorem dX7_exchange_58 : decode cX7_exchange 58 = .ok (.ifnonnull 7, 3) := by decide +kernel
theorem dX7_exchange_61 : decode cX7_exchange 61 = .ok (.iconst 0, 1) := by decide +kernel
theorem dX7_exchange_62 : decode cX7_exchange 62 = .ok (.goto 4, 3) := by decide +kernel
theorem dX7_exchange_65 : decode cX7_exchange 65 = .ok (.iconst 1, 1) := by decide +kernel
theorem dX7_exchange_66 : decode cX7_exchange 66 = .ok (.aload 4, 2) := by decide +kernel
theorem dX7_exchange_68 : decode cX7_exchange 68 = .ok (.ifnonnull 7, 3) := by decide +kernel
theorem dX7_exchange_71 : decode cX7_exchange 71 = .ok (.iconst 0, 1) := by decide +kernel
theorem dX7_exchange_72 : decode cX7_exchange 72 = .ok (.goto 4, 3) := by decide +kernel
theorem dX7_exchange_75 : decode cX7_exchange 75 = .ok (.iconst 1, 1) := by decide +kernel
theorem dX7_exchange_76 : decode cX7_exchange 76 = .ok (.iadd, 1) := by decide +kernel
theorem dX7_exchange_77 : decode cX7_exchange 77 = .ok (.ireturn, 1) := by decide +kernel
theorem dX7_set_0 : decode cX7_set 0 = .ok (.iload_n 1, 1) := by decide +kernel
theorem dX7_set_1 : decode cX7_set 1 = .ok (.iconst 1, 1) := by decide +kernel
theorem dX7_set_2 : decode cX7_set 2 = .ok (.if_icmp .lt 9, 3) := by decide +kernel
theorem dX7_set_5 : decode cX7_set 5 = .ok (.iload_n 1, 1) := by decide +kernel
theorem dX7_set_6 : decode cX7_set 6 = .ok (.bipush 12, 2) := by decide +kernel
theorem dX7_set_8 : decode cX7_set 8 = .ok (.if_icmp .le 13, 3) := by decide +kernel
theorem dX7_set_11 : decode cX7_set 11 = .ok (.new 90, 3) := by decide +kernel
theorem dX7_set_14 : decode cX7_set 14 = .ok (.dup, 1) := by decide +kernel
theorem dX7_set_15 : decode cX7_set 15 = .ok (.ldc 92, 2) := by decide +kernel
theorem dX7_set_17 : decode cX7_set 17 = .ok (.invokespecial 94, 3) := by decide +kernel
theorem dX7_set_20 : decode cX7_set 20 = .ok (.athrow, 1) := by decide +kernel
theorem dX7_set_21 : decode cX7_set 21 = .ok (.aload_n 0, 1) := by decide +kernel
theorem dX7_set_22 : decode cX7_set 22 = .ok (.getfield 19, 3) := by decide +kernel
theorem dX7_set_25 : decode cX7_set 25 = .ok (.aload_n 0, 1) := by decide +kernel
theorem dX7_set_26 : decode cX7_set 26 = .ok (.getfield 10, 3) := by decide +kernel
theorem dX7_set_29 : decode cX7_set 29 = .ok (.invokevirtual 59, 3) := by decide +kernel
theorem dX7_set_32 : decode cX7_set 32 = .ok (.aload_n 0, 1) := by decide +kernel
theorem dX7_set_33 : decode cX7_set 33 = .ok (.getfield 10, 3) := by decide +kernel
theorem dX7_set_36 : decode cX7_set 36 = .ok (.getfield 97, 3) := by decide +kernel
theorem dX7_set_39 : decode cX7_set 39 = .ok (.istore_n 2, 1) := by decide +kernel
theorem dX7_set_40 : decode cX7_set 40 = .ok (.aload_n 0, 1) := by decide +kernel
theorem dX7_set_41 : decode cX7_set 41 = .ok (.getfield 10, 3) := by decide +kernel
theorem dX7_set_44 : decode cX7_set 44 = .ok (.iload_n 1, 1) := by decide +kernel
theorem dX7_set_45 : decode cX7_set 45 = .ok (.putfield 97, 3) := by decide +kernel
theorem dX7_set_48 : decode cX7_set 48 = .ok (.iload_n 2, 1) := by decide +kernel
theorem dX7_set_49 : decode cX7_set 49 = .ok (.ireturn, 1) := by decide +kernel
theorem dX7_expand_0 : decode cX7_expand 0 = .ok (.aload_n 0, 1) := by decide +kernel
theorem dX7_expand_1 : decode cX7_expand 1 = .ok (.invokevirtual 56, 3) := by decide +kernel
theorem dX7_expand_4 : decode cX7_expand 4 = .ok (.aload_n 0, 1) := by decide +kernel
theorem dX7_expand_5 : decode cX7_expand 5 = .ok (.getfield 19, 3) := by decide +kernel
theorem dX7_expand_8 : decode cX7_expand 8 = .ok (.aload_n 0, 1) := by decide +kernel
theorem dX7_expand_9 : decode cX7_expand 9 = .ok (.getfield 10, 3) := by decide +kernel
theorem dX7_expand_12 : decode cX7_expand 12 = .ok (.invokevirtual 59, 3) := by decide +kernel
theorem dX7_expand_15 : decode cX7_expand 15 = .ok (.aload_n 0, 1) := by decide +kernel
theorem dX7_expand_16 : decode cX7_expand 16 = .ok (.getfield 44, 3) := by decide +kernel
theorem dX7_expand_19 : decode cX7_expand 19 = .ok (.aload_n 0, 1) := by decide +kernel
theorem dX7_expand_20 : decode cX7_expand 20 = .ok (.getfield 10, 3) := by decide +kernel
theorem dX7_expand_23 : decode cX7_expand 23 = .ok (.aload_n 0, 1) := by decide +kernel
theorem dX7_expand_24 : decode cX7_expand 24 = .ok (.getfield 23, 3) := by decide +kernel
theorem dX7_expand_27 : decode cX7_expand 27 = .ok (.aload_n 0, 1) := by decide +kernel
theorem dX7_expand_28 : decode cX7_expand 28 = .ok (.getfield 48, 3) := by decide +kernel
theorem dX7_expand_31 : decode cX7_expand 31 = .ok (.invokevirtual 100, 3) := by decide +kernel
theorem dX7_expand_34 : decode cX7_expand 34 = .ok (.ifCond .ne 18, 3) := by decide +kernel
theorem dX7_expand_37 : decode cX7_expand 37 = .ok (.aload_n 0, 1) := by decide +kernel
theorem dX7_expand_38 : decode cX7_expand 38 = .ok (.getfield 10, 3) := by decide +kernel
theorem dX7_expand_41 : decode cX7_expand 41 = .ok (.dup, 1) := by decide +kernel
theorem dX7_expand_42 : decode cX7_expand 42 = .ok (.getfield 104, 3) := by decide +kernel
theorem dX7_expand_45 : decode cX7_expand 45 = .ok (.iconst 1, 1) := by decide +kernel
theorem dX7_expand_46 : decode cX7_expand 46 = .ok (.iadd, 1) := by decide +kernel
theorem dX7_expand_47 : decode cX7_expand 47 = .ok (.putfield 104, 3) := by decide +kernel
theorem dX7_expand_50 : decode cX7_expand 50 = .ok (.iconst (-1), 1) := by decide +kernel
theorem dX7_expand_51 : decode cX7_expand 51 = .ok (.ireturn, 1) := by decide +kernel
theorem dX7_expand_52 : decode cX7_expand 52 = .ok (.aload_n 0, 1) := by decide +kernel
theorem dX7_expand_53 : decode cX7_expand 53 = .ok (.getfield 10, 3) := by decide +kernel
theorem dX7_expand_56 : decode cX7_expand 56 = .ok (.aload_n 0, 1) := by decide +kernel
theorem dX7_expand_57 : decode cX7_expand 57 = .ok (.getfield 44, 3) := by decide +kernel
theorem dX7_expand_60 : decode cX7_expand 60 = .ok (.invokevirtual 107, 3) := by decide +kernel
theorem dX7_expand_63 : decode cX7_expand 63 = .ok (.putfield 111, 3) := by decide +kernel
theorem dX7_expand_66 : decode cX7_expand 66 = .ok (.aload_n 0, 1) := by decide +kernel
theorem dX7_expand_67 : decode cX7_expand 67 = .ok (.getfield 10, 3) := by decide +kernel
theorem dX7_expand_70 : decode cX7_expand 70 = .ok (.dup, 1) := by decide +kernel
theorem dX7_expand_71 : decode cX7_expand 71 = .ok (.getfield 115, 3) := by decide +kernel
theorem dX7_expand_74 : decode cX7_expand 74 = .ok (.iconst 1, 1) := by decide +kernel
theorem dX7_expand_75 : decode cX7_expand 75 = .ok (.iadd, 1) := by decide +kernel
theorem dX7_expand_76 : decode cX7_expand 76 = .ok (.putfield 115, 3) := by decide +kernel
theorem dX7_expand_79 : decode cX7_expand 79 = .ok (.aload_n 0, 1) := by decide +kernel
theorem dX7_expand_80 : decode cX7_expand 80 = .ok (.getfield 10, 3) := by decide +kernel
theorem dX7_expand_83 : decode cX7_expand 83 = .ok (.getfield 111, 3) := by decide +kernel
theorem dX7_expand_86 : decode cX7_expand 86 = .ok (.getfield 118, 3) := by decide +kernel
theorem dX7_expand_89 : decode cX7_expand 89 = .ok (.arraylength, 1) := by decide +kernel
theorem dX7_expand_90 : decode cX7_expand 90 = .ok (.ireturn, 1) := by decide +kernel
theorem dX7_append_0 : decode cX7_append 0 = .ok (.iload_n 1, 1) := by decide +kernel
theorem dX7_append_1 : decode cX7_append 1 = .ok (.bipush 33, 2) := by decide +kernel
theorem dX7_append_3 : decode cX7_append 3 = .ok (.if_icmp .lt 9, 3) := by decide +kernel
theorem dX7_append_6 : decode cX7_append 6 = .ok (.iload_n 1, 1) := by decide +kernel
theorem dX7_append_7 : decode cX7_append 7 = .ok (.bipush 126, 2) := by decide +kernel
theorem dX7_append_9 : decode cX7_append 9 = .ok (.if_icmp .le 13, 3) := by decide +kernel
theorem dX7_append_12 : decode cX7_append 12 = .ok (.new 90, 3) := by decide +kernel
theorem dX7_append_15 : decode cX7_append 15 = .ok (.dup, 1) := by decide +kernel
theorem dX7_append_16 : decode cX7_append 16 = .ok (.ldc 123, 2) := by decide +kernel
theorem dX7_append_18 : decode cX7_append 18 = .ok (.invokespecial 94, 3) := by decide +kernel
theorem dX7_append_21 : decode cX7_append 21 = .ok (.athrow, 1) := by decide +kernel
theorem dX7_append_22 : decode cX7_append 22 = .ok (.aload_n 0, 1) := by decide +kernel
theorem dX7_append_23 : decode cX7_append 23 = .ok (.getfield 48, 3) := by decide +kernel
theorem dX7_append_26 : decode cX7_append 26 = .ok (.ifCond .lt 15, 3) := by decide +kernel
theorem dX7_append_29 : decode cX7_append 29 = .ok (.aload_n 0, 1) := by decide +kernel
theorem dX7_append_30 : decode cX7_append 30 = .ok (.getfield 48, 3) := by decide +kernel
theorem dX7_append_33 : decode cX7_append 33 = .ok (.aload_n 0, 1) := by decide +kernel
theorem dX7_append_34 : decode cX7_append 34 = .ok (.getfield 23, 3) := by decide +kernel
theorem dX7_append_37 : decode cX7_append 37 = .ok (.arraylength, 1) := by decide +kernel
theorem dX7_append_38 : decode cX7_append 38 = .ok (.if_icmp .lt 13, 3) := by decide +kernel
theorem dX7_append_41 : decode cX7_append 41 = .ok (.new 125, 3) := by decide +kernel
theorem dX7_append_44 : decode cX7_append 44 = .ok (.dup, 1) := by decide +kernel
theorem dX7_append_45 : decode cX7_append 45 = .ok (.ldc 127, 2) := by decide +kernel
theorem dX7_append_47 : decode cX7_append 47 = .ok (.invokespecial 129, 3) := by decide +kernel
theorem dX7_append_50 : decode cX7_append 50 = .ok (.athrow, 1) := by decide +kernel
theorem dX7_append_51 : decode cX7_append 51 = .ok (.aload_n 0, 1) := by decide +kernel
theorem dX7_append_52 : decode cX7_append 52 = .ok (.getfield 23, 3) := by decide +kernel
theorem dX7_append_55 : decode cX7_append 55 = .ok (.aload_n 0, 1) := by decide +kernel
theorem dX7_append_56 : decode cX7_append 56 = .ok (.getfield 48, 3) := by decide +kernel
theorem dX7_append_59 : decode cX7_append 59 = .ok (.iload_n 1, 1) := by decide +kernel
theorem dX7_append_60 : decode cX7_append 60 = .ok (.iastore, 1) := by decide +kernel
theorem dX7_append_61 : decode cX7_append 61 = .ok (.aload_n 0, 1) := by decide +kernel
theorem dX7_append_62 : decode cX7_append 62 = .ok (.dup, 1) := by decide +kernel
theorem dX7_append_63 : decode cX7_append 63 = .ok (.getfield 48, 3) := by decide +kernel
theorem dX7_append_66 : decode cX7_append 66 = .ok (.iconst 1, 1) := by decide +kernel
theorem dX7_append_67 : decode cX7_append 67 = .ok (.iadd, 1) := by decide +kernel
theorem dX7_append_68 : decode cX7_append 68 = .ok (.putfield 48, 3) := by decide +kernel
theorem dX7_append_71 : decode cX7_append 71 = .ok (.aload_n 0, 1) := by decide +kernel
theorem dX7_append_72 : decode cX7_append 72 = .ok (.getfield 48, 3) := by decide +kernel
theorem dX7_append_75 : decode cX7_append 75 = .ok (.ireturn, 1) := by decide +kernel
theorem dX7_clearBuffer_0 : decode cX7_clearBuffer 0 = .ok (.aload_n 0, 1) := by decide +kernel
theorem dX7_clearBuffer_1 : decode cX7_clearBuffer 1 = .ok (.getfield 48, 3) := by decide +kernel
theorem dX7_clearBuffer_4 : decode cX7_clearBuffer 4 = .ok (.istore_n 1, 1) := by decide +kernel
theorem dX7_clearBuffer_5 : decode cX7_clearBuffer 5 = .ok (.aload_n 0, 1) := by decide +kernel
theorem dX7_clearBuffer_6 : decode cX7_clearBuffer 6 = .ok (.iconst 0, 1) := by decide +kernel
theorem dX7_clearBuffer_7 : decode cX7_clearBuffer 7 = .ok (.putfield 48, 3) := by decide +kernel
theorem dX7_clearBuffer_10 : decode cX7_clearBuffer 10 = .ok (.iload_n 1, 1) := by decide +kernel
theorem dX7_clearBuffer_11 : decode cX7_clearBuffer 11 = .ok (.ireturn, 1) := by decide +kernel
theorem dX7_firstError_0 : decode cX7_firstError 0 = .ok (.aload_n 0, 1) := by decide +kernel
theorem dX7_firstError_1 : decode cX7_firstError 1 = .ok (.getfield 30, 3) := by decide +kernel
theorem dX7_firstError_4 : decode cX7_firstError 4 = .ok (.aload_n 0, 1) := by decide +kernel
theorem dX7_firstError_5 : decode cX7_firstError 5 = .ok (.getfield 23, 3) := by decide +kernel
theorem dX7_firstError_8 : decode cX7_firstError 8 = .ok (.aload_n 0, 1) := by decide +kernel
theorem dX7_firstError_9 : decode cX7_firstError 9 = .ok (.getfield 48, 3) := by decide +kernel
theorem dX7_firstError_12 : decode cX7_firstError 12 = .ok (.invokevirtual 130, 3) := by decide +kernel
theorem dX7_firstError_15 : decode cX7_firstError 15 = .ok (.aload_n 0, 1) := by decide +kernel
theorem dX7_firstError_16 : decode cX7_firstError 16 = .ok (.getfield 30, 3) := by decide +kernel
theorem dX7_firstError_19 : decode cX7_firstError 19 = .ok (.getfield 134, 3) := by decide +kernel
theorem dX7_firstError_22 : decode cX7_firstError 22 = .ok (.ireturn, 1) := by decide +kernel
theorem dX7_load_0 : decode cX7_load 0 = .ok (.iload_n 1, 1) := by decide +kernel
theorem dX7_load_1 : decode cX7_load 1 = .ok (.invokestatic 52, 3) := by decide +kernel
theorem dX7_load_4 : decode cX7_load 4 = .ok (.aload_n 0, 1) := by decide +kernel
theorem dX7_load_5 : decode cX7_load 5 = .ok (.iload_n 1, 1) := by decide +kernel
theorem dX7_load_6 : decode cX7_load 6 = .ok (.invokevirtual 79, 3) := by decide +kernel
theorem dX7_load_9 : decode cX7_load 9 = .ok (.astore_n 2, 1) := by decide +kernel
theorem dX7_load_10 : decode cX7_load 10 = .ok (.aload_n 2, 1) := by decide +kernel
theorem dX7_load_11 : decode cX7_load 11 = .ok (.getfield 137, 3) := by decide +kernel
theorem dX7_load_14 : decode cX7_load 14 = .ok (.arraylength, 1) := by decide +kernel
theorem dX7_load_15 : decode cX7_load 15 = .ok (.aload_n 0, 1) := by decide +kernel
theorem dX7_load_16 : decode cX7_load 16 = .ok (.getfield 23, 3) := by decide +kernel
theorem dX7_load_19 : decode cX7_load 19 = .ok (.arraylength, 1) := by decide +kernel
theorem dX7_load_20 : decode cX7_load 20 = .ok (.invokestatic 138, 3) := by decide +kernel
theorem dX7_load_23 : decode cX7_load 23 = .ok (.istore_n 3, 1) := by decide +kernel
theorem dX7_load_24 : decode cX7_load 24 = .ok (.iconst 0, 1) := by decide +kernel
theorem dX7_load_25 : decode cX7_load 25 = .ok (.istore 4, 2) := by decide +kernel
theorem dX7_load_27 : decode cX7_load 27 = .ok (.iload 4, 2) := by decide +kernel
theorem dX7_load_29 : decode cX7_load 29 = .ok (.iload_n 3, 1) := by decide +kernel
theorem dX7_load_30 : decode cX7_load 30 = .ok (.if_icmp .ge 23, 3) := by decide +kernel
theorem dX7_load_33 : decode cX7_load 33 = .ok (.aload_n 0, 1) := by decide +kernel
theorem dX7_load_34 : decode cX7_load 34 = .ok (.getfield 23, 3) := by decide +kernel
theorem dX7_load_37 : decode cX7_load 37 = .ok (.iload 4, 2) := by decide +kernel
theorem dX7_load_39 : decode cX7_load 39 = .ok (.aload_n 2, 1) := by decide +kernel
theorem dX7_load_40 : decode cX7_load 40 = .ok (.getfield 137, 3) := by decide +kernel
theorem dX7_load_43 : decode cX7_load 43 = .ok (.iload 4, 2) := by decide +kernel
theorem dX7_load_45 : decode cX7_load 45 = .ok (.iaload, 1) := by decide +kernel
theorem dX7_load_46 : decode cX7_load 46 = .ok (.iastore, 1) := by decide +kernel
theorem dX7_load_47 : decode cX7_load 47 = .ok (.iinc 4 1, 3) := by decide +kernel
theorem dX7_load_50 : decode cX7_load 50 = .ok (.goto (-23), 3) := by decide +kernel
theorem dX7_load_53 : decode cX7_load 53 = .ok (.aload_n 0, 1) := by decide +kernel
theorem dX7_load_54 : decode cX7_load 54 = .ok (.iload_n 3, 1) := by decide +kernel
theorem dX7_load_55 : decode cX7_load 55 = .ok (.putfield 48, 3) := by decide +kernel
theorem dX7_load_58 : decode cX7_load 58 = .ok (.aload_n 0, 1) := by decide +kernel
theorem dX7_load_59 : decode cX7_load 59 = .ok (.getfield 48, 3) := by decide +kernel
theorem dX7_load_62 : decode cX7_load 62 = .ok (.ireturn, 1) := by decide +kernel
theorem dX7_undo_0 : decode cX7_undo 0 = .ok (.aload_n 0, 1) := by decide +kernel
theorem dX7_undo_1 : decode cX7_undo 1 = .ok (.getfield 19, 3) := by decide +kernel
theorem dX7_undo_4 : decode cX7_undo 4 = .ok (.aload_n 0, 1) := by decide +kernel
theorem dX7_undo_5 : decode cX7_undo 5 = .ok (.getfield 10, 3) := by decide +kernel
theorem dX7_undo_8 : decode cX7_undo 8 = .ok (.invokevirtual 144, 3) := by decide +kernel
theorem dX7_undo_11 : decode cX7_undo 11 = .ok (.ifCond .ne 13, 3) := by decide +kernel
theorem dX7_undo_14 : decode cX7_undo 14 = .ok (.new 125, 3) := by decide +kernel
theorem dX7_undo_17 : decode cX7_undo 17 = .ok (.dup, 1) := by decide +kernel
theorem dX7_undo_18 : decode cX7_undo 18 = .ok (.ldc 148, 2) := by decide +kernel
theorem dX7_undo_20 : decode cX7_undo 20 = .ok (.invokespecial 129, 3) := by decide +kernel
theorem dX7_undo_23 : decode cX7_undo 23 = .ok (.athrow, 1) := by decide +kernel
theorem dX7_undo_24 : decode cX7_undo 24 = .ok (.aload_n 0, 1) := by decide +kernel
theorem dX7_undo_25 : decode cX7_undo 25 = .ok (.getfield 19, 3) := by decide +kernel
theorem dX7_undo_28 : decode cX7_undo 28 = .ok (.getfield 150, 3) := by decide +kernel
theorem dX7_undo_31 : decode cX7_undo 31 = .ok (.ireturn, 1) := by decide +kernel
theorem dX7_keep_0 : decode cX7_keep 0 = .ok (.iload_n 1, 1) := by decide +kernel
theorem dX7_keep_1 : decode cX7_keep 1 = .ok (.invokestatic 153, 3) := by decide +kernel
theorem dX7_keep_4 : decode cX7_keep 4 = .ok (.aload_n 0, 1) := by decide +kernel
theorem dX7_keep_5 : decode cX7_keep 5 = .ok (.getfield 19, 3) := by decide +kernel
theorem dX7_keep_8 : decode cX7_keep 8 = .ok (.iload_n 1, 1) := by decide +kernel
theorem dX7_keep_9 : decode cX7_keep 9 = .ok (.aload_n 0, 1) := by decide +kernel
theorem dX7_keep_10 : decode cX7_keep 10 = .ok (.getfield 10, 3) := by decide +kernel
theorem dX7_keep_13 : decode cX7_keep 13 = .ok (.invokevirtual 156, 3) := by decide +kernel
theorem dX7_keep_16 : decode cX7_keep 16 = .ok (.aload_n 0, 1) := by decide +kernel
theorem dX7_keep_17 : decode cX7_keep 17 = .ok (.getfield 10, 3) := by decide +kernel
theorem dX7_keep_20 : decode cX7_keep 20 = .ok (.invokevirtual 83, 3) := by decide +kernel
theorem dX7_keep_23 : decode cX7_keep 23 = .ok (.ireturn, 1) := by decide +kernel
theorem dX7_goBack_0 : decode cX7_goBack 0 = .ok (.iload_n 1, 1) := by decide +kernel
theorem dX7_goBack_1 : decode cX7_goBack 1 = .ok (.invokestatic 153, 3) := by decide +kernel
theorem dX7_goBack_4 : decode cX7_goBack 4 = .ok (.aload_n 0, 1) := by decide +kernel
theorem dX7_goBack_5 : decode cX7_goBack 5 = .ok (.getfield 19, 3) := by decide +kernel
theorem dX7_goBack_8 : decode cX7_goBack 8 = .ok (.iload_n 1, 1) := by decide +kernel
theorem dX7_goBack_9 : decode cX7_goBack 9 = .ok (.invokevirtual 160, 3) := by decide +kernel
theorem dX7_goBack_12 : decode cX7_goBack 12 = .ok (.astore_n 2, 1) := by decide +kernel
theorem dX7_goBack_13 : decode cX7_goBack 13 = .ok (.aload_n 2, 1) := by decide +kernel
theorem dX7_goBack_14 : decode cX7_goBack 14 = .ok (.ifnonnull 13, 3) := by decide +kernel
theorem dX7_goBack_17 : decode cX7_goBack 17 = .ok (.new 125, 3) := by decide +kernel
theorem dX7_goBack_20 : decode cX7_goBack 20 = .ok (.dup, 1) := by decide +kernel
theorem dX7_goBack_21 : decode cX7_goBack 21 = .ok (.ldc 164, 2) := by decide +kernel
theorem dX7_goBack_23 : decode cX7_goBack 23 = .ok (.invokespecial 129, 3) := by decide +kernel
theorem dX7_goBack_26 : decode cX7_goBack 26 = .ok (.athrow, 1) := by decide +kernel
theorem dX7_goBack_27 : decode cX7_goBack 27 = .ok (.aload_n 0, 1) := by decide +kernel
theorem dX7_goBack_28 : decode cX7_goBack 28 = .ok (.getfield 19, 3) := by decide +kernel
theorem dX7_goBack_31 : decode cX7_goBack 31 = .ok (.aload_n 0, 1) := by decide +kernel
theorem dX7_goBack_32 : decode cX7_goBack 32 = .ok (.getfield 10, 3) := by decide +kernel
theorem dX7_goBack_35 : decode cX7_goBack 35 = .ok (.invokevirtual 59, 3) := by decide +kernel
theorem dX7_goBack_38 : decode cX7_goBack 38 = .ok (.aload_n 0, 1) := by decide +kernel
theorem dX7_goBack_39 : decode cX7_goBack 39 = .ok (.getfield 10, 3) := by decide +kernel
theorem dX7_goBack_42 : decode cX7_goBack 42 = .ok (.aload_n 2, 1) := by decide +kernel
theorem dX7_goBack_43 : decode cX7_goBack 43 = .ok (.invokevirtual 166, 3) := by decide +kernel
theorem dX7_goBack_46 : decode cX7_goBack 46 = .ok (.aload_n 0, 1) := by decide +kernel
theorem dX7_goBack_47 : decode cX7_goBack 47 = .ok (.getfield 10, 3) := by decide +kernel
theorem dX7_goBack_50 : decode cX7_goBack 50 = .ok (.invokevirtual 83, 3) := by decide +kernel
theorem dX7_goBack_53 : decode cX7_goBack 53 = .ok (.ireturn, 1) := by decide +kernel
theorem dX7_body_0 : decode cX7_body 0 = .ok (.iload_n 1, 1) := by decide +kernel
theorem dX7_body_1 : decode cX7_body 1 = .ok (.invokestatic 52, 3) := by decide +kernel
theorem dX7_body_4 : decode cX7_body 4 = .ok (.iload_n 2, 1) := by decide +kernel
theorem dX7_body_5 : decode cX7_body 5 = .ok (.iconst 5, 1) := by decide +kernel
theorem dX7_body_6 : decode cX7_body 6 = .ok (.invokestatic 169, 3) := by decide +kernel
theorem dX7_body_9 : decode cX7_body 9 = .ok (.aload_n 0, 1) := by decide +kernel
theorem dX7_body_10 : decode cX7_body 10 = .ok (.getfield 10, 3) := by decide +kernel
theorem dX7_body_13 : decode cX7_body 13 = .ok (.iload_n 1, 1) := by decide +kernel
theorem dX7_body_14 : decode cX7_body 14 = .ok (.invokevirtual 87, 3) := by decide +kernel
theorem dX7_body_17 : decode cX7_body 17 = .ok (.astore_n 3, 1) := by decide +kernel
theorem dX7_body_18 : decode cX7_body 18 = .ok (.aload_n 3, 1) := by decide +kernel
theorem dX7_body_19 : decode cX7_body 19 = .ok (.ifnonnull 5, 3) := by decide +kernel
theorem dX7_body_22 : decode cX7_body 22 = .ok (.iconst (-1), 1) := by decide +kernel
theorem dX7_body_23 : decode cX7_body 23 = .ok (.ireturn, 1) := by decide +kernel
theorem dX7_body_24 : decode cX7_body 24 = .ok (.iload_n 2, 1) := by decide +kernel
theorem dX7_body_25 : decode cX7_body 25 = .ok (.tableswitch 61 0 4 #[35, 41, 46, 51, 56], 35) := by decide +kernel
theorem dX7_body_60 : decode cX7_body 60 = .ok (.aload_n 3, 1) := by decide +kernel
theorem dX7_body_61 : decode cX7_body 61 = .ok (.getfield 137, 3) := by decide +kernel
theorem dX7_body_64 : decode cX7_body 64 = .ok (.arraylength, 1) := by decide +kernel
theorem dX7_body_65 : decode cX7_body 65 = .ok (.ireturn, 1) := by decide +kernel
theorem dX7_body_66 : decode cX7_body 66 = .ok (.aload_n 3, 1) := by decide +kernel
theorem dX7_body_67 : decode cX7_body 67 = .ok (.getfield 76, 3) := by decide +kernel
theorem dX7_body_70 : decode cX7_body 70 = .ok (.ireturn, 1) := by decide +kernel
theorem dX7_body_71 : decode cX7_body 71 = .ok (.aload_n 3, 1) := by decide +kernel
theorem dX7_body_72 : decode cX7_body 72 = .ok (.getfield 173, 3) := by decide +kernel
theorem dX7_body_75 : decode cX7_body 75 = .ok (.ireturn, 1) := by decide +kernel
theorem dX7_body_76 : decode cX7_body 76 = .ok (.aload_n 3, 1) := by decide +kernel
theorem dX7_body_77 : decode cX7_body 77 = .ok (.getfield 176, 3) := by decide +kernel
theorem dX7_body_80 : decode cX7_body 80 = .ok (.ireturn, 1) := by decide +kernel
theorem dX7_body_81 : decode cX7_body 81 = .ok (.aload_n 3, 1) := by decide +kernel
theorem dX7_body_82 : decode cX7_body 82 = .ok (.getfield 179, 3) := by decide +kernel
theorem dX7_body_85 : decode cX7_body 85 = .ok (.ireturn, 1) := by decide +kernel
theorem dX7_body_86 : decode cX7_body 86 = .ok (.aload_n 3, 1) := by decide +kernel
theorem dX7_body_87 : decode cX7_body 87 = .ok (.getfield 182, 3) := by decide +kernel
theorem dX7_body_90 : decode cX7_body 90 = .ok (.ireturn, 1) := by decide +kernel
theorem dX7_uses_0 : decode cX7_uses 0 = .ok (.iload_n 1, 1) := by decide +kernel
theorem dX7_uses_1 : decode cX7_uses 1 = .ok (.invokestatic 52, 3) := by decide +kernel
theorem dX7_uses_4 : decode cX7_uses 4 = .ok (.iload_n 2, 1) := by decide +kernel
theorem dX7_uses_5 : decode cX7_uses 5 = .ok (.iconst 3, 1) := by decide +kernel
theorem dX7_uses_6 : decode cX7_uses 6 = .ok (.invokestatic 169, 3) := by decide +kernel
theorem dX7_uses_9 : decode cX7_uses 9 = .ok (.aload_n 0, 1) := by decide +kernel
theorem dX7_uses_10 : decode cX7_uses 10 = .ok (.getfield 37, 3) := by decide +kernel
theorem dX7_uses_13 : decode cX7_uses 13 = .ok (.aload_n 0, 1) := by decide +kernel
theorem dX7_uses_14 : decode cX7_uses 14 = .ok (.getfield 10, 3) := by decide +kernel
theorem dX7_uses_17 : decode cX7_uses 17 = .ok (.invokevirtual 185, 3) := by decide +kernel
theorem dX7_uses_20 : decode cX7_uses 20 = .ok (.iload_n 2, 1) := by decide +kernel
theorem dX7_uses_21 : decode cX7_uses 21 = .ok (.tableswitch 54 0 2 #[27, 36, 45], 27) := by decide +kernel
theorem dX7_uses_48 : decode cX7_uses 48 = .ok (.aload_n 0, 1) := by decide +kernel
theorem dX7_uses_49 : decode cX7_uses 49 = .ok (.getfield 37, 3) := by decide +kernel
theorem dX7_uses_52 : decode cX7_uses 52 = .ok (.iload_n 1, 1) := by decide +kernel
theorem dX7_uses_53 : decode cX7_uses 53 = .ok (.invokevirtual 188, 3) := by decide +kernel
theorem dX7_uses_56 : decode cX7_uses 56 = .ok (.ireturn, 1) := by decide +kernel
theorem dX7_uses_57 : decode cX7_uses 57 = .ok (.aload_n 0, 1) := by decide +kernel
theorem dX7_uses_58 : decode cX7_uses 58 = .ok (.getfield 37, 3) := by decide +kernel
theorem dX7_uses_61 : decode cX7_uses 61 = .ok (.iload_n 1, 1) := by decide +kernel
theorem dX7_uses_62 : decode cX7_uses 62 = .ok (.invokevirtual 192, 3) := by decide +kernel
theorem dX7_uses_65 : decode cX7_uses 65 = .ok (.ireturn, 1) := by decide +kernel
theorem dX7_uses_66 : decode cX7_uses 66 = .ok (.aload_n 0, 1) := by decide +kernel
theorem dX7_uses_67 : decode cX7_uses 67 = .ok (.getfield 37, 3) := by decide +kernel
theorem dX7_uses_70 : decode cX7_uses 70 = .ok (.iload_n 1, 1) := by decide +kernel
theorem dX7_uses_71 : decode cX7_uses 71 = .ok (.invokevirtual 195, 3) := by decide +kernel
theorem dX7_uses_74 : decode cX7_uses 74 = .ok (.ireturn, 1) := by decide +kernel
theorem dX7_uses_75 : decode cX7_uses 75 = .ok (.aload_n 0, 1) := by decide +kernel
theorem dX7_uses_76 : decode cX7_uses 76 = .ok (.getfield 37, 3) := by decide +kernel
theorem dX7_uses_79 : decode cX7_uses 79 = .ok (.iload_n 1, 1) := by decide +kernel
theorem dX7_uses_80 : decode cX7_uses 80 = .ok (.invokevirtual 198, 3) := by decide +kernel
theorem dX7_uses_83 : decode cX7_uses 83 = .ok (.ireturn, 1) := by decide +kernel
theorem dX7_rings_0 : decode cX7_rings 0 = .ok (.aload_n 0, 1) := by decide +kernel
theorem dX7_rings_1 : decode cX7_rings 1 = .ok (.getfield 37, 3) := by decide +kernel
theorem dX7_rings_4 : decode cX7_rings 4 = .ok (.aload_n 0, 1) := by decide +kernel
theorem dX7_rings_5 : decode cX7_rings 5 = .ok (.getfield 10, 3) := by decide +kernel
theorem dX7_rings_8 : decode cX7_rings 8 = .ok (.invokevirtual 185, 3) := by decide +kernel
theorem dX7_rings_11 : decode cX7_rings 11 = .ok (.aload_n 0, 1) := by decide +kernel
theorem dX7_rings_12 : decode cX7_rings 12 = .ok (.getfield 37, 3) := by decide +kernel
theorem dX7_rings_15 : decode cX7_rings 15 = .ok (.invokevirtual 201, 3) := by decide +kernel
theorem dX7_rings_18 : decode cX7_rings 18 = .ok (.ireturn, 1) := by decide +kernel
theorem dX7_missing_0 : decode cX7_missing 0 = .ok (.aload_n 0, 1) := by decide +kernel
theorem dX7_missing_1 : decode cX7_missing 1 = .ok (.getfield 37, 3) := by decide +kernel
theorem dX7_missing_4 : decode cX7_missing 4 = .ok (.aload_n 0, 1) := by decide +kernel
theorem dX7_missing_5 : decode cX7_missing 5 = .ok (.getfield 10, 3) := by decide +kernel
theorem dX7_missing_8 : decode cX7_missing 8 = .ok (.invokevirtual 185, 3) := by decide +kernel
theorem dX7_missing_11 : decode cX7_missing 11 = .ok (.aload_n 0, 1) := by decide +kernel
theorem dX7_missing_12 : decode cX7_missing 12 = .ok (.getfield 37, 3) := by decide +kernel
theorem dX7_missing_15 : decode cX7_missing 15 = .ok (.invokevirtual 204, 3) := by decide +kernel
theorem dX7_missing_18 : decode cX7_missing 18 = .ok (.ireturn, 1) := by decide +kernel
theorem dX7_chain_0 : decode cX7_chain 0 = .ok (.iload_n 1, 1) := by decide +kernel
theorem dX7_chain_1 : decode cX7_chain 1 = .ok (.invokestatic 52, 3) := by decide +kernel
theorem dX7_chain_4 : decode cX7_chain 4 = .ok (.aload_n 0, 1) := by decide +kernel
theorem dX7_chain_5 : decode cX7_chain 5 = .ok (.getfield 37, 3) := by decide +kernel
theorem dX7_chain_8 : decode cX7_chain 8 = .ok (.aload_n 0, 1) := by decide +kernel
theorem dX7_chain_9 : decode cX7_chain 9 = .ok (.getfield 10, 3) := by decide +kernel
theorem dX7_chain_12 : decode cX7_chain 12 = .ok (.invokevirtual 185, 3) := by decide +kernel
theorem dX7_chain_15 : decode cX7_chain 15 = .ok (.aload_n 0, 1) := by decide +kernel
theorem dX7_chain_16 : decode cX7_chain 16 = .ok (.getfield 37, 3) := by decide +kernel
theorem dX7_chain_19 : decode cX7_chain 19 = .ok (.iload_n 1, 1) := by decide +kernel
theorem dX7_chain_20 : decode cX7_chain 20 = .ok (.invokevirtual 207, 3) := by decide +kernel
theorem dX7_chain_23 : decode cX7_chain 23 = .ok (.ireturn, 1) := by decide +kernel
theorem dX7_ifDefined_0 : decode cX7_ifDefined 0 = .ok (.iload_n 1, 1) := by decide +kernel
theorem dX7_ifDefined_1 : decode cX7_ifDefined 1 = .ok (.invokestatic 52, 3) := by decide +kernel
theorem dX7_ifDefined_4 : decode cX7_ifDefined 4 = .ok (.aload_n 0, 1) := by decide +kernel
theorem dX7_ifDefined_5 : decode cX7_ifDefined 5 = .ok (.invokevirtual 56, 3) := by decide +kernel
theorem dX7_ifDefined_8 : decode cX7_ifDefined 8 = .ok (.aload_n 0, 1) := by decide +kernel
theorem dX7_ifDefined_9 : decode cX7_ifDefined 9 = .ok (.getfield 37, 3) := by decide +kernel
theorem dX7_ifDefined_12 : decode cX7_ifDefined 12 = .ok (.aload_n 0, 1) := by decide +kernel
theorem dX7_ifDefined_13 : decode cX7_ifDefined 13 = .ok (.getfield 10, 3) := by decide +kernel
theorem dX7_ifDefined_16 : decode cX7_ifDefined 16 = .ok (.invokevirtual 185, 3) := by decide +kernel
theorem dX7_ifDefined_19 : decode cX7_ifDefined 19 = .ok (.aload_n 0, 1) := by decide +kernel
theorem dX7_ifDefined_20 : decode cX7_ifDefined 20 = .ok (.getfield 37, 3) := by decide +kernel
theorem dX7_ifDefined_23 : decode cX7_ifDefined 23 = .ok (.iload_n 1, 1) := by decide +kernel
theorem dX7_ifDefined_24 : decode cX7_ifDefined 24 = .ok (.aload_n 0, 1) := by decide +kernel
theorem dX7_ifDefined_25 : decode cX7_ifDefined 25 = .ok (.getfield 30, 3) := by decide +kernel
theorem dX7_ifDefined_28 : decode cX7_ifDefined 28 = .ok (.getfield 210, 3) := by decide +kernel
theorem dX7_ifDefined_31 : decode cX7_ifDefined 31 = .ok (.invokevirtual 213, 3) := by decide +kernel
theorem dX7_ifDefined_34 : decode cX7_ifDefined 34 = .ok (.aload_n 0, 1) := by decide +kernel
theorem dX7_ifDefined_35 : decode cX7_ifDefined 35 = .ok (.getfield 37, 3) := by decide +kernel
theorem dX7_ifDefined_38 : decode cX7_ifDefined 38 = .ok (.invokevirtual 201, 3) := by decide +kernel
theorem dX7_ifDefined_41 : decode cX7_ifDefined 41 = .ok (.ireturn, 1) := by decide +kernel
theorem dX7_sign_0 : decode cX7_sign 0 = .ok (.iload_n 1, 1) := by decide +kernel
theorem dX7_sign_1 : decode cX7_sign 1 = .ok (.ifCond .ge 13, 3) := by decide +kernel
theorem dX7_sign_4 : decode cX7_sign 4 = .ok (.new 90, 3) := by decide +kernel
theorem dX7_sign_7 : decode cX7_sign 7 = .ok (.dup, 1) := by decide +kernel
theorem dX7_sign_8 : decode cX7_sign 8 = .ok (.ldc 216, 2) := by decide +kernel
theorem dX7_sign_10 : decode cX7_sign 10 = .ok (.invokespecial 94, 3) := by decide +kernel
theorem dX7_sign_13 : decode cX7_sign 13 = .ok (.athrow, 1) := by decide +kernel
theorem dX7_sign_14 : decode cX7_sign 14 = .ok (.aload_n 0, 1) := by decide +kernel
theorem dX7_sign_15 : decode cX7_sign 15 = .ok (.getfield 10, 3) := by decide +kernel
theorem dX7_sign_18 : decode cX7_sign 18 = .ok (.getfield 111, 3) := by decide +kernel
theorem dX7_sign_21 : decode cX7_sign 21 = .ok (.getfield 118, 3) := by decide +kernel
theorem dX7_sign_24 : decode cX7_sign 24 = .ok (.astore_n 2, 1) := by decide +kernel
theorem dX7_sign_25 : decode cX7_sign 25 = .ok (.iload_n 1, 1) := by decide +kernel
theorem dX7_sign_26 : decode cX7_sign 26 = .ok (.aload_n 2, 1) := by decide +kernel
theorem dX7_sign_27 : decode cX7_sign 27 = .ok (.arraylength, 1) := by decide +kernel
theorem dX7_sign_28 : decode cX7_sign 28 = .ok (.if_icmp .ge 9, 3) := by decide +kernel
theorem dX7_sign_31 : decode cX7_sign 31 = .ok (.aload_n 2, 1) := by decide +kernel
theorem dX7_sign_32 : decode cX7_sign 32 = .ok (.iload_n 1, 1) := by decide +kernel
theorem dX7_sign_33 : decode cX7_sign 33 = .ok (.iaload, 1) := by decide +kernel
theorem dX7_sign_34 : decode cX7_sign 34 = .ok (.goto 4, 3) := by decide +kernel
theorem dX7_sign_37 : decode cX7_sign 37 = .ok (.iconst (-1), 1) := by decide +kernel
theorem dX7_sign_38 : decode cX7_sign 38 = .ok (.ireturn, 1) := by decide +kernel
theorem dX7_result_0 : decode cX7_result 0 = .ok (.iload_n 1, 1) := by decide +kernel
theorem dX7_result_1 : decode cX7_result 1 = .ok (.bipush 7, 2) := by decide +kernel
theorem dX7_result_3 : decode cX7_result 3 = .ok (.invokestatic 169, 3) := by decide +kernel
theorem dX7_result_6 : decode cX7_result 6 = .ok (.aload_n 0, 1) := by decide +kernel
theorem dX7_result_7 : decode cX7_result 7 = .ok (.getfield 10, 3) := by decide +kernel
theorem dX7_result_10 : decode cX7_result 10 = .ok (.getfield 111, 3) := by decide +kernel
theorem dX7_result_13 : decode cX7_result 13 = .ok (.astore_n 2, 1) := by decide +kernel
theorem dX7_result_14 : decode cX7_result 14 = .ok (.iload_n 1, 1) := by decide +kernel
theorem dX7_result_15 : decode cX7_result 15 = .ok (.tableswitch 85 0 6 #[41, 47, 54, 61, 68, 75, 80], 41) := by decide +kernel
theorem dX7_result_56 : decode cX7_result 56 = .ok (.aload_n 2, 1) := by decide +kernel
theorem dX7_result_57 : decode cX7_result 57 = .ok (.getfield 118, 3) := by decide +kernel
theorem dX7_result_60 : decode cX7_result 60 = .ok (.arraylength, 1) := by decide +kernel
theorem dX7_result_61 : decode cX7_result 61 = .ok (.ireturn, 1) := by decide +kernel
theorem dX7_result_62 : decode cX7_result 62 = .ok (.aload_n 2, 1) := by decide +kernel
theorem dX7_result_63 : decode cX7_result 63 = .ok (.bipush 35, 2) := by decide +kernel
theorem dX7_result_65 : decode cX7_result 65 = .ok (.invokevirtual 218, 3) := by decide +kernel
theorem dX7_result_68 : decode cX7_result 68 = .ok (.ireturn, 1) := by decide +kernel
theorem dX7_result_69 : decode cX7_result 69 = .ok (.aload_n 2, 1) := by decide +kernel
theorem dX7_result_70 : decode cX7_result 70 = .ok (.bipush 37, 2) := by decide +kernel
theorem dX7_result_72 : decode cX7_result 72 = .ok (.invokevirtual 218, 3) := by decide +kernel
theorem dX7_result_75 : decode cX7_result 75 = .ok (.ireturn, 1) := by decide +kernel
theorem dX7_result_76 : decode cX7_result 76 = .ok (.aload_n 2, 1) := by decide +kernel
theorem dX7_result_77 : decode cX7_result 77 = .ok (.bipush 36, 2) := by decide +kernel
theorem dX7_result_79 : decode cX7_result 79 = .ok (.invokevirtual 218, 3) := by decide +kernel
theorem dX7_result_82 : decode cX7_result 82 = .ok (.ireturn, 1) := by decide +kernel
theorem dX7_result_83 : decode cX7_result 83 = .ok (.aload_n 2, 1) := by decide +kernel
theorem dX7_result_84 : decode cX7_result 84 = .ok (.bipush 63, 2) := by decide +kernel
theorem dX7_result_86 : decode cX7_result 86 = .ok (.invokevirtual 218, 3) := by decide +kernel
theorem dX7_result_89 : decode cX7_result 89 = .ok (.ireturn, 1) := by decide +kernel
theorem dX7_result_90 : decode cX7_result 90 = .ok (.aload_n 2, 1) := by decide +kernel
theorem dX7_result_91 : decode cX7_result 91 = .ok (.getfield 221, 3) := by decide +kernel
theorem dX7_result_94 : decode cX7_result 94 = .ok (.ireturn, 1) := by decide +kernel
theorem dX7_result_95 : decode cX7_result 95 = .ok (.aload_n 2, 1) := by decide +kernel
theorem dX7_result_96 : decode cX7_result 96 = .ok (.getfield 224, 3) := by decide +kernel
theorem dX7_result_99 : decode cX7_result 99 = .ok (.ireturn, 1) := by decide +kernel
theorem dX7_result_100 : decode cX7_result 100 = .ok (.aload_n 2, 1) := by decide +kernel
theorem dX7_result_101 : decode cX7_result 101 = .ok (.invokevirtual 227, 3) := by decide +kernel
theorem dX7_result_104 : decode cX7_result 104 = .ok (.ireturn, 1) := by decide +kernel
theorem dX7_trace_0 : decode cX7_trace 0 = .ok (.iload_n 1, 1) := by decide +kernel
theorem dX7_trace_1 : decode cX7_trace 1 = .ok (.ifCond .ge 13, 3) := by decide +kernel
theorem dX7_trace_4 : decode cX7_trace 4 = .ok (.new 90, 3) := by decide +kernel
theorem dX7_trace_7 : decode cX7_trace 7 = .ok (.dup, 1) := by decide +kernel
theorem dX7_trace_8 : decode cX7_trace 8 = .ok (.ldc 216, 2) := by decide +kernel
theorem dX7_trace_10 : decode cX7_trace 10 = .ok (.invokespecial 94, 3) := by decide +kernel
theorem dX7_trace_13 : decode cX7_trace 13 = .ok (.athrow, 1) := by decide +kernel
theorem dX7_trace_14 : decode cX7_trace 14 = .ok (.iload_n 2, 1) := by decide +kernel
theorem dX7_trace_15 : decode cX7_trace 15 = .ok (.iconst 5, 1) := by decide +kernel
theorem dX7_trace_16 : decode cX7_trace 16 = .ok (.invokestatic 169, 3) := by decide +kernel
theorem dX7_trace_19 : decode cX7_trace 19 = .ok (.aload_n 0, 1) := by decide +kernel
theorem dX7_trace_20 : decode cX7_trace 20 = .ok (.getfield 10, 3) := by decide +kernel
theorem dX7_trace_23 : decode cX7_trace 23 = .ok (.getfield 111, 3) := by decide +kernel
theorem dX7_trace_26 : decode cX7_trace 26 = .ok (.iload_n 1, 1) := by decide +kernel
theorem dX7_trace_27 : decode cX7_trace 27 = .ok (.iload_n 2, 1) := by decide +kernel
theorem dX7_trace_28 : decode cX7_trace 28 = .ok (.invokevirtual 230, 3) := by decide +kernel
