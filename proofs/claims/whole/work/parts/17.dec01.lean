theorem dX5_choiceOf_0 : decode cX5_choiceOf 0 = .ok (.aload_n 0, 1) := by decide +kernel
theorem dX5_choiceOf_1 : decode cX5_choiceOf 1 = .ok (.getfield 56, 3) := by decide +kernel
theorem dX5_choiceOf_4 : decode cX5_choiceOf 4 = .ok (.istore_n 2, 1) := by decide +kernel
theorem dX5_choiceOf_5 : decode cX5_choiceOf 5 = .ok (.iconst (-1), 1) := by decide +kernel
theorem dX5_choiceOf_6 : decode cX5_choiceOf 6 = .ok (.istore_n 3, 1) := by decide +kernel
theorem dX5_choiceOf_7 : decode cX5_choiceOf 7 = .ok (.iconst 0, 1) := by decide +kernel
theorem dX5_choiceOf_8 : decode cX5_choiceOf 8 = .ok (.istore 4, 2) := by decide +kernel
theorem dX5_choiceOf_10 : decode cX5_choiceOf 10 = .ok (.iload 4, 2) := by decide +kernel
theorem dX5_choiceOf_12 : decode cX5_choiceOf 12 = .ok (.iload_n 1, 1) := by decide +kernel
theorem dX5_choiceOf_13 : decode cX5_choiceOf 13 = .ok (.if_icmp .gt 36, 3) := by decide +kernel
theorem dX5_choiceOf_16 : decode cX5_choiceOf 16 = .ok (.iload 4, 2) := by decide +kernel
theorem dX5_choiceOf_18 : decode cX5_choiceOf 18 = .ok (.aload_n 0, 1) := by decide +kernel
theorem dX5_choiceOf_19 : decode cX5_choiceOf 19 = .ok (.getfield 59, 3) := by decide +kernel
theorem dX5_choiceOf_22 : decode cX5_choiceOf 22 = .ok (.if_icmp .ge 27, 3) := by decide +kernel
theorem dX5_choiceOf_25 : decode cX5_choiceOf 25 = .ok (.aload_n 0, 1) := by decide +kernel
theorem dX5_choiceOf_26 : decode cX5_choiceOf 26 = .ok (.iload 4, 2) := by decide +kernel
theorem dX5_choiceOf_28 : decode cX5_choiceOf 28 = .ok (.iload_n 2, 1) := by decide +kernel
theorem dX5_choiceOf_29 : decode cX5_choiceOf 29 = .ok (.invokevirtual 86, 3) := by decide +kernel
theorem dX5_choiceOf_32 : decode cX5_choiceOf 32 = .ok (.istore_n 3, 1) := by decide +kernel
theorem dX5_choiceOf_33 : decode cX5_choiceOf 33 = .ok (.aload_n 0, 1) := by decide +kernel
theorem dX5_choiceOf_34 : decode cX5_choiceOf 34 = .ok (.getfield 22, 3) := by decide +kernel
theorem dX5_choiceOf_37 : decode cX5_choiceOf 37 = .ok (.iload_n 3, 1) := by decide +kernel
theorem dX5_choiceOf_38 : decode cX5_choiceOf 38 = .ok (.iload_n 2, 1) := by decide +kernel
theorem dX5_choiceOf_39 : decode cX5_choiceOf 39 = .ok (.invokevirtual 72, 3) := by decide +kernel
theorem dX5_choiceOf_42 : decode cX5_choiceOf 42 = .ok (.istore_n 2, 1) := by decide +kernel
theorem dX5_choiceOf_43 : decode cX5_choiceOf 43 = .ok (.iinc 4 1, 3) := by decide +kernel
theorem dX5_choiceOf_46 : decode cX5_choiceOf 46 = .ok (.goto (-36), 3) := by decide +kernel
theorem dX5_choiceOf_49 : decode cX5_choiceOf 49 = .ok (.iload_n 3, 1) := by decide +kernel
theorem dX5_choiceOf_50 : decode cX5_choiceOf 50 = .ok (.ireturn, 1) := by decide +kernel
theorem dX5_firstBestChoice_0 : decode cX5_firstBestChoice 0 = .ok (.iconst 0, 1) := by decide +kernel
theorem dX5_firstBestChoice_1 : decode cX5_firstBestChoice 1 = .ok (.istore_n 3, 1) := by decide +kernel
theorem dX5_firstBestChoice_2 : decode cX5_firstBestChoice 2 = .ok (.iload_n 3, 1) := by decide +kernel
theorem dX5_firstBestChoice_3 : decode cX5_firstBestChoice 3 = .ok (.iconst 2, 1) := by decide +kernel
theorem dX5_firstBestChoice_4 : decode cX5_firstBestChoice 4 = .ok (.if_icmp .ge 29, 3) := by decide +kernel
theorem dX5_firstBestChoice_7 : decode cX5_firstBestChoice 7 = .ok (.aload_n 0, 1) := by decide +kernel
theorem dX5_firstBestChoice_8 : decode cX5_firstBestChoice 8 = .ok (.iload_n 1, 1) := by decide +kernel
theorem dX5_firstBestChoice_9 : decode cX5_firstBestChoice 9 = .ok (.iload_n 2, 1) := by decide +kernel
theorem dX5_firstBestChoice_10 : decode cX5_firstBestChoice 10 = .ok (.iload_n 3, 1) := by decide +kernel
theorem dX5_firstBestChoice_11 : decode cX5_firstBestChoice 11 = .ok (.invokevirtual 82, 3) := by decide +kernel
theorem dX5_firstBestChoice_14 : decode cX5_firstBestChoice 14 = .ok (.aload_n 0, 1) := by decide +kernel
theorem dX5_firstBestChoice_15 : decode cX5_firstBestChoice 15 = .ok (.getfield 16, 3) := by decide +kernel
theorem dX5_firstBestChoice_18 : decode cX5_firstBestChoice 18 = .ok (.iload_n 1, 1) := by decide +kernel
theorem dX5_firstBestChoice_19 : decode cX5_firstBestChoice 19 = .ok (.aaload, 1) := by decide +kernel
theorem dX5_firstBestChoice_20 : decode cX5_firstBestChoice 20 = .ok (.iload_n 2, 1) := by decide +kernel
theorem dX5_firstBestChoice_21 : decode cX5_firstBestChoice 21 = .ok (.iaload, 1) := by decide +kernel
theorem dX5_firstBestChoice_22 : decode cX5_firstBestChoice 22 = .ok (.if_icmp .ne 5, 3) := by decide +kernel
theorem dX5_firstBestChoice_25 : decode cX5_firstBestChoice 25 = .ok (.iload_n 3, 1) := by decide +kernel
theorem dX5_firstBestChoice_26 : decode cX5_firstBestChoice 26 = .ok (.ireturn, 1) := by decide +kernel
theorem dX5_firstBestChoice_27 : decode cX5_firstBestChoice 27 = .ok (.iinc 3 1, 3) := by decide +kernel
theorem dX5_firstBestChoice_30 : decode cX5_firstBestChoice 30 = .ok (.goto (-28), 3) := by decide +kernel
theorem dX5_firstBestChoice_33 : decode cX5_firstBestChoice 33 = .ok (.iconst 2, 1) := by decide +kernel
theorem dX5_firstBestChoice_34 : decode cX5_firstBestChoice 34 = .ok (.ireturn, 1) := by decide +kernel
theorem dX5_fewestDaysFor_0 : decode cX5_fewestDaysFor 0 = .ok (.iconst 1, 1) := by decide +kernel
theorem dX5_fewestDaysFor_1 : decode cX5_fewestDaysFor 1 = .ok (.istore_n 2, 1) := by decide +kernel
theorem dX5_fewestDaysFor_2 : decode cX5_fewestDaysFor 2 = .ok (.iload_n 2, 1) := by decide +kernel
theorem dX5_fewestDaysFor_3 : decode cX5_fewestDaysFor 3 = .ok (.aload_n 0, 1) := by decide +kernel
theorem dX5_fewestDaysFor_4 : decode cX5_fewestDaysFor 4 = .ok (.getfield 59, 3) := by decide +kernel
theorem dX5_fewestDaysFor_7 : decode cX5_fewestDaysFor 7 = .ok (.if_icmp .gt 37, 3) := by decide +kernel
theorem dX5_fewestDaysFor_10 : decode cX5_fewestDaysFor 10 = .ok (.iconst 0, 1) := by decide +kernel
theorem dX5_fewestDaysFor_11 : decode cX5_fewestDaysFor 11 = .ok (.istore_n 3, 1) := by decide +kernel
theorem dX5_fewestDaysFor_12 : decode cX5_fewestDaysFor 12 = .ok (.iload_n 3, 1) := by decide +kernel
theorem dX5_fewestDaysFor_13 : decode cX5_fewestDaysFor 13 = .ok (.bipush 100, 2) := by decide +kernel
theorem dX5_fewestDaysFor_15 : decode cX5_fewestDaysFor 15 = .ok (.if_icmp .ge 23, 3) := by decide +kernel
theorem dX5_fewestDaysFor_18 : decode cX5_fewestDaysFor 18 = .ok (.aload_n 0, 1) := by decide +kernel
theorem dX5_fewestDaysFor_19 : decode cX5_fewestDaysFor 19 = .ok (.getfield 11, 3) := by decide +kernel
theorem dX5_fewestDaysFor_22 : decode cX5_fewestDaysFor 22 = .ok (.iload_n 2, 1) := by decide +kernel
theorem dX5_fewestDaysFor_23 : decode cX5_fewestDaysFor 23 = .ok (.aaload, 1) := by decide +kernel
theorem dX5_fewestDaysFor_24 : decode cX5_fewestDaysFor 24 = .ok (.iload_n 3, 1) := by decide +kernel
theorem dX5_fewestDaysFor_25 : decode cX5_fewestDaysFor 25 = .ok (.iaload, 1) := by decide +kernel
theorem dX5_fewestDaysFor_26 : decode cX5_fewestDaysFor 26 = .ok (.iload_n 1, 1) := by decide +kernel
theorem dX5_fewestDaysFor_27 : decode cX5_fewestDaysFor 27 = .ok (.if_icmp .lt 5, 3) := by decide +kernel
theorem dX5_fewestDaysFor_30 : decode cX5_fewestDaysFor 30 = .ok (.iload_n 2, 1) := by decide +kernel
theorem dX5_fewestDaysFor_31 : decode cX5_fewestDaysFor 31 = .ok (.ireturn, 1) := by decide +kernel
theorem dX5_fewestDaysFor_32 : decode cX5_fewestDaysFor 32 = .ok (.iinc 3 1, 3) := by decide +kernel
theorem dX5_fewestDaysFor_35 : decode cX5_fewestDaysFor 35 = .ok (.goto (-23), 3) := by decide +kernel
theorem dX5_fewestDaysFor_38 : decode cX5_fewestDaysFor 38 = .ok (.iinc 2 1, 3) := by decide +kernel
theorem dX5_fewestDaysFor_41 : decode cX5_fewestDaysFor 41 = .ok (.goto (-39), 3) := by decide +kernel
theorem dX5_fewestDaysFor_44 : decode cX5_fewestDaysFor 44 = .ok (.iconst (-1), 1) := by decide +kernel
theorem dX5_fewestDaysFor_45 : decode cX5_fewestDaysFor 45 = .ok (.ireturn, 1) := by decide +kernel
theorem dX5_farthestTurn_0 : decode cX5_farthestTurn 0 = .ok (.iconst 0, 1) := by decide +kernel
theorem dX5_farthestTurn_1 : decode cX5_farthestTurn 1 = .ok (.istore_n 1, 1) := by decide +kernel
theorem dX5_farthestTurn_2 : decode cX5_farthestTurn 2 = .ok (.iconst 1, 1) := by decide +kernel
theorem dX5_farthestTurn_3 : decode cX5_farthestTurn 3 = .ok (.istore_n 2, 1) := by decide +kernel
theorem dX5_farthestTurn_4 : decode cX5_farthestTurn 4 = .ok (.iload_n 2, 1) := by decide +kernel
theorem dX5_farthestTurn_5 : decode cX5_farthestTurn 5 = .ok (.aload_n 0, 1) := by decide +kernel
theorem dX5_farthestTurn_6 : decode cX5_farthestTurn 6 = .ok (.getfield 59, 3) := by decide +kernel
theorem dX5_farthestTurn_9 : decode cX5_farthestTurn 9 = .ok (.if_icmp .ge 19, 3) := by decide +kernel
theorem dX5_farthestTurn_12 : decode cX5_farthestTurn 12 = .ok (.iload_n 1, 1) := by decide +kernel
theorem dX5_farthestTurn_13 : decode cX5_farthestTurn 13 = .ok (.aload_n 0, 1) := by decide +kernel
theorem dX5_farthestTurn_14 : decode cX5_farthestTurn 14 = .ok (.iload_n 2, 1) := by decide +kernel
theorem dX5_farthestTurn_15 : decode cX5_farthestTurn 15 = .ok (.invokevirtual 89, 3) := by decide +kernel
theorem dX5_farthestTurn_18 : decode cX5_farthestTurn 18 = .ok (.invokestatic 53, 3) := by decide +kernel
theorem dX5_farthestTurn_21 : decode cX5_farthestTurn 21 = .ok (.istore_n 1, 1) := by decide +kernel
theorem dX5_farthestTurn_22 : decode cX5_farthestTurn 22 = .ok (.iinc 2 1, 3) := by decide +kernel
theorem dX5_farthestTurn_25 : decode cX5_farthestTurn 25 = .ok (.goto (-21), 3) := by decide +kernel
theorem dX5_farthestTurn_28 : decode cX5_farthestTurn 28 = .ok (.iload_n 1, 1) := by decide +kernel
theorem dX5_farthestTurn_29 : decode cX5_farthestTurn 29 = .ok (.ireturn, 1) := by decide +kernel
theorem dX5_firstTurnAt_0 : decode cX5_firstTurnAt 0 = .ok (.iconst 1, 1) := by decide +kernel
theorem dX5_firstTurnAt_1 : decode cX5_firstTurnAt 1 = .ok (.istore_n 2, 1) := by decide +kernel
theorem dX5_firstTurnAt_2 : decode cX5_firstTurnAt 2 = .ok (.iload_n 2, 1) := by decide +kernel
theorem dX5_firstTurnAt_3 : decode cX5_firstTurnAt 3 = .ok (.aload_n 0, 1) := by decide +kernel
theorem dX5_firstTurnAt_4 : decode cX5_firstTurnAt 4 = .ok (.getfield 59, 3) := by decide +kernel
theorem dX5_firstTurnAt_7 : decode cX5_firstTurnAt 7 = .ok (.if_icmp .ge 20, 3) := by decide +kernel
theorem dX5_firstTurnAt_10 : decode cX5_firstTurnAt 10 = .ok (.aload_n 0, 1) := by decide +kernel
theorem dX5_firstTurnAt_11 : decode cX5_firstTurnAt 11 = .ok (.iload_n 2, 1) := by decide +kernel
theorem dX5_firstTurnAt_12 : decode cX5_firstTurnAt 12 = .ok (.invokevirtual 89, 3) := by decide +kernel
theorem dX5_firstTurnAt_15 : decode cX5_firstTurnAt 15 = .ok (.iload_n 1, 1) := by decide +kernel
theorem dX5_firstTurnAt_16 : decode cX5_firstTurnAt 16 = .ok (.if_icmp .ne 5, 3) := by decide +kernel
theorem dX5_firstTurnAt_19 : decode cX5_firstTurnAt 19 = .ok (.iload_n 2, 1) := by decide +kernel
theorem dX5_firstTurnAt_20 : decode cX5_firstTurnAt 20 = .ok (.ireturn, 1) := by decide +kernel
theorem dX5_firstTurnAt_21 : decode cX5_firstTurnAt 21 = .ok (.iinc 2 1, 3) := by decide +kernel
theorem dX5_firstTurnAt_24 : decode cX5_firstTurnAt 24 = .ok (.goto (-22), 3) := by decide +kernel
theorem dX5_firstTurnAt_27 : decode cX5_firstTurnAt 27 = .ok (.iconst (-1), 1) := by decide +kernel
theorem dX5_firstTurnAt_28 : decode cX5_firstTurnAt 28 = .ok (.ireturn, 1) := by decide +kernel
theorem dX5_farthestTurnAt_0 : decode cX5_farthestTurnAt 0 = .ok (.iconst 0, 1) := by decide +kernel
theorem dX5_farthestTurnAt_1 : decode cX5_farthestTurnAt 1 = .ok (.istore_n 2, 1) := by decide +kernel
theorem dX5_farthestTurnAt_2 : decode cX5_farthestTurnAt 2 = .ok (.iconst 0, 1) := by decide +kernel
theorem dX5_farthestTurnAt_3 : decode cX5_farthestTurnAt 3 = .ok (.istore_n 3, 1) := by decide +kernel
theorem dX5_farthestTurnAt_4 : decode cX5_farthestTurnAt 4 = .ok (.iload_n 3, 1) := by decide +kernel
theorem dX5_farthestTurnAt_5 : decode cX5_farthestTurnAt 5 = .ok (.bipush 100, 2) := by decide +kernel
theorem dX5_farthestTurnAt_7 : decode cX5_farthestTurnAt 7 = .ok (.if_icmp .ge 45, 3) := by decide +kernel
theorem dX5_farthestTurnAt_10 : decode cX5_farthestTurnAt 10 = .ok (.aload_n 0, 1) := by decide +kernel
theorem dX5_farthestTurnAt_11 : decode cX5_farthestTurnAt 11 = .ok (.getfield 11, 3) := by decide +kernel
theorem dX5_farthestTurnAt_14 : decode cX5_farthestTurnAt 14 = .ok (.iload_n 1, 1) := by decide +kernel
theorem dX5_farthestTurnAt_15 : decode cX5_farthestTurnAt 15 = .ok (.aaload, 1) := by decide +kernel
theorem dX5_farthestTurnAt_16 : decode cX5_farthestTurnAt 16 = .ok (.iload_n 3, 1) := by decide +kernel
theorem dX5_farthestTurnAt_17 : decode cX5_farthestTurnAt 17 = .ok (.iaload, 1) := by decide +kernel
theorem dX5_farthestTurnAt_18 : decode cX5_farthestTurnAt 18 = .ok (.iconst (-1), 1) := by decide +kernel
theorem dX5_farthestTurnAt_19 : decode cX5_farthestTurnAt 19 = .ok (.if_icmp .eq 27, 3) := by decide +kernel
theorem dX5_farthestTurnAt_22 : decode cX5_farthestTurnAt 22 = .ok (.iload_n 2, 1) := by decide +kernel
theorem dX5_farthestTurnAt_23 : decode cX5_farthestTurnAt 23 = .ok (.aload_n 0, 1) := by decide +kernel
theorem dX5_farthestTurnAt_24 : decode cX5_farthestTurnAt 24 = .ok (.getfield 11, 3) := by decide +kernel
theorem dX5_farthestTurnAt_27 : decode cX5_farthestTurnAt 27 = .ok (.iload_n 1, 1) := by decide +kernel
theorem dX5_farthestTurnAt_28 : decode cX5_farthestTurnAt 28 = .ok (.aaload, 1) := by decide +kernel
theorem dX5_farthestTurnAt_29 : decode cX5_farthestTurnAt 29 = .ok (.iload_n 3, 1) := by decide +kernel
theorem dX5_farthestTurnAt_30 : decode cX5_farthestTurnAt 30 = .ok (.iaload, 1) := by decide +kernel
theorem dX5_farthestTurnAt_31 : decode cX5_farthestTurnAt 31 = .ok (.aload_n 0, 1) := by decide +kernel
theorem dX5_farthestTurnAt_32 : decode cX5_farthestTurnAt 32 = .ok (.getfield 16, 3) := by decide +kernel
theorem dX5_farthestTurnAt_35 : decode cX5_farthestTurnAt 35 = .ok (.iload_n 1, 1) := by decide +kernel
theorem dX5_farthestTurnAt_36 : decode cX5_farthestTurnAt 36 = .ok (.aaload, 1) := by decide +kernel
theorem dX5_farthestTurnAt_37 : decode cX5_farthestTurnAt 37 = .ok (.iload_n 3, 1) := by decide +kernel
theorem dX5_farthestTurnAt_38 : decode cX5_farthestTurnAt 38 = .ok (.iaload, 1) := by decide +kernel
theorem dX5_farthestTurnAt_39 : decode cX5_farthestTurnAt 39 = .ok (.invokestatic 47, 3) := by decide +kernel
theorem dX5_farthestTurnAt_42 : decode cX5_farthestTurnAt 42 = .ok (.invokestatic 53, 3) := by decide +kernel
theorem dX5_farthestTurnAt_45 : decode cX5_farthestTurnAt 45 = .ok (.istore_n 2, 1) := by decide +kernel
theorem dX5_farthestTurnAt_46 : decode cX5_farthestTurnAt 46 = .ok (.iinc 3 1, 3) := by decide +kernel
theorem dX5_farthestTurnAt_49 : decode cX5_farthestTurnAt 49 = .ok (.goto (-45), 3) := by decide +kernel
theorem dX5_farthestTurnAt_52 : decode cX5_farthestTurnAt 52 = .ok (.iload_n 2, 1) := by decide +kernel
theorem dX5_farthestTurnAt_53 : decode cX5_farthestTurnAt 53 = .ok (.ireturn, 1) := by decide +kernel
theorem dX6_init_0 : decode cX6_init 0 = .ok (.aload_n 0, 1) := by decide +kernel
theorem dX6_init_1 : decode cX6_init 1 = .ok (.invokespecial 1, 3) := by decide +kernel
theorem dX6_init_4 : decode cX6_init 4 = .ok (.return_, 1) := by decide +kernel
theorem dX6_runs_0 : decode cX6_runs 0 = .ok (.aload_n 0, 1) := by decide +kernel
theorem dX6_runs_1 : decode cX6_runs 1 = .ok (.iload_n 1, 1) := by decide +kernel
theorem dX6_runs_2 : decode cX6_runs 2 = .ok (.iload_n 2, 1) := by decide +kernel
theorem dX6_runs_3 : decode cX6_runs 3 = .ok (.invokespecial 7, 3) := by decide +kernel
theorem dX6_runs_6 : decode cX6_runs 6 = .ok (.iconst 3, 1) := by decide +kernel
theorem dX6_runs_7 : decode cX6_runs 7 = .ok (.idiv, 1) := by decide +kernel
theorem dX6_runs_8 : decode cX6_runs 8 = .ok (.ireturn, 1) := by decide +kernel
theorem dX6_behindTelling_0 : decode cX6_behindTelling 0 = .ok (.aload_n 0, 1) := by decide +kernel
theorem dX6_behindTelling_1 : decode cX6_behindTelling 1 = .ok (.iload_n 1, 1) := by decide +kernel
theorem dX6_behindTelling_2 : decode cX6_behindTelling 2 = .ok (.invokespecial 11, 3) := by decide +kernel
theorem dX6_behindTelling_5 : decode cX6_behindTelling 5 = .ok (.iconst 2, 1) := by decide +kernel
theorem dX6_behindTelling_6 : decode cX6_behindTelling 6 = .ok (.idiv, 1) := by decide +kernel
theorem dX6_behindTelling_7 : decode cX6_behindTelling 7 = .ok (.ireturn, 1) := by decide +kernel
theorem dX7_init_0 : decode cX7_init 0 = .ok (.aload_n 0, 1) := by decide +kernel
theorem dX7_init_1 : decode cX7_init 1 = .ok (.invokespecial 3, 3) := by decide +kernel
theorem dX7_init_4 : decode cX7_init 4 = .ok (.return_, 1) := by decide +kernel
theorem dX7_runs_0 : decode cX7_runs 0 = .ok (.iload_n 1, 1) := by decide +kernel
theorem dX7_runs_1 : decode cX7_runs 1 = .ok (.iconst 1, 1) := by decide +kernel
theorem dX7_runs_2 : decode cX7_runs 2 = .ok (.if_icmp .ne 7, 3) := by decide +kernel
theorem dX7_runs_5 : decode cX7_runs 5 = .ok (.iconst 0, 1) := by decide +kernel
theorem dX7_runs_6 : decode cX7_runs 6 = .ok (.goto 9, 3) := by decide +kernel
theorem dX7_runs_9 : decode cX7_runs 9 = .ok (.aload_n 0, 1) := by decide +kernel
theorem dX7_runs_10 : decode cX7_runs 10 = .ok (.iload_n 1, 1) := by decide +kernel
theorem dX7_runs_11 : decode cX7_runs 11 = .ok (.iload_n 2, 1) := by decide +kernel
theorem dX7_runs_12 : decode cX7_runs 12 = .ok (.invokespecial 9, 3) := by decide +kernel
theorem dX7_runs_15 : decode cX7_runs 15 = .ok (.ireturn, 1) := by decide +kernel
theorem dX8_init_0 : decode cX8_init 0 = .ok (.aload_n 0, 1) := by decide +kernel
theorem dX8_init_1 : decode cX8_init 1 = .ok (.invokespecial 1, 3) := by decide +kernel
theorem dX8_init_4 : decode cX8_init 4 = .ok (.return_, 1) := by decide +kernel
theorem dX8_behindTelling_0 : decode cX8_behindTelling 0 = .ok (.aload_n 0, 1) := by decide +kernel
theorem dX8_behindTelling_1 : decode cX8_behindTelling 1 = .ok (.iload_n 1, 1) := by decide +kernel
theorem dX8_behindTelling_2 : decode cX8_behindTelling 2 = .ok (.invokespecial 7, 3) := by decide +kernel
theorem dX8_behindTelling_5 : decode cX8_behindTelling 5 = .ok (.iconst 4, 1) := by decide +kernel
theorem dX8_behindTelling_6 : decode cX8_behindTelling 6 = .ok (.iadd, 1) := by decide +kernel
theorem dX8_behindTelling_7 : decode cX8_behindTelling 7 = .ok (.ireturn, 1) := by decide +kernel
theorem dX8_behindResting_0 : decode cX8_behindResting 0 = .ok (.aload_n 0, 1) := by decide +kernel
theorem dX8_behindResting_1 : decode cX8_behindResting 1 = .ok (.iload_n 1, 1) := by decide +kernel
theorem dX8_behindResting_2 : decode cX8_behindResting 2 = .ok (.invokespecial 11, 3) := by decide +kernel
theorem dX8_behindResting_5 : decode cX8_behindResting 5 = .ok (.iconst 2, 1) := by decide +kernel
theorem dX8_behindResting_6 : decode cX8_behindResting 6 = .ok (.isub, 1) := by decide +kernel
theorem dX8_behindResting_7 : decode cX8_behindResting 7 = .ok (.ireturn, 1) := by decide +kernel
theorem dX9_init_0 : decode cX9_init 0 = .ok (.aload_n 0, 1) := by decide +kernel
theorem dX9_init_1 : decode cX9_init 1 = .ok (.invokespecial 3, 3) := by decide +kernel
theorem dX9_init_4 : decode cX9_init 4 = .ok (.aload_n 0, 1) := by decide +kernel
theorem dX9_init_5 : decode cX9_init 5 = .ok (.sipush 150, 3) := by decide +kernel
theorem dX9_init_8 : decode cX9_init 8 = .ok (.newarray .byte, 2) := by decide +kernel
theorem dX9_init_10 : decode cX9_init 10 = .ok (.putfield 9, 3) := by decide +kernel
theorem dX9_init_13 : decode cX9_init 13 = .ok (.return_, 1) := by decide +kernel
theorem dX9_append_0 : decode cX9_append 0 = .ok (.aload_n 0, 1) := by decide +kernel
theorem dX9_append_1 : decode cX9_append 1 = .ok (.getfield 15, 3) := by decide +kernel
theorem dX9_append_4 : decode cX9_append 4 = .ok (.sipush 150, 3) := by decide +kernel
theorem dX9_append_7 : decode cX9_append 7 = .ok (.if_icmp .lt 6, 3) := by decide +kernel
theorem dX9_append_10 : decode cX9_append 10 = .ok (.bipush (-4), 2) := by decide +kernel
theorem dX9_append_12 : decode cX9_append 12 = .ok (.ireturn, 1) := by decide +kernel
theorem dX9_append_13 : decode cX9_append 13 = .ok (.aload_n 0, 1) := by decide +kernel
theorem dX9_append_14 : decode cX9_append 14 = .ok (.getfield 9, 3) := by decide +kernel
theorem dX9_append_17 : decode cX9_append 17 = .ok (.aload_n 0, 1) := by decide +kernel
theorem dX9_append_18 : decode cX9_append 18 = .ok (.getfield 15, 3) := by decide +kernel
theorem dX9_append_21 : decode cX9_append 21 = .ok (.iload_n 1, 1) := by decide +kernel
theorem dX9_append_22 : decode cX9_append 22 = .ok (.i2b, 1) := by decide +kernel
theorem dX9_append_23 : decode cX9_append 23 = .ok (.bastore, 1) := by decide +kernel
theorem dX9_append_24 : decode cX9_append 24 = .ok (.aload_n 0, 1) := by decide +kernel
theorem dX9_append_25 : decode cX9_append 25 = .ok (.dup, 1) := by decide +kernel
theorem dX9_append_26 : decode cX9_append 26 = .ok (.getfield 15, 3) := by decide +kernel
theorem dX9_append_29 : decode cX9_append 29 = .ok (.iconst 1, 1) := by decide +kernel
theorem dX9_append_30 : decode cX9_append 30 = .ok (.iadd, 1) := by decide +kernel
theorem dX9_append_31 : decode cX9_append 31 = .ok (.putfield 15, 3) := by decide +kernel
theorem dX9_append_34 : decode cX9_append 34 = .ok (.aload_n 0, 1) := by decide +kernel
theorem dX9_append_35 : decode cX9_append 35 = .ok (.getfield 15, 3) := by decide +kernel
theorem dX9_append_38 : decode cX9_append 38 = .ok (.ireturn, 1) := by decide +kernel
theorem dX9_takesRank_0 : decode cX9_takesRank 0 = .ok (.aload_n 0, 1) := by decide +kernel
theorem dX9_takesRank_1 : decode cX9_takesRank 1 = .ok (.iconst 0, 1) := by decide +kernel
theorem dX9_takesRank_2 : decode cX9_takesRank 2 = .ok (.putfield 19, 3) := by decide +kernel
theorem dX9_takesRank_5 : decode cX9_takesRank 5 = .ok (.aload_n 0, 1) := by decide +kernel
theorem dX9_takesRank_6 : decode cX9_takesRank 6 = .ok (.iconst 0, 1) := by decide +kernel
theorem dX9_takesRank_7 : decode cX9_takesRank 7 = .ok (.putfield 22, 3) := by decide +kernel
theorem dX9_takesRank_10 : decode cX9_takesRank 10 = .ok (.aload_n 0, 1) := by decide +kernel
theorem dX9_takesRank_11 : decode cX9_takesRank 11 = .ok (.invokevirtual 26, 3) := by decide +kernel
theorem dX9_takesRank_14 : decode cX9_takesRank 14 = .ok (.aload_n 0, 1) := by decide +kernel
theorem dX9_takesRank_15 : decode cX9_takesRank 15 = .ok (.ldc 29, 2) := by decide +kernel
theorem dX9_takesRank_17 : decode cX9_takesRank 17 = .ok (.invokevirtual 31, 3) := by decide +kernel
theorem dX9_takesRank_20 : decode cX9_takesRank 20 = .ok (.ifCond .eq 14, 3) := by decide +kernel
theorem dX9_takesRank_23 : decode cX9_takesRank 23 = .ok (.aload_n 0, 1) := by decide +kernel
theorem dX9_takesRank_24 : decode cX9_takesRank 24 = .ok (.invokevirtual 35, 3) := by decide +kernel
theorem dX9_takesRank_27 : decode cX9_takesRank 27 = .ok (.ifCond .eq 7, 3) := by decide +kernel
theorem dX9_takesRank_30 : decode cX9_takesRank 30 = .ok (.iconst 1, 1) := by decide +kernel
theorem dX9_takesRank_31 : decode cX9_takesRank 31 = .ok (.goto 4, 3) := by decide +kernel
theorem dX9_takesRank_34 : decode cX9_takesRank 34 = .ok (.iconst 0, 1) := by decide +kernel
theorem dX9_takesRank_35 : decode cX9_takesRank 35 = .ok (.ireturn, 1) := by decide +kernel
theorem dX9_takesItem_0 : decode cX9_takesItem 0 = .ok (.aload_n 0, 1) := by decide +kernel
theorem dX9_takesItem_1 : decode cX9_takesItem 1 = .ok (.invokevirtual 26, 3) := by decide +kernel
theorem dX9_takesItem_4 : decode cX9_takesItem 4 = .ok (.aload_n 0, 1) := by decide +kernel
theorem dX9_takesItem_5 : decode cX9_takesItem 5 = .ok (.aload_n 0, 1) := by decide +kernel
theorem dX9_takesItem_6 : decode cX9_takesItem 6 = .ok (.getfield 39, 3) := by decide +kernel
theorem dX9_takesItem_9 : decode cX9_takesItem 9 = .ok (.ifCond .ne 7, 3) := by decide +kernel
theorem dX9_takesItem_12 : decode cX9_takesItem 12 = .ok (.iconst 1, 1) := by decide +kernel
theorem dX9_takesItem_13 : decode cX9_takesItem 13 = .ok (.goto 4, 3) := by decide +kernel
theorem dX9_takesItem_16 : decode cX9_takesItem 16 = .ok (.iconst 0, 1) := by decide +kernel
theorem dX9_takesItem_17 : decode cX9_takesItem 17 = .ok (.putfield 22, 3) := by decide +kernel
theorem dX9_takesItem_20 : decode cX9_takesItem 20 = .ok (.aload_n 0, 1) := by decide +kernel
theorem dX9_takesItem_21 : decode cX9_takesItem 21 = .ok (.aload_n 0, 1) := by decide +kernel
theorem dX9_takesItem_22 : decode cX9_takesItem 22 = .ok (.ldc 42, 2) := by decide +kernel
theorem dX9_takesItem_24 : decode cX9_takesItem 24 = .ok (.invokevirtual 31, 3) := by decide +kernel
theorem dX9_takesItem_27 : decode cX9_takesItem 27 = .ok (.putfield 44, 3) := by decide +kernel
theorem dX9_takesItem_30 : decode cX9_takesItem 30 = .ok (.aload_n 0, 1) := by decide +kernel
theorem dX9_takesItem_31 : decode cX9_takesItem 31 = .ok (.getfield 44, 3) := by decide +kernel
theorem dX9_takesItem_34 : decode cX9_takesItem 34 = .ok (.ifCond .eq 10, 3) := by decide +kernel
theorem dX9_takesItem_37 : decode cX9_takesItem 37 = .ok (.iload_n 1, 1) := by decide +kernel
theorem dX9_takesItem_38 : decode cX9_takesItem 38 = .ok (.ifCond .eq 17, 3) := by decide +kernel
theorem dX9_takesItem_41 : decode cX9_takesItem 41 = .ok (.goto 12, 3) := by decide +kernel
theorem dX9_takesItem_44 : decode cX9_takesItem 44 = .ok (.aload_n 0, 1) := by decide +kernel
theorem dX9_takesItem_45 : decode cX9_takesItem 45 = .ok (.ldc 47, 2) := by decide +kernel
theorem dX9_takesItem_47 : decode cX9_takesItem 47 = .ok (.invokevirtual 31, 3) := by decide +kernel
theorem dX9_takesItem_50 : decode cX9_takesItem 50 = .ok (.ifCond .ne 5, 3) := by decide +kernel
theorem dX9_takesItem_53 : decode cX9_takesItem 53 = .ok (.iconst 0, 1) := by decide +kernel
theorem dX9_takesItem_54 : decode cX9_takesItem 54 = .ok (.ireturn, 1) := by decide +kernel
theorem dX9_takesItem_55 : decode cX9_takesItem 55 = .ok (.aload_n 0, 1) := by decide +kernel
theorem dX9_takesItem_56 : decode cX9_takesItem 56 = .ok (.getfield 44, 3) := by decide +kernel
theorem dX9_takesItem_59 : decode cX9_takesItem 59 = .ok (.ifCond .eq 15, 3) := by decide +kernel
theorem dX9_takesItem_62 : decode cX9_takesItem 62 = .ok (.aload_n 0, 1) := by decide +kernel
theorem dX9_takesItem_63 : decode cX9_takesItem 63 = .ok (.iconst 0, 1) := by decide +kernel
theorem dX9_takesItem_64 : decode cX9_takesItem 64 = .ok (.iconst 5, 1) := by decide +kernel
theorem dX9_takesItem_65 : decode cX9_takesItem 65 = .ok (.invokevirtual 49, 3) := by decide +kernel
theorem dX9_takesItem_68 : decode cX9_takesItem 68 = .ok (.ifCond .ne 18, 3) := by decide +kernel
theorem dX9_takesItem_71 : decode cX9_takesItem 71 = .ok (.goto 13, 3) := by decide +kernel
theorem dX9_takesItem_74 : decode cX9_takesItem 74 = .ok (.aload_n 0, 1) := by decide +kernel
theorem dX9_takesItem_75 : decode cX9_takesItem 75 = .ok (.iconst 1, 1) := by decide +kernel
theorem dX9_takesItem_76 : decode cX9_takesItem 76 = .ok (.bipush 99, 2) := by decide +kernel
theorem dX9_takesItem_78 : decode cX9_takesItem 78 = .ok (.invokevirtual 49, 3) := by decide +kernel
theorem dX9_takesItem_81 : decode cX9_takesItem 81 = .ok (.ifCond .ne 5, 3) := by decide +kernel
theorem dX9_takesItem_84 : decode cX9_takesItem 84 = .ok (.iconst 0, 1) := by decide +kernel
theorem dX9_takesItem_85 : decode cX9_takesItem 85 = .ok (.ireturn, 1) := by decide +kernel
theorem dX9_takesItem_86 : decode cX9_takesItem 86 = .ok (.aload_n 0, 1) := by decide +kernel
theorem dX9_takesItem_87 : decode cX9_takesItem 87 = .ok (.aload_n 0, 1) := by decide +kernel
theorem dX9_takesItem_88 : decode cX9_takesItem 88 = .ok (.getfield 53, 3) := by decide +kernel
theorem dX9_takesItem_91 : decode cX9_takesItem 91 = .ok (.putfield 56, 3) := by decide +kernel
theorem dX9_takesItem_94 : decode cX9_takesItem 94 = .ok (.aload_n 0, 1) := by decide +kernel
theorem dX9_takesItem_95 : decode cX9_takesItem 95 = .ok (.iconst 0, 1) := by decide +kernel
theorem dX9_takesItem_96 : decode cX9_takesItem 96 = .ok (.aload_n 0, 1) := by decide +kernel
theorem dX9_takesItem_97 : decode cX9_takesItem 97 = .ok (.getfield 44, 3) := by decide +kernel
theorem dX9_takesItem_100 : decode cX9_takesItem 100 = .ok (.ifCond .eq 8, 3) := by decide +kernel
theorem dX9_takesItem_103 : decode cX9_takesItem 103 = .ok (.bipush 99, 2) := by decide +kernel
theorem dX9_takesItem_105 : decode cX9_takesItem 105 = .ok (.goto 4, 3) := by decide +kernel
theorem dX9_takesItem_108 : decode cX9_takesItem 108 = .ok (.iconst 2, 1) := by decide +kernel
theorem dX9_takesItem_109 : decode cX9_takesItem 109 = .ok (.invokevirtual 49, 3) := by decide +kernel
theorem dX9_takesItem_112 : decode cX9_takesItem 112 = .ok (.ifCond .ne 5, 3) := by decide +kernel
theorem dX9_takesItem_115 : decode cX9_takesItem 115 = .ok (.iconst 0, 1) := by decide +kernel
theorem dX9_takesItem_116 : decode cX9_takesItem 116 = .ok (.ireturn, 1) := by decide +kernel
theorem dX9_takesItem_117 : decode cX9_takesItem 117 = .ok (.aload_n 0, 1) := by decide +kernel
theorem dX9_takesItem_118 : decode cX9_takesItem 118 = .ok (.aload_n 0, 1) := by decide +kernel
theorem dX9_takesItem_119 : decode cX9_takesItem 119 = .ok (.getfield 53, 3) := by decide +kernel
theorem dX9_takesItem_122 : decode cX9_takesItem 122 = .ok (.putfield 59, 3) := by decide +kernel
theorem dX9_takesItem_125 : decode cX9_takesItem 125 = .ok (.aload_n 0, 1) := by decide +kernel
theorem dX9_takesItem_126 : decode cX9_takesItem 126 = .ok (.invokevirtual 35, 3) := by decide +kernel
theorem dX9_takesItem_129 : decode cX9_takesItem 129 = .ok (.ireturn, 1) := by decide +kernel
theorem dX9_takesNumber_0 : decode cX9_takesNumber 0 = .ok (.aload_n 0, 1) := by decide +kernel
theorem dX9_takesNumber_1 : decode cX9_takesNumber 1 = .ok (.invokevirtual 26, 3) := by decide +kernel
theorem dX9_takesNumber_4 : decode cX9_takesNumber 4 = .ok (.aload_n 0, 1) := by decide +kernel
theorem dX9_takesNumber_5 : decode cX9_takesNumber 5 = .ok (.getfield 39, 3) := by decide +kernel
theorem dX9_takesNumber_8 : decode cX9_takesNumber 8 = .ok (.iconst 2, 1) := by decide +kernel
theorem dX9_takesNumber_9 : decode cX9_takesNumber 9 = .ok (.if_icmp .ne 23, 3) := by decide +kernel
theorem dX9_takesNumber_12 : decode cX9_takesNumber 12 = .ok (.aload_n 0, 1) := by decide +kernel
theorem dX9_takesNumber_13 : decode cX9_takesNumber 13 = .ok (.getfield 53, 3) := by decide +kernel
theorem dX9_takesNumber_16 : decode cX9_takesNumber 16 = .ok (.iload_n 1, 1) := by decide +kernel
theorem dX9_takesNumber_17 : decode cX9_takesNumber 17 = .ok (.if_icmp .lt 15, 3) := by decide +kernel
theorem dX9_takesNumber_20 : decode cX9_takesNumber 20 = .ok (.aload_n 0, 1) := by decide +kernel
theorem dX9_takesNumber_21 : decode cX9_takesNumber 21 = .ok (.getfield 53, 3) := by decide +kernel
theorem dX9_takesNumber_24 : decode cX9_takesNumber 24 = .ok (.iload_n 2, 1) := by decide +kernel
theorem dX9_takesNumber_25 : decode cX9_takesNumber 25 = .ok (.if_icmp .gt 7, 3) := by decide +kernel
theorem dX9_takesNumber_28 : decode cX9_takesNumber 28 = .ok (.iconst 1, 1) := by decide +kernel
theorem dX9_takesNumber_29 : decode cX9_takesNumber 29 = .ok (.goto 4, 3) := by decide +kernel
theorem dX9_takesNumber_32 : decode cX9_takesNumber 32 = .ok (.iconst 0, 1) := by decide +kernel
theorem dX9_takesNumber_33 : decode cX9_takesNumber 33 = .ok (.ireturn, 1) := by decide +kernel
theorem dX9_takesStop_0 : decode cX9_takesStop 0 = .ok (.aload_n 0, 1) := by decide +kernel
theorem dX9_takesStop_1 : decode cX9_takesStop 1 = .ok (.invokevirtual 26, 3) := by decide +kernel
theorem dX9_takesStop_4 : decode cX9_takesStop 4 = .ok (.aload_n 0, 1) := by decide +kernel
theorem dX9_takesStop_5 : decode cX9_takesStop 5 = .ok (.getfield 39, 3) := by decide +kernel
theorem dX9_takesStop_8 : decode cX9_takesStop 8 = .ok (.iconst 3, 1) := by decide +kernel
theorem dX9_takesStop_9 : decode cX9_takesStop 9 = .ok (.if_icmp .ne 7, 3) := by decide +kernel
theorem dX9_takesStop_12 : decode cX9_takesStop 12 = .ok (.iconst 1, 1) := by decide +kernel
theorem dX9_takesStop_13 : decode cX9_takesStop 13 = .ok (.goto 4, 3) := by decide +kernel
theorem dX9_takesStop_16 : decode cX9_takesStop 16 = .ok (.iconst 0, 1) := by decide +kernel
theorem dX9_takesStop_17 : decode cX9_takesStop 17 = .ok (.ireturn, 1) := by decide +kernel
theorem dX9_advance_0 : decode cX9_advance 0 = .ok (.aload_n 0, 1) := by decide +kernel
theorem dX9_advance_1 : decode cX9_advance 1 = .ok (.aload_n 0, 1) := by decide +kernel
theorem dX9_advance_2 : decode cX9_advance 2 = .ok (.aload_n 0, 1) := by decide +kernel
theorem dX9_advance_3 : decode cX9_advance 3 = .ok (.getfield 19, 3) := by decide +kernel
theorem dX9_advance_6 : decode cX9_advance 6 = .ok (.bipush 32, 2) := by decide +kernel
theorem dX9_advance_8 : decode cX9_advance 8 = .ok (.bipush 32, 2) := by decide +kernel
theorem dX9_advance_10 : decode cX9_advance 10 = .ok (.invokevirtual 62, 3) := by decide +kernel
theorem dX9_advance_13 : decode cX9_advance 13 = .ok (.putfield 66, 3) := by decide +kernel
theorem dX9_advance_16 : decode cX9_advance 16 = .ok (.aload_n 0, 1) := by decide +kernel
theorem dX9_advance_17 : decode cX9_advance 17 = .ok (.aload_n 0, 1) := by decide +kernel
theorem dX9_advance_18 : decode cX9_advance 18 = .ok (.getfield 66, 3) := by decide +kernel
theorem dX9_advance_21 : decode cX9_advance 21 = .ok (.putfield 19, 3) := by decide +kernel
theorem dX9_advance_24 : decode cX9_advance 24 = .ok (.aload_n 0, 1) := by decide +kernel
theorem dX9_advance_25 : decode cX9_advance 25 = .ok (.getfield 66, 3) := by decide +kernel
theorem dX9_advance_28 : decode cX9_advance 28 = .ok (.aload_n 0, 1) := by decide +kernel
theorem dX9_advance_29 : decode cX9_advance 29 = .ok (.getfield 15, 3) := by decide +kernel
theorem dX9_advance_32 : decode cX9_advance 32 = .ok (.if_icmp .lt 11, 3) := by decide +kernel
theorem dX9_advance_35 : decode cX9_advance 35 = .ok (.aload_n 0, 1) := by decide +kernel
theorem dX9_advance_36 : decode cX9_advance 36 = .ok (.iconst 0, 1) := by decide +kernel
theorem dX9_advance_37 : decode cX9_advance 37 = .ok (.putfield 39, 3) := by decide +kernel
theorem dX9_advance_40 : decode cX9_advance 40 = .ok (.goto 139, 3) := by decide +kernel
theorem dX9_advance_43 : decode cX9_advance 43 = .ok (.aload_n 0, 1) := by decide +kernel
theorem dX9_advance_44 : decode cX9_advance 44 = .ok (.aload_n 0, 1) := by decide +kernel
theorem dX9_advance_45 : decode cX9_advance 45 = .ok (.getfield 66, 3) := by decide +kernel
theorem dX9_advance_48 : decode cX9_advance 48 = .ok (.bipush 97, 2) := by decide +kernel
theorem dX9_advance_50 : decode cX9_advance 50 = .ok (.bipush 122, 2) := by decide +kernel
theorem dX9_advance_52 : decode cX9_advance 52 = .ok (.invokevirtual 69, 3) := by decide +kernel
theorem dX9_advance_55 : decode cX9_advance 55 = .ok (.ifCond .eq 27, 3) := by decide +kernel
theorem dX9_advance_58 : decode cX9_advance 58 = .ok (.aload_n 0, 1) := by decide +kernel
theorem dX9_advance_59 : decode cX9_advance 59 = .ok (.iconst 1, 1) := by decide +kernel
theorem dX9_advance_60 : decode cX9_advance 60 = .ok (.putfield 39, 3) := by decide +kernel
theorem dX9_advance_63 : decode cX9_advance 63 = .ok (.aload_n 0, 1) := by decide +kernel
theorem dX9_advance_64 : decode cX9_advance 64 = .ok (.aload_n 0, 1) := by decide +kernel
theorem dX9_advance_65 : decode cX9_advance 65 = .ok (.aload_n 0, 1) := by decide +kernel
theorem dX9_advance_66 : decode cX9_advance 66 = .ok (.getfield 66, 3) := by decide +kernel
theorem dX9_advance_69 : decode cX9_advance 69 = .ok (.bipush 97, 2) := by decide +kernel
theorem dX9_advance_71 : decode cX9_advance 71 = .ok (.bipush 122, 2) := by decide +kernel
theorem dX9_advance_73 : decode cX9_advance 73 = .ok (.invokevirtual 62, 3) := by decide +kernel
theorem dX9_advance_76 : decode cX9_advance 76 = .ok (.putfield 19, 3) := by decide +kernel
theorem dX9_advance_79 : decode cX9_advance 79 = .ok (.goto 100, 3) := by decide +kernel
theorem dX9_advance_82 : decode cX9_advance 82 = .ok (.aload_n 0, 1) := by decide +kernel
theorem dX9_advance_83 : decode cX9_advance 83 = .ok (.aload_n 0, 1) := by decide +kernel
theorem dX9_advance_84 : decode cX9_advance 84 = .ok (.getfield 66, 3) := by decide +kernel
theorem dX9_advance_87 : decode cX9_advance 87 = .ok (.bipush 48, 2) := by decide +kernel
theorem dX9_advance_89 : decode cX9_advance 89 = .ok (.bipush 57, 2) := by decide +kernel
theorem dX9_advance_91 : decode cX9_advance 91 = .ok (.invokevirtual 69, 3) := by decide +kernel
theorem dX9_advance_94 : decode cX9_advance 94 = .ok (.ifCond .eq 52, 3) := by decide +kernel
theorem dX9_advance_97 : decode cX9_advance 97 = .ok (.aload_n 0, 1) := by decide +kernel
theorem dX9_advance_98 : decode cX9_advance 98 = .ok (.aload_n 0, 1) := by decide +kernel
theorem dX9_advance_99 : decode cX9_advance 99 = .ok (.aload_n 0, 1) := by decide +kernel
theorem dX9_advance_100 : decode cX9_advance 100 = .ok (.getfield 66, 3) := by decide +kernel
theorem dX9_advance_103 : decode cX9_advance 103 = .ok (.bipush 48, 2) := by decide +kernel
theorem dX9_advance_105 : decode cX9_advance 105 = .ok (.bipush 57, 2) := by decide +kernel
theorem dX9_advance_107 : decode cX9_advance 107 = .ok (.invokevirtual 62, 3) := by decide +kernel
theorem dX9_advance_110 : decode cX9_advance 110 = .ok (.putfield 19, 3) := by decide +kernel
theorem dX9_advance_113 : decode cX9_advance 113 = .ok (.aload_n 0, 1) := by decide +kernel
theorem dX9_advance_114 : decode cX9_advance 114 = .ok (.aload_n 0, 1) := by decide +kernel
theorem dX9_advance_115 : decode cX9_advance 115 = .ok (.getfield 19, 3) := by decide +kernel
theorem dX9_advance_118 : decode cX9_advance 118 = .ok (.aload_n 0, 1) := by decide +kernel
theorem dX9_advance_119 : decode cX9_advance 119 = .ok (.getfield 66, 3) := by decide +kernel
theorem dX9_advance_122 : decode cX9_advance 122 = .ok (.isub, 1) := by decide +kernel
theorem dX9_advance_123 : decode cX9_advance 123 = .ok (.iconst 2, 1) := by decide +kernel
theorem dX9_advance_124 : decode cX9_advance 124 = .ok (.if_icmp .gt 7, 3) := by decide +kernel
theorem dX9_advance_127 : decode cX9_advance 127 = .ok (.iconst 2, 1) := by decide +kernel
theorem dX9_advance_128 : decode cX9_advance 128 = .ok (.goto 4, 3) := by decide +kernel
theorem dX9_advance_131 : decode cX9_advance 131 = .ok (.iconst 4, 1) := by decide +kernel
theorem dX9_advance_132 : decode cX9_advance 132 = .ok (.putfield 39, 3) := by decide +kernel
theorem dX9_advance_135 : decode cX9_advance 135 = .ok (.aload_n 0, 1) := by decide +kernel
theorem dX9_advance_136 : decode cX9_advance 136 = .ok (.aload_n 0, 1) := by decide +kernel
theorem dX9_advance_137 : decode cX9_advance 137 = .ok (.invokevirtual 73, 3) := by decide +kernel
theorem dX9_advance_140 : decode cX9_advance 140 = .ok (.putfield 53, 3) := by decide +kernel
theorem dX9_advance_143 : decode cX9_advance 143 = .ok (.goto 36, 3) := by decide +kernel
theorem dX9_advance_146 : decode cX9_advance 146 = .ok (.aload_n 0, 1) := by decide +kernel
theorem dX9_advance_147 : decode cX9_advance 147 = .ok (.aload_n 0, 1) := by decide +kernel
theorem dX9_advance_148 : decode cX9_advance 148 = .ok (.getfield 9, 3) := by decide +kernel
theorem dX9_advance_151 : decode cX9_advance 151 = .ok (.aload_n 0, 1) := by decide +kernel
theorem dX9_advance_152 : decode cX9_advance 152 = .ok (.getfield 66, 3) := by decide +kernel
theorem dX9_advance_155 : decode cX9_advance 155 = .ok (.baload, 1) := by decide +kernel
theorem dX9_advance_156 : decode cX9_advance 156 = .ok (.bipush 59, 2) := by decide +kernel
theorem dX9_advance_158 : decode cX9_advance 158 = .ok (.if_icmp .ne 7, 3) := by decide +kernel
theorem dX9_advance_161 : decode cX9_advance 161 = .ok (.iconst 3, 1) := by decide +kernel
theorem dX9_advance_162 : decode cX9_advance 162 = .ok (.goto 4, 3) := by decide +kernel
theorem dX9_advance_165 : decode cX9_advance 165 = .ok (.iconst 4, 1) := by decide +kernel
theorem dX9_advance_166 : decode cX9_advance 166 = .ok (.putfield 39, 3) := by decide +kernel
theorem dX9_advance_169 : decode cX9_advance 169 = .ok (.aload_n 0, 1) := by decide +kernel
theorem dX9_advance_170 : decode cX9_advance 170 = .ok (.aload_n 0, 1) := by decide +kernel
theorem dX9_advance_171 : decode cX9_advance 171 = .ok (.getfield 66, 3) := by decide +kernel
theorem dX9_advance_174 : decode cX9_advance 174 = .ok (.iconst 1, 1) := by decide +kernel
theorem dX9_advance_175 : decode cX9_advance 175 = .ok (.iadd, 1) := by decide +kernel
theorem dX9_advance_176 : decode cX9_advance 176 = .ok (.putfield 19, 3) := by decide +kernel
theorem dX9_advance_179 : decode cX9_advance 179 = .ok (.return_, 1) := by decide +kernel
theorem dX9_isBetween_0 : decode cX9_isBetween 0 = .ok (.iload_n 1, 1) := by decide +kernel
theorem dX9_isBetween_1 : decode cX9_isBetween 1 = .ok (.ifCond .lt 35, 3) := by decide +kernel
theorem dX9_isBetween_4 : decode cX9_isBetween 4 = .ok (.iload_n 1, 1) := by decide +kernel
theorem dX9_isBetween_5 : decode cX9_isBetween 5 = .ok (.aload_n 0, 1) := by decide +kernel
theorem dX9_isBetween_6 : decode cX9_isBetween 6 = .ok (.getfield 15, 3) := by decide +kernel
theorem dX9_isBetween_9 : decode cX9_isBetween 9 = .ok (.if_icmp .ge 27, 3) := by decide +kernel
theorem dX9_isBetween_12 : decode cX9_isBetween 12 = .ok (.aload_n 0, 1) := by decide +kernel
theorem dX9_isBetween_13 : decode cX9_isBetween 13 = .ok (.getfield 9, 3) := by decide +kernel
theorem dX9_isBetween_16 : decode cX9_isBetween 16 = .ok (.iload_n 1, 1) := by decide +kernel
theorem dX9_isBetween_17 : decode cX9_isBetween 17 = .ok (.baload, 1) := by decide +kernel
theorem dX9_isBetween_18 : decode cX9_isBetween 18 = .ok (.iload_n 2, 1) := by decide +kernel
theorem dX9_isBetween_19 : decode cX9_isBetween 19 = .ok (.if_icmp .lt 17, 3) := by decide +kernel
theorem dX9_isBetween_22 : decode cX9_isBetween 22 = .ok (.aload_n 0, 1) := by decide +kernel
theorem dX9_isBetween_23 : decode cX9_isBetween 23 = .ok (.getfield 9, 3) := by decide +kernel
theorem dX9_isBetween_26 : decode cX9_isBetween 26 = .ok (.iload_n 1, 1) := by decide +kernel
theorem dX9_isBetween_27 : decode cX9_isBetween 27 = .ok (.baload, 1) := by decide +kernel
theorem dX9_isBetween_28 : decode cX9_isBetween 28 = .ok (.iload_n 3, 1) := by decide +kernel
theorem dX9_isBetween_29 : decode cX9_isBetween 29 = .ok (.if_icmp .gt 7, 3) := by decide +kernel
theorem dX9_isBetween_32 : decode cX9_isBetween 32 = .ok (.iconst 1, 1) := by decide +kernel
theorem dX9_isBetween_33 : decode cX9_isBetween 33 = .ok (.goto 4, 3) := by decide +kernel
theorem dX9_isBetween_36 : decode cX9_isBetween 36 = .ok (.iconst 0, 1) := by decide +kernel
theorem dX9_isBetween_37 : decode cX9_isBetween 37 = .ok (.ireturn, 1) := by decide +kernel
theorem dX9_runEnd_0 : decode cX9_runEnd 0 = .ok (.iload_n 1, 1) := by decide +kernel
theorem dX9_runEnd_1 : decode cX9_runEnd 1 = .ok (.istore 4, 2) := by decide +kernel
theorem dX9_runEnd_3 : decode cX9_runEnd 3 = .ok (.iload 4, 2) := by decide +kernel
theorem dX9_runEnd_5 : decode cX9_runEnd 5 = .ok (.aload_n 0, 1) := by decide +kernel
theorem dX9_runEnd_6 : decode cX9_runEnd 6 = .ok (.getfield 15, 3) := by decide +kernel
theorem dX9_runEnd_9 : decode cX9_runEnd 9 = .ok (.if_icmp .ge 20, 3) := by decide +kernel
theorem dX9_runEnd_12 : decode cX9_runEnd 12 = .ok (.aload_n 0, 1) := by decide +kernel
theorem dX9_runEnd_13 : decode cX9_runEnd 13 = .ok (.iload 4, 2) := by decide +kernel
theorem dX9_runEnd_15 : decode cX9_runEnd 15 = .ok (.iload_n 2, 1) := by decide +kernel
theorem dX9_runEnd_16 : decode cX9_runEnd 16 = .ok (.iload_n 3, 1) := by decide +kernel
theorem dX9_runEnd_17 : decode cX9_runEnd 17 = .ok (.invokevirtual 69, 3) := by decide +kernel
theorem dX9_runEnd_20 : decode cX9_runEnd 20 = .ok (.ifCond .eq 9, 3) := by decide +kernel
theorem dX9_runEnd_23 : decode cX9_runEnd 23 = .ok (.iinc 4 1, 3) := by decide +kernel
theorem dX9_runEnd_26 : decode cX9_runEnd 26 = .ok (.goto (-23), 3) := by decide +kernel
theorem dX9_runEnd_29 : decode cX9_runEnd 29 = .ok (.iload 4, 2) := by decide +kernel
theorem dX9_runEnd_31 : decode cX9_runEnd 31 = .ok (.ireturn, 1) := by decide +kernel
theorem dX9_valueOfRun_0 : decode cX9_valueOfRun 0 = .ok (.iconst 0, 1) := by decide +kernel
theorem dX9_valueOfRun_1 : decode cX9_valueOfRun 1 = .ok (.istore_n 1, 1) := by decide +kernel
theorem dX9_valueOfRun_2 : decode cX9_valueOfRun 2 = .ok (.aload_n 0, 1) := by decide +kernel
theorem dX9_valueOfRun_3 : decode cX9_valueOfRun 3 = .ok (.getfield 66, 3) := by decide +kernel
theorem dX9_valueOfRun_6 : decode cX9_valueOfRun 6 = .ok (.istore_n 2, 1) := by decide +kernel
theorem dX9_valueOfRun_7 : decode cX9_valueOfRun 7 = .ok (.iload_n 2, 1) := by decide +kernel
theorem dX9_valueOfRun_8 : decode cX9_valueOfRun 8 = .ok (.aload_n 0, 1) := by decide +kernel
theorem dX9_valueOfRun_9 : decode cX9_valueOfRun 9 = .ok (.getfield 19, 3) := by decide +kernel
theorem dX9_valueOfRun_12 : decode cX9_valueOfRun 12 = .ok (.if_icmp .ge 34, 3) := by decide +kernel
theorem dX9_valueOfRun_15 : decode cX9_valueOfRun 15 = .ok (.iload_n 2, 1) := by decide +kernel
theorem dX9_valueOfRun_16 : decode cX9_valueOfRun 16 = .ok (.aload_n 0, 1) := by decide +kernel
theorem dX9_valueOfRun_17 : decode cX9_valueOfRun 17 = .ok (.getfield 66, 3) := by decide +kernel
theorem dX9_valueOfRun_20 : decode cX9_valueOfRun 20 = .ok (.iconst 2, 1) := by decide +kernel
theorem dX9_valueOfRun_21 : decode cX9_valueOfRun 21 = .ok (.iadd, 1) := by decide +kernel
theorem dX9_valueOfRun_22 : decode cX9_valueOfRun 22 = .ok (.if_icmp .ge 24, 3) := by decide +kernel
theorem dX9_valueOfRun_25 : decode cX9_valueOfRun 25 = .ok (.bipush 10, 2) := by decide +kernel
theorem dX9_valueOfRun_27 : decode cX9_valueOfRun 27 = .ok (.iload_n 1, 1) := by decide +kernel
theorem dX9_valueOfRun_28 : decode cX9_valueOfRun 28 = .ok (.imul, 1) := by decide +kernel
theorem dX9_valueOfRun_29 : decode cX9_valueOfRun 29 = .ok (.aload_n 0, 1) := by decide +kernel
theorem dX9_valueOfRun_30 : decode cX9_valueOfRun 30 = .ok (.getfield 9, 3) := by decide +kernel
theorem dX9_valueOfRun_33 : decode cX9_valueOfRun 33 = .ok (.iload_n 2, 1) := by decide +kernel
theorem dX9_valueOfRun_34 : decode cX9_valueOfRun 34 = .ok (.baload, 1) := by decide +kernel
theorem dX9_valueOfRun_35 : decode cX9_valueOfRun 35 = .ok (.iadd, 1) := by decide +kernel
theorem dX9_valueOfRun_36 : decode cX9_valueOfRun 36 = .ok (.bipush 48, 2) := by decide +kernel
theorem dX9_valueOfRun_38 : decode cX9_valueOfRun 38 = .ok (.isub, 1) := by decide +kernel
theorem dX9_valueOfRun_39 : decode cX9_valueOfRun 39 = .ok (.istore_n 1, 1) := by decide +kernel
theorem dX9_valueOfRun_40 : decode cX9_valueOfRun 40 = .ok (.iinc 2 1, 3) := by decide +kernel
theorem dX9_valueOfRun_43 : decode cX9_valueOfRun 43 = .ok (.goto (-36), 3) := by decide +kernel
theorem dX9_valueOfRun_46 : decode cX9_valueOfRun 46 = .ok (.iload_n 1, 1) := by decide +kernel
theorem dX9_valueOfRun_47 : decode cX9_valueOfRun 47 = .ok (.ireturn, 1) := by decide +kernel
theorem dX9_isWord_0 : decode cX9_isWord 0 = .ok (.aload_n 0, 1) := by decide +kernel
theorem dX9_isWord_1 : decode cX9_isWord 1 = .ok (.getfield 39, 3) := by decide +kernel
theorem dX9_isWord_4 : decode cX9_isWord 4 = .ok (.iconst 1, 1) := by decide +kernel
theorem dX9_isWord_5 : decode cX9_isWord 5 = .ok (.if_icmp .ne 19, 3) := by decide +kernel
theorem dX9_isWord_8 : decode cX9_isWord 8 = .ok (.aload_n 0, 1) := by decide +kernel
theorem dX9_isWord_9 : decode cX9_isWord 9 = .ok (.getfield 19, 3) := by decide +kernel
theorem dX9_isWord_12 : decode cX9_isWord 12 = .ok (.aload_n 0, 1) := by decide +kernel
theorem dX9_isWord_13 : decode cX9_isWord 13 = .ok (.getfield 66, 3) := by decide +kernel
theorem dX9_isWord_16 : decode cX9_isWord 16 = .ok (.isub, 1) := by decide +kernel
theorem dX9_isWord_17 : decode cX9_isWord 17 = .ok (.aload_n 1, 1) := by decide +kernel
theorem dX9_isWord_18 : decode cX9_isWord 18 = .ok (.invokevirtual 77, 3) := by decide +kernel
theorem dX9_isWord_21 : decode cX9_isWord 21 = .ok (.if_icmp .eq 5, 3) := by decide +kernel
theorem dX9_isWord_24 : decode cX9_isWord 24 = .ok (.iconst 0, 1) := by decide +kernel
theorem dX9_isWord_25 : decode cX9_isWord 25 = .ok (.ireturn, 1) := by decide +kernel
theorem dX9_isWord_26 : decode cX9_isWord 26 = .ok (.iconst 0, 1) := by decide +kernel
theorem dX9_isWord_27 : decode cX9_isWord 27 = .ok (.istore_n 2, 1) := by decide +kernel
theorem dX9_isWord_28 : decode cX9_isWord 28 = .ok (.iload_n 2, 1) := by decide +kernel
theorem dX9_isWord_29 : decode cX9_isWord 29 = .ok (.aload_n 1, 1) := by decide +kernel
theorem dX9_isWord_30 : decode cX9_isWord 30 = .ok (.invokevirtual 77, 3) := by decide +kernel
theorem dX9_isWord_33 : decode cX9_isWord 33 = .ok (.if_icmp .ge 30, 3) := by decide +kernel
theorem dX9_isWord_36 : decode cX9_isWord 36 = .ok (.aload_n 0, 1) := by decide +kernel
theorem dX9_isWord_37 : decode cX9_isWord 37 = .ok (.getfield 9, 3) := by decide +kernel
theorem dX9_isWord_40 : decode cX9_isWord 40 = .ok (.aload_n 0, 1) := by decide +kernel
theorem dX9_isWord_41 : decode cX9_isWord 41 = .ok (.getfield 66, 3) := by decide +kernel
theorem dX9_isWord_44 : decode cX9_isWord 44 = .ok (.iload_n 2, 1) := by decide +kernel
theorem dX9_isWord_45 : decode cX9_isWord 45 = .ok (.iadd, 1) := by decide +kernel
theorem dX9_isWord_46 : decode cX9_isWord 46 = .ok (.baload, 1) := by decide +kernel
theorem dX9_isWord_47 : decode cX9_isWord 47 = .ok (.aload_n 1, 1) := by decide +kernel
theorem dX9_isWord_48 : decode cX9_isWord 48 = .ok (.iload_n 2, 1) := by decide +kernel
theorem dX9_isWord_49 : decode cX9_isWord 49 = .ok (.invokevirtual 81, 3) := by decide +kernel
theorem dX9_isWord_52 : decode cX9_isWord 52 = .ok (.if_icmp .eq 5, 3) := by decide +kernel
theorem dX9_isWord_55 : decode cX9_isWord 55 = .ok (.iconst 0, 1) := by decide +kernel
theorem dX9_isWord_56 : decode cX9_isWord 56 = .ok (.ireturn, 1) := by decide +kernel
theorem dX9_isWord_57 : decode cX9_isWord 57 = .ok (.iinc 2 1, 3) := by decide +kernel
theorem dX9_isWord_60 : decode cX9_isWord 60 = .ok (.goto (-32), 3) := by decide +kernel
theorem dX9_isWord_63 : decode cX9_isWord 63 = .ok (.iconst 1, 1) := by decide +kernel
theorem dX9_isWord_64 : decode cX9_isWord 64 = .ok (.ireturn, 1) := by decide +kernel
theorem dX10_init_0 : decode cX10_init 0 = .ok (.aload_n 0, 1) := by decide +kernel
theorem dX10_init_1 : decode cX10_init 1 = .ok (.invokespecial 3, 3) := by decide +kernel
theorem dX10_init_4 : decode cX10_init 4 = .ok (.aload_n 0, 1) := by decide +kernel
theorem dX10_init_5 : decode cX10_init 5 = .ok (.new 9, 3) := by decide +kernel
theorem dX10_init_8 : decode cX10_init 8 = .ok (.dup, 1) := by decide +kernel
theorem dX10_init_9 : decode cX10_init 9 = .ok (.invokespecial 11, 3) := by decide +kernel
theorem dX10_init_12 : decode cX10_init 12 = .ok (.putfield 12, 3) := by decide +kernel
theorem dX10_init_15 : decode cX10_init 15 = .ok (.aload_n 0, 1) := by decide +kernel
theorem dX10_init_16 : decode cX10_init 16 = .ok (.new 9, 3) := by decide +kernel
theorem dX10_init_19 : decode cX10_init 19 = .ok (.dup, 1) := by decide +kernel
theorem dX10_init_20 : decode cX10_init 20 = .ok (.invokespecial 11, 3) := by decide +kernel
theorem dX10_init_23 : decode cX10_init 23 = .ok (.putfield 16, 3) := by decide +kernel
theorem dX10_init_26 : decode cX10_init 26 = .ok (.aload_n 0, 1) := by decide +kernel
theorem dX10_init_27 : decode cX10_init 27 = .ok (.iconst 2, 1) := by decide +kernel
theorem dX10_init_28 : decode cX10_init 28 = .ok (.anewarray 9, 3) := by decide +kernel
theorem dX10_init_31 : decode cX10_init 31 = .ok (.dup, 1) := by decide +kernel
theorem dX10_init_32 : decode cX10_init 32 = .ok (.iconst 0, 1) := by decide +kernel
theorem dX10_init_33 : decode cX10_init 33 = .ok (.new 9, 3) := by decide +kernel
theorem dX10_init_36 : decode cX10_init 36 = .ok (.dup, 1) := by decide +kernel
theorem dX10_init_37 : decode cX10_init 37 = .ok (.invokespecial 11, 3) := by decide +kernel
theorem dX10_init_40 : decode cX10_init 40 = .ok (.aastore, 1) := by decide +kernel
theorem dX10_init_41 : decode cX10_init 41 = .ok (.dup, 1) := by decide +kernel
theorem dX10_init_42 : decode cX10_init 42 = .ok (.iconst 1, 1) := by decide +kernel
theorem dX10_init_43 : decode cX10_init 43 = .ok (.new 9, 3) := by decide +kernel
theorem dX10_init_46 : decode cX10_init 46 = .ok (.dup, 1) := by decide +kernel
theorem dX10_init_47 : decode cX10_init 47 = .ok (.invokespecial 11, 3) := by decide +kernel
theorem dX10_init_50 : decode cX10_init 50 = .ok (.aastore, 1) := by decide +kernel
theorem dX10_init_51 : decode cX10_init 51 = .ok (.putfield 19, 3) := by decide +kernel
theorem dX10_init_54 : decode cX10_init 54 = .ok (.aload_n 0, 1) := by decide +kernel
theorem dX10_init_55 : decode cX10_init 55 = .ok (.iconst 2, 1) := by decide +kernel
theorem dX10_init_56 : decode cX10_init 56 = .ok (.newarray .boolean, 2) := by decide +kernel
theorem dX10_init_58 : decode cX10_init 58 = .ok (.putfield 23, 3) := by decide +kernel
theorem dX10_init_61 : decode cX10_init 61 = .ok (.aload_n 0, 1) := by decide +kernel
theorem dX10_init_62 : decode cX10_init 62 = .ok (.new 27, 3) := by decide +kernel
theorem dX10_init_65 : decode cX10_init 65 = .ok (.dup, 1) := by decide +kernel
theorem dX10_init_66 : decode cX10_init 66 = .ok (.invokespecial 29, 3) := by decide +kernel
theorem dX10_init_69 : decode cX10_init 69 = .ok (.putfield 30, 3) := by decide +kernel
theorem dX10_init_72 : decode cX10_init 72 = .ok (.aload_n 0, 1) := by decide +kernel
theorem dX10_init_73 : decode cX10_init 73 = .ok (.new 34, 3) := by decide +kernel
theorem dX10_init_76 : decode cX10_init 76 = .ok (.dup, 1) := by decide +kernel
theorem dX10_init_77 : decode cX10_init 77 = .ok (.invokespecial 36, 3) := by decide +kernel
theorem dX10_init_80 : decode cX10_init 80 = .ok (.putfield 37, 3) := by decide +kernel
theorem dX10_init_83 : decode cX10_init 83 = .ok (.aload_n 0, 1) := by decide +kernel
theorem dX10_init_84 : decode cX10_init 84 = .ok (.new 41, 3) := by decide +kernel
theorem dX10_init_87 : decode cX10_init 87 = .ok (.dup, 1) := by decide +kernel
theorem dX10_init_88 : decode cX10_init 88 = .ok (.invokespecial 43, 3) := by decide +kernel
theorem dX10_init_91 : decode cX10_init 91 = .ok (.putfield 44, 3) := by decide +kernel
theorem dX10_init_94 : decode cX10_init 94 = .ok (.aload_n 0, 1) := by decide +kernel
theorem dX10_init_95 : decode cX10_init 95 = .ok (.bipush 6, 2) := by decide +kernel
theorem dX10_init_97 : decode cX10_init 97 = .ok (.newarray .int, 2) := by decide +kernel
theorem dX10_init_99 : decode cX10_init 99 = .ok (.putfield 48, 3) := by decide +kernel
theorem dX10_init_102 : decode cX10_init 102 = .ok (.aload_n 0, 1) := by decide +kernel
theorem dX10_init_103 : decode cX10_init 103 = .ok (.iconst 3, 1) := by decide +kernel
theorem dX10_init_104 : decode cX10_init 104 = .ok (.newarray .int, 2) := by decide +kernel
theorem dX10_init_106 : decode cX10_init 106 = .ok (.putfield 52, 3) := by decide +kernel
theorem dX10_init_109 : decode cX10_init 109 = .ok (.aload_n 0, 1) := by decide +kernel
theorem dX10_init_110 : decode cX10_init 110 = .ok (.lconst 0, 1) := by decide +kernel
theorem dX10_init_111 : decode cX10_init 111 = .ok (.putfield 55, 3) := by decide +kernel
theorem dX10_init_114 : decode cX10_init 114 = .ok (.aload_n 0, 1) := by decide +kernel
theorem dX10_init_115 : decode cX10_init 115 = .ok (.lconst 1, 1) := by decide +kernel
theorem dX10_init_116 : decode cX10_init 116 = .ok (.putfield 59, 3) := by decide +kernel
theorem dX10_init_119 : decode cX10_init 119 = .ok (.return_, 1) := by decide +kernel
theorem dX10_rank_0 : decode cX10_rank 0 = .ok (.aload_n 0, 1) := by decide +kernel
theorem dX10_rank_1 : decode cX10_rank 1 = .ok (.getfield 12, 3) := by decide +kernel
theorem dX10_rank_4 : decode cX10_rank 4 = .ok (.getfield 62, 3) := by decide +kernel
theorem dX10_rank_7 : decode cX10_rank 7 = .ok (.istore_n 1, 1) := by decide +kernel
theorem dX10_rank_8 : decode cX10_rank 8 = .ok (.aload_n 0, 1) := by decide +kernel
theorem dX10_rank_9 : decode cX10_rank 9 = .ok (.getfield 12, 3) := by decide +kernel
theorem dX10_rank_12 : decode cX10_rank 12 = .ok (.invokevirtual 66, 3) := by decide +kernel
theorem dX10_rank_15 : decode cX10_rank 15 = .ok (.iload_n 1, 1) := by decide +kernel
theorem dX10_rank_16 : decode cX10_rank 16 = .ok (.ireturn, 1) := by decide +kernel
theorem dX10_driver_0 : decode cX10_driver 0 = .ok (.iload_n 1, 1) := by decide +kernel
theorem dX10_driver_1 : decode cX10_driver 1 = .ok (.iconst 0, 1) := by decide +kernel
theorem dX10_driver_2 : decode cX10_driver 2 = .ok (.iconst 5, 1) := by decide +kernel
theorem dX10_driver_3 : decode cX10_driver 3 = .ok (.invokestatic 69, 3) := by decide +kernel
theorem dX10_driver_6 : decode cX10_driver 6 = .ok (.ifCond .eq 13, 3) := by decide +kernel
theorem dX10_driver_9 : decode cX10_driver 9 = .ok (.iload_n 2, 1) := by decide +kernel
theorem dX10_driver_10 : decode cX10_driver 10 = .ok (.iconst 0, 1) := by decide +kernel
theorem dX10_driver_11 : decode cX10_driver 11 = .ok (.bipush 99, 2) := by decide +kernel
theorem dX10_driver_13 : decode cX10_driver 13 = .ok (.invokestatic 69, 3) := by decide +kernel
theorem dX10_driver_16 : decode cX10_driver 16 = .ok (.ifCond .ne 10, 3) := by decide +kernel
theorem dX10_driver_19 : decode cX10_driver 19 = .ok (.aload_n 0, 1) := by decide +kernel
theorem dX10_driver_20 : decode cX10_driver 20 = .ok (.bipush (-2), 2) := by decide +kernel
theorem dX10_driver_22 : decode cX10_driver 22 = .ok (.invokevirtual 73, 3) := by decide +kernel
theorem dX10_driver_25 : decode cX10_driver 25 = .ok (.ireturn, 1) := by decide +kernel
theorem dX10_driver_26 : decode cX10_driver 26 = .ok (.aload_n 0, 1) := by decide +kernel
theorem dX10_driver_27 : decode cX10_driver 27 = .ok (.aload_n 0, 1) := by decide +kernel
theorem dX10_driver_28 : decode cX10_driver 28 = .ok (.getfield 12, 3) := by decide +kernel
theorem dX10_driver_31 : decode cX10_driver 31 = .ok (.iload_n 1, 1) := by decide +kernel
theorem dX10_driver_32 : decode cX10_driver 32 = .ok (.iload_n 2, 1) := by decide +kernel
theorem dX10_driver_33 : decode cX10_driver 33 = .ok (.invokevirtual 77, 3) := by decide +kernel
theorem dX10_driver_36 : decode cX10_driver 36 = .ok (.invokevirtual 81, 3) := by decide +kernel
theorem dX10_driver_39 : decode cX10_driver 39 = .ok (.ireturn, 1) := by decide +kernel
theorem dX10_type_0 : decode cX10_type 0 = .ok (.iload_n 1, 1) := by decide +kernel
theorem dX10_type_1 : decode cX10_type 1 = .ok (.iconst 0, 1) := by decide +kernel
theorem dX10_type_2 : decode cX10_type 2 = .ok (.bipush 127, 2) := by decide +kernel
theorem dX10_type_4 : decode cX10_type 4 = .ok (.invokestatic 69, 3) := by decide +kernel
theorem dX10_type_7 : decode cX10_type 7 = .ok (.ifCond .ne 10, 3) := by decide +kernel
theorem dX10_type_10 : decode cX10_type 10 = .ok (.aload_n 0, 1) := by decide +kernel
theorem dX10_type_11 : decode cX10_type 11 = .ok (.bipush (-2), 2) := by decide +kernel
theorem dX10_type_13 : decode cX10_type 13 = .ok (.invokevirtual 73, 3) := by decide +kernel
theorem dX10_type_16 : decode cX10_type 16 = .ok (.ireturn, 1) := by decide +kernel
theorem dX10_type_17 : decode cX10_type 17 = .ok (.aload_n 0, 1) := by decide +kernel
theorem dX10_type_18 : decode cX10_type 18 = .ok (.aload_n 0, 1) := by decide +kernel
theorem dX10_type_19 : decode cX10_type 19 = .ok (.getfield 30, 3) := by decide +kernel
theorem dX10_type_22 : decode cX10_type 22 = .ok (.iload_n 1, 1) := by decide +kernel
theorem dX10_type_23 : decode cX10_type 23 = .ok (.invokevirtual 84, 3) := by decide +kernel
theorem dX10_type_26 : decode cX10_type 26 = .ok (.invokevirtual 81, 3) := by decide +kernel
theorem dX10_type_29 : decode cX10_type 29 = .ok (.ireturn, 1) := by decide +kernel
theorem dX10_clear_0 : decode cX10_clear 0 = .ok (.aload_n 0, 1) := by decide +kernel
theorem dX10_clear_1 : decode cX10_clear 1 = .ok (.getfield 30, 3) := by decide +kernel
theorem dX10_clear_4 : decode cX10_clear 4 = .ok (.getfield 87, 3) := by decide +kernel
theorem dX10_clear_7 : decode cX10_clear 7 = .ok (.istore_n 1, 1) := by decide +kernel
theorem dX10_clear_8 : decode cX10_clear 8 = .ok (.aload_n 0, 1) := by decide +kernel
theorem dX10_clear_9 : decode cX10_clear 9 = .ok (.getfield 30, 3) := by decide +kernel
theorem dX10_clear_12 : decode cX10_clear 12 = .ok (.iconst 0, 1) := by decide +kernel
theorem dX10_clear_13 : decode cX10_clear 13 = .ok (.putfield 87, 3) := by decide +kernel
theorem dX10_clear_16 : decode cX10_clear 16 = .ok (.iload_n 1, 1) := by decide +kernel
theorem dX10_clear_17 : decode cX10_clear 17 = .ok (.ireturn, 1) := by decide +kernel
theorem dX10_read_0 : decode cX10_read 0 = .ok (.aload_n 0, 1) := by decide +kernel
theorem dX10_read_1 : decode cX10_read 1 = .ok (.getfield 16, 3) := by decide +kernel
theorem dX10_read_4 : decode cX10_read 4 = .ok (.invokevirtual 66, 3) := by decide +kernel
theorem dX10_read_7 : decode cX10_read 7 = .ok (.aload_n 0, 1) := by decide +kernel
theorem dX10_read_8 : decode cX10_read 8 = .ok (.getfield 30, 3) := by decide +kernel
theorem dX10_read_11 : decode cX10_read 11 = .ok (.invokevirtual 90, 3) := by decide +kernel
theorem dX10_read_14 : decode cX10_read 14 = .ok (.ifCond .eq 7, 3) := by decide +kernel
theorem dX10_read_17 : decode cX10_read 17 = .ok (.iconst 1, 1) := by decide +kernel
theorem dX10_read_18 : decode cX10_read 18 = .ok (.goto 4, 3) := by decide +kernel
theorem dX10_read_21 : decode cX10_read 21 = .ok (.iconst 0, 1) := by decide +kernel
theorem dX10_read_22 : decode cX10_read 22 = .ok (.istore_n 1, 1) := by decide +kernel
theorem dX10_read_23 : decode cX10_read 23 = .ok (.iload_n 1, 1) := by decide +kernel
theorem dX10_read_24 : decode cX10_read 24 = .ok (.ifCond .le 91, 3) := by decide +kernel
theorem dX10_read_27 : decode cX10_read 27 = .ok (.iload_n 1, 1) := by decide +kernel
theorem dX10_read_28 : decode cX10_read 28 = .ok (.sipush 150, 3) := by decide +kernel
theorem dX10_read_31 : decode cX10_read 31 = .ok (.if_icmp .ge 84, 3) := by decide +kernel
theorem dX10_read_34 : decode cX10_read 34 = .ok (.aload_n 0, 1) := by decide +kernel
theorem dX10_read_35 : decode cX10_read 35 = .ok (.getfield 30, 3) := by decide +kernel
theorem dX10_read_38 : decode cX10_read 38 = .ok (.aload_n 0, 1) := by decide +kernel
theorem dX10_read_39 : decode cX10_read 39 = .ok (.getfield 16, 3) := by decide +kernel
theorem dX10_read_42 : decode cX10_read 42 = .ok (.invokevirtual 94, 3) := by decide +kernel
theorem dX10_read_45 : decode cX10_read 45 = .ok (.invokevirtual 97, 3) := by decide +kernel
theorem dX10_read_48 : decode cX10_read 48 = .ok (.ifCond .eq 67, 3) := by decide +kernel
theorem dX10_read_51 : decode cX10_read 51 = .ok (.iinc 1 1, 3) := by decide +kernel
theorem dX10_read_54 : decode cX10_read 54 = .ok (.aload_n 0, 1) := by decide +kernel
theorem dX10_read_55 : decode cX10_read 55 = .ok (.getfield 30, 3) := by decide +kernel
theorem dX10_read_58 : decode cX10_read 58 = .ok (.getfield 101, 3) := by decide +kernel
theorem dX10_read_61 : decode cX10_read 61 = .ok (.ifCond .eq 28, 3) := by decide +kernel
theorem dX10_read_64 : decode cX10_read 64 = .ok (.aload_n 0, 1) := by decide +kernel
theorem dX10_read_65 : decode cX10_read 65 = .ok (.getfield 16, 3) := by decide +kernel
theorem dX10_read_68 : decode cX10_read 68 = .ok (.aload_n 0, 1) := by decide +kernel
theorem dX10_read_69 : decode cX10_read 69 = .ok (.getfield 30, 3) := by decide +kernel
theorem dX10_read_72 : decode cX10_read 72 = .ok (.getfield 105, 3) := by decide +kernel
theorem dX10_read_75 : decode cX10_read 75 = .ok (.aload_n 0, 1) := by decide +kernel
theorem dX10_read_76 : decode cX10_read 76 = .ok (.getfield 30, 3) := by decide +kernel
theorem dX10_read_79 : decode cX10_read 79 = .ok (.getfield 108, 3) := by decide +kernel
theorem dX10_read_82 : decode cX10_read 82 = .ok (.invokevirtual 77, 3) := by decide +kernel
theorem dX10_read_85 : decode cX10_read 85 = .ok (.pop, 1) := by decide +kernel
theorem dX10_read_86 : decode cX10_read 86 = .ok (.goto (-63), 3) := by decide +kernel
theorem dX10_read_89 : decode cX10_read 89 = .ok (.aload_n 0, 1) := by decide +kernel
theorem dX10_read_90 : decode cX10_read 90 = .ok (.getfield 16, 3) := by decide +kernel
theorem dX10_read_93 : decode cX10_read 93 = .ok (.aload_n 0, 1) := by decide +kernel
theorem dX10_read_94 : decode cX10_read 94 = .ok (.getfield 30, 3) := by decide +kernel
theorem dX10_read_97 : decode cX10_read 97 = .ok (.getfield 105, 3) := by decide +kernel
theorem dX10_read_100 : decode cX10_read 100 = .ok (.iconst (-1), 1) := by decide +kernel
theorem dX10_read_101 : decode cX10_read 101 = .ok (.aload_n 0, 1) := by decide +kernel
theorem dX10_read_102 : decode cX10_read 102 = .ok (.getfield 30, 3) := by decide +kernel
theorem dX10_read_105 : decode cX10_read 105 = .ok (.getfield 108, 3) := by decide +kernel
theorem dX10_read_108 : decode cX10_read 108 = .ok (.invokevirtual 111, 3) := by decide +kernel
theorem dX10_read_111 : decode cX10_read 111 = .ok (.pop, 1) := by decide +kernel
theorem dX10_read_112 : decode cX10_read 112 = .ok (.goto (-89), 3) := by decide +kernel
theorem dX10_read_115 : decode cX10_read 115 = .ok (.aload_n 0, 1) := by decide +kernel
theorem dX10_read_116 : decode cX10_read 116 = .ok (.getfield 30, 3) := by decide +kernel
theorem dX10_read_119 : decode cX10_read 119 = .ok (.getfield 115, 3) := by decide +kernel
theorem dX10_read_122 : decode cX10_read 122 = .ok (.ifCond .ne 14, 3) := by decide +kernel
theorem dX10_read_125 : decode cX10_read 125 = .ok (.bipush (-10), 2) := by decide +kernel
theorem dX10_read_127 : decode cX10_read 127 = .ok (.aload_n 0, 1) := by decide +kernel
theorem dX10_read_128 : decode cX10_read 128 = .ok (.getfield 30, 3) := by decide +kernel
theorem dX10_read_131 : decode cX10_read 131 = .ok (.getfield 118, 3) := by decide +kernel
theorem dX10_read_134 : decode cX10_read 134 = .ok (.isub, 1) := by decide +kernel
theorem dX10_read_135 : decode cX10_read 135 = .ok (.ireturn, 1) := by decide +kernel
theorem dX10_read_136 : decode cX10_read 136 = .ok (.aload_n 0, 1) := by decide +kernel
theorem dX10_read_137 : decode cX10_read 137 = .ok (.getfield 12, 3) := by decide +kernel
theorem dX10_read_140 : decode cX10_read 140 = .ok (.aload_n 0, 1) := by decide +kernel
theorem dX10_read_141 : decode cX10_read 141 = .ok (.getfield 16, 3) := by decide +kernel
theorem dX10_read_144 : decode cX10_read 144 = .ok (.invokevirtual 121, 3) := by decide +kernel
theorem dX10_read_147 : decode cX10_read 147 = .ok (.iload_n 1, 1) := by decide +kernel
theorem dX10_read_148 : decode cX10_read 148 = .ok (.ireturn, 1) := by decide +kernel
theorem dX10_days_0 : decode cX10_days 0 = .ok (.iload_n 1, 1) := by decide +kernel
theorem dX10_days_1 : decode cX10_days 1 = .ok (.iconst 1, 1) := by decide +kernel
theorem dX10_days_2 : decode cX10_days 2 = .ok (.bipush 99, 2) := by decide +kernel
theorem dX10_days_4 : decode cX10_days 4 = .ok (.invokestatic 69, 3) := by decide +kernel
theorem dX10_days_7 : decode cX10_days 7 = .ok (.ifCond .eq 10, 3) := by decide +kernel
theorem dX10_days_10 : decode cX10_days 10 = .ok (.iload_n 2, 1) := by decide +kernel
theorem dX10_days_11 : decode cX10_days 11 = .ok (.invokestatic 125, 3) := by decide +kernel
theorem dX10_days_14 : decode cX10_days 14 = .ok (.ifCond .ne 10, 3) := by decide +kernel
theorem dX10_days_17 : decode cX10_days 17 = .ok (.aload_n 0, 1) := by decide +kernel
theorem dX10_days_18 : decode cX10_days 18 = .ok (.bipush (-2), 2) := by decide +kernel
theorem dX10_days_20 : decode cX10_days 20 = .ok (.invokevirtual 73, 3) := by decide +kernel
theorem dX10_days_23 : decode cX10_days 23 = .ok (.ireturn, 1) := by decide +kernel
theorem dX10_days_24 : decode cX10_days 24 = .ok (.aload_n 0, 1) := by decide +kernel
theorem dX10_days_25 : decode cX10_days 25 = .ok (.getfield 12, 3) := by decide +kernel
theorem dX10_days_28 : decode cX10_days 28 = .ok (.invokevirtual 129, 3) := by decide +kernel
theorem dX10_days_31 : decode cX10_days 31 = .ok (.aload_n 0, 1) := by decide +kernel
theorem dX10_days_32 : decode cX10_days 32 = .ok (.getfield 12, 3) := by decide +kernel
theorem dX10_days_35 : decode cX10_days 35 = .ok (.iload_n 1, 1) := by decide +kernel
theorem dX10_days_36 : decode cX10_days 36 = .ok (.iconst (-1), 1) := by decide +kernel
theorem dX10_days_37 : decode cX10_days 37 = .ok (.iload_n 2, 1) := by decide +kernel
theorem dX10_days_38 : decode cX10_days 38 = .ok (.invokevirtual 111, 3) := by decide +kernel
theorem dX10_days_41 : decode cX10_days 41 = .ok (.ireturn, 1) := by decide +kernel
theorem dX10_day_0 : decode cX10_day 0 = .ok (.aload_n 0, 1) := by decide +kernel
theorem dX10_day_1 : decode cX10_day 1 = .ok (.getfield 12, 3) := by decide +kernel
theorem dX10_day_4 : decode cX10_day 4 = .ok (.iload_n 1, 1) := by decide +kernel
theorem dX10_day_5 : decode cX10_day 5 = .ok (.invokevirtual 132, 3) := by decide +kernel
theorem dX10_day_8 : decode cX10_day 8 = .ok (.ifCond .eq 10, 3) := by decide +kernel
theorem dX10_day_11 : decode cX10_day 11 = .ok (.iload_n 2, 1) := by decide +kernel
theorem dX10_day_12 : decode cX10_day 12 = .ok (.invokestatic 125, 3) := by decide +kernel
theorem dX10_day_15 : decode cX10_day 15 = .ok (.ifCond .ne 10, 3) := by decide +kernel
theorem dX10_day_18 : decode cX10_day 18 = .ok (.aload_n 0, 1) := by decide +kernel
theorem dX10_day_19 : decode cX10_day 19 = .ok (.bipush (-2), 2) := by decide +kernel
theorem dX10_day_21 : decode cX10_day 21 = .ok (.invokevirtual 73, 3) := by decide +kernel
theorem dX10_day_24 : decode cX10_day 24 = .ok (.ireturn, 1) := by decide +kernel
theorem dX10_day_25 : decode cX10_day 25 = .ok (.aload_n 0, 1) := by decide +kernel
theorem dX10_day_26 : decode cX10_day 26 = .ok (.getfield 12, 3) := by decide +kernel
theorem dX10_day_29 : decode cX10_day 29 = .ok (.invokevirtual 129, 3) := by decide +kernel
theorem dX10_day_32 : decode cX10_day 32 = .ok (.aload_n 0, 1) := by decide +kernel
theorem dX10_day_33 : decode cX10_day 33 = .ok (.getfield 12, 3) := by decide +kernel
theorem dX10_day_36 : decode cX10_day 36 = .ok (.iconst 1, 1) := by decide +kernel
theorem dX10_day_37 : decode cX10_day 37 = .ok (.iload_n 1, 1) := by decide +kernel
theorem dX10_day_38 : decode cX10_day 38 = .ok (.iload_n 2, 1) := by decide +kernel
theorem dX10_day_39 : decode cX10_day 39 = .ok (.invokevirtual 111, 3) := by decide +kernel
theorem dX10_day_42 : decode cX10_day 42 = .ok (.ireturn, 1) := by decide +kernel
theorem dX10_undo_0 : decode cX10_undo 0 = .ok (.aload_n 0, 1) := by decide +kernel
theorem dX10_undo_1 : decode cX10_undo 1 = .ok (.getfield 12, 3) := by decide +kernel
theorem dX10_undo_4 : decode cX10_undo 4 = .ok (.getfield 135, 3) := by decide +kernel
theorem dX10_undo_7 : decode cX10_undo 7 = .ok (.ifCond .gt 10, 3) := by decide +kernel
theorem dX10_undo_10 : decode cX10_undo 10 = .ok (.aload_n 0, 1) := by decide +kernel
theorem dX10_undo_11 : decode cX10_undo 11 = .ok (.bipush (-3), 2) := by decide +kernel
theorem dX10_undo_13 : decode cX10_undo 13 = .ok (.invokevirtual 73, 3) := by decide +kernel
theorem dX10_undo_16 : decode cX10_undo 16 = .ok (.ireturn, 1) := by decide +kernel
theorem dX10_undo_17 : decode cX10_undo 17 = .ok (.aload_n 0, 1) := by decide +kernel
theorem dX10_undo_18 : decode cX10_undo 18 = .ok (.getfield 12, 3) := by decide +kernel
theorem dX10_undo_21 : decode cX10_undo 21 = .ok (.invokevirtual 138, 3) := by decide +kernel
theorem dX10_undo_24 : decode cX10_undo 24 = .ok (.aload_n 0, 1) := by decide +kernel
theorem dX10_undo_25 : decode cX10_undo 25 = .ok (.getfield 12, 3) := by decide +kernel
theorem dX10_undo_28 : decode cX10_undo 28 = .ok (.getfield 141, 3) := by decide +kernel
theorem dX10_undo_31 : decode cX10_undo 31 = .ok (.ireturn, 1) := by decide +kernel
theorem dX10_of_0 : decode cX10_of 0 = .ok (.aload_n 0, 1) := by decide +kernel
theorem dX10_of_1 : decode cX10_of 1 = .ok (.getfield 12, 3) := by decide +kernel
theorem dX10_of_4 : decode cX10_of 4 = .ok (.iload_n 1, 1) := by decide +kernel
theorem dX10_of_5 : decode cX10_of 5 = .ok (.invokevirtual 132, 3) := by decide +kernel
theorem dX10_of_8 : decode cX10_of 8 = .ok (.ifCond .ne 10, 3) := by decide +kernel
theorem dX10_of_11 : decode cX10_of 11 = .ok (.aload_n 0, 1) := by decide +kernel
theorem dX10_of_12 : decode cX10_of 12 = .ok (.bipush (-2), 2) := by decide +kernel
theorem dX10_of_14 : decode cX10_of 14 = .ok (.invokevirtual 73, 3) := by decide +kernel
theorem dX10_of_17 : decode cX10_of 17 = .ok (.ireturn, 1) := by decide +kernel
theorem dX10_of_18 : decode cX10_of 18 = .ok (.iload_n 2, 1) := by decide +kernel
theorem dX10_of_19 : decode cX10_of 19 = .ok (.tableswitch 55 0 2 #[25, 35, 45], 25) := by decide +kernel
theorem dX10_of_44 : decode cX10_of 44 = .ok (.aload_n 0, 1) := by decide +kernel
theorem dX10_of_45 : decode cX10_of 45 = .ok (.getfield 12, 3) := by decide +kernel
theorem dX10_of_48 : decode cX10_of 48 = .ok (.getfield 144, 3) := by decide +kernel
theorem dX10_of_51 : decode cX10_of 51 = .ok (.iload_n 1, 1) := by decide +kernel
theorem dX10_of_52 : decode cX10_of 52 = .ok (.iaload, 1) := by decide +kernel
theorem dX10_of_53 : decode cX10_of 53 = .ok (.ireturn, 1) := by decide +kernel
theorem dX10_of_54 : decode cX10_of 54 = .ok (.aload_n 0, 1) := by decide +kernel
theorem dX10_of_55 : decode cX10_of 55 = .ok (.getfield 12, 3) := by decide +kernel
theorem dX10_of_58 : decode cX10_of 58 = .ok (.getfield 147, 3) := by decide +kernel
theorem dX10_of_61 : decode cX10_of 61 = .ok (.iload_n 1, 1) := by decide +kernel
theorem dX10_of_62 : decode cX10_of 62 = .ok (.iaload, 1) := by decide +kernel
theorem dX10_of_63 : decode cX10_of 63 = .ok (.ireturn, 1) := by decide +kernel
theorem dX10_of_64 : decode cX10_of 64 = .ok (.aload_n 0, 1) := by decide +kernel
theorem dX10_of_65 : decode cX10_of 65 = .ok (.getfield 12, 3) := by decide +kernel
theorem dX10_of_68 : decode cX10_of 68 = .ok (.getfield 150, 3) := by decide +kernel
theorem dX10_of_71 : decode cX10_of 71 = .ok (.iload_n 1, 1) := by decide +kernel
theorem dX10_of_72 : decode cX10_of 72 = .ok (.iaload, 1) := by decide +kernel
theorem dX10_of_73 : decode cX10_of 73 = .ok (.ireturn, 1) := by decide +kernel
theorem dX10_of_74 : decode cX10_of 74 = .ok (.aload_n 0, 1) := by decide +kernel
theorem dX10_of_75 : decode cX10_of 75 = .ok (.bipush (-2), 2) := by decide +kernel
theorem dX10_of_77 : decode cX10_of 77 = .ok (.invokevirtual 73, 3) := by decide +kernel
theorem dX10_of_80 : decode cX10_of 80 = .ok (.ireturn, 1) := by decide +kernel
theorem dX10_today_0 : decode cX10_today 0 = .ok (.aload_n 0, 1) := by decide +kernel
theorem dX10_today_1 : decode cX10_today 1 = .ok (.getfield 12, 3) := by decide +kernel
theorem dX10_today_4 : decode cX10_today 4 = .ok (.iload_n 1, 1) := by decide +kernel
theorem dX10_today_5 : decode cX10_today 5 = .ok (.invokevirtual 132, 3) := by decide +kernel
theorem dX10_today_8 : decode cX10_today 8 = .ok (.ifCond .eq 15, 3) := by decide +kernel
theorem dX10_today_11 : decode cX10_today 11 = .ok (.iload_n 2, 1) := by decide +kernel
theorem dX10_today_12 : decode cX10_today 12 = .ok (.iconst (-1), 1) := by decide +kernel
theorem dX10_today_13 : decode cX10_today 13 = .ok (.if_icmp .eq 17, 3) := by decide +kernel
theorem dX10_today_16 : decode cX10_today 16 = .ok (.iload_n 2, 1) := by decide +kernel
theorem dX10_today_17 : decode cX10_today 17 = .ok (.invokestatic 125, 3) := by decide +kernel
theorem dX10_today_20 : decode cX10_today 20 = .ok (.ifCond .ne 10, 3) := by decide +kernel
theorem dX10_today_23 : decode cX10_today 23 = .ok (.aload_n 0, 1) := by decide +kernel
theorem dX10_today_24 : decode cX10_today 24 = .ok (.bipush (-2), 2) := by decide +kernel
theorem dX10_today_26 : decode cX10_today 26 = .ok (.invokevirtual 73, 3) := by decide +kernel
theorem dX10_today_29 : decode cX10_today 29 = .ok (.ireturn, 1) := by decide +kernel
theorem dX10_today_30 : decode cX10_today 30 = .ok (.aload_n 0, 1) := by decide +kernel
theorem dX10_today_31 : decode cX10_today 31 = .ok (.getfield 12, 3) := by decide +kernel
theorem dX10_today_34 : decode cX10_today 34 = .ok (.iload_n 1, 1) := by decide +kernel
theorem dX10_today_35 : decode cX10_today 35 = .ok (.invokevirtual 153, 3) := by decide +kernel
theorem dX10_today_38 : decode cX10_today 38 = .ok (.astore_n 3, 1) := by decide +kernel
theorem dX10_today_39 : decode cX10_today 39 = .ok (.aload_n 0, 1) := by decide +kernel
theorem dX10_today_40 : decode cX10_today 40 = .ok (.getfield 12, 3) := by decide +kernel
theorem dX10_today_43 : decode cX10_today 43 = .ok (.getfield 147, 3) := by decide +kernel
theorem dX10_today_46 : decode cX10_today 46 = .ok (.iload_n 1, 1) := by decide +kernel
theorem dX10_today_47 : decode cX10_today 47 = .ok (.iaload, 1) := by decide +kernel
theorem dX10_today_48 : decode cX10_today 48 = .ok (.istore 4, 2) := by decide +kernel
theorem dX10_today_50 : decode cX10_today 50 = .ok (.iload_n 2, 1) := by decide +kernel
theorem dX10_today_51 : decode cX10_today 51 = .ok (.iconst (-1), 1) := by decide +kernel
theorem dX10_today_52 : decode cX10_today 52 = .ok (.if_icmp .ne 22, 3) := by decide +kernel
theorem dX10_today_55 : decode cX10_today 55 = .ok (.aload_n 3, 1) := by decide +kernel
theorem dX10_today_56 : decode cX10_today 56 = .ok (.aload_n 0, 1) := by decide +kernel
theorem dX10_today_57 : decode cX10_today 57 = .ok (.getfield 12, 3) := by decide +kernel
theorem dX10_today_60 : decode cX10_today 60 = .ok (.getfield 141, 3) := by decide +kernel
theorem dX10_today_63 : decode cX10_today 63 = .ok (.invokestatic 157, 3) := by decide +kernel
theorem dX10_today_66 : decode cX10_today 66 = .ok (.iload 4, 2) := by decide +kernel
theorem dX10_today_68 : decode cX10_today 68 = .ok (.invokevirtual 160, 3) := by decide +kernel
theorem dX10_today_71 : decode cX10_today 71 = .ok (.goto 10, 3) := by decide +kernel
theorem dX10_today_74 : decode cX10_today 74 = .ok (.aload_n 3, 1) := by decide +kernel
theorem dX10_today_75 : decode cX10_today 75 = .ok (.iload_n 2, 1) := by decide +kernel
theorem dX10_today_76 : decode cX10_today 76 = .ok (.iload 4, 2) := by decide +kernel
theorem dX10_today_78 : decode cX10_today 78 = .ok (.invokevirtual 165, 3) := by decide +kernel
theorem dX10_today_81 : decode cX10_today 81 = .ok (.ireturn, 1) := by decide +kernel
theorem dX10_then_0 : decode cX10_then 0 = .ok (.aload_n 0, 1) := by decide +kernel
theorem dX10_then_1 : decode cX10_then 1 = .ok (.getfield 12, 3) := by decide +kernel
theorem dX10_then_4 : decode cX10_then 4 = .ok (.iload_n 1, 1) := by decide +kernel
theorem dX10_then_5 : decode cX10_then 5 = .ok (.invokevirtual 132, 3) := by decide +kernel
theorem dX10_then_8 : decode cX10_then 8 = .ok (.ifCond .eq 30, 3) := by decide +kernel
theorem dX10_then_11 : decode cX10_then 11 = .ok (.iload_n 2, 1) := by decide +kernel
theorem dX10_then_12 : decode cX10_then 12 = .ok (.iconst 0, 1) := by decide +kernel
theorem dX10_then_13 : decode cX10_then 13 = .ok (.bipush 99, 2) := by decide +kernel
theorem dX10_then_15 : decode cX10_then 15 = .ok (.invokestatic 69, 3) := by decide +kernel
theorem dX10_then_18 : decode cX10_then 18 = .ok (.ifCond .eq 20, 3) := by decide +kernel
theorem dX10_then_21 : decode cX10_then 21 = .ok (.iload_n 3, 1) := by decide +kernel
theorem dX10_then_22 : decode cX10_then 22 = .ok (.invokestatic 125, 3) := by decide +kernel
theorem dX10_then_25 : decode cX10_then 25 = .ok (.ifCond .eq 13, 3) := by decide +kernel
theorem dX10_then_28 : decode cX10_then 28 = .ok (.iload 4, 2) := by decide +kernel
theorem dX10_then_30 : decode cX10_then 30 = .ok (.iconst 0, 1) := by decide +kernel
theorem dX10_then_31 : decode cX10_then 31 = .ok (.iconst 1, 1) := by decide +kernel
theorem dX10_then_32 : decode cX10_then 32 = .ok (.invokestatic 69, 3) := by decide +kernel
theorem dX10_then_35 : decode cX10_then 35 = .ok (.ifCond .ne 10, 3) := by decide +kernel
theorem dX10_then_38 : decode cX10_then 38 = .ok (.aload_n 0, 1) := by decide +kernel
theorem dX10_then_39 : decode cX10_then 39 = .ok (.bipush (-2), 2) := by decide +kernel
theorem dX10_then_41 : decode cX10_then 41 = .ok (.invokevirtual 73, 3) := by decide +kernel
theorem dX10_then_44 : decode cX10_then 44 = .ok (.ireturn, 1) := by decide +kernel
theorem dX10_then_45 : decode cX10_then 45 = .ok (.aload_n 0, 1) := by decide +kernel
theorem dX10_then_46 : decode cX10_then 46 = .ok (.getfield 12, 3) := by decide +kernel
theorem dX10_then_49 : decode cX10_then 49 = .ok (.iload_n 1, 1) := by decide +kernel
theorem dX10_then_50 : decode cX10_then 50 = .ok (.invokevirtual 153, 3) := by decide +kernel
theorem dX10_then_53 : decode cX10_then 53 = .ok (.astore 5, 2) := by decide +kernel
theorem dX10_then_55 : decode cX10_then 55 = .ok (.aload_n 0, 1) := by decide +kernel
theorem dX10_then_56 : decode cX10_then 56 = .ok (.getfield 12, 3) := by decide +kernel
theorem dX10_then_59 : decode cX10_then 59 = .ok (.getfield 147, 3) := by decide +kernel
theorem dX10_then_62 : decode cX10_then 62 = .ok (.iload_n 1, 1) := by decide +kernel
theorem dX10_then_63 : decode cX10_then 63 = .ok (.iaload, 1) := by decide +kernel
theorem dX10_then_64 : decode cX10_then 64 = .ok (.istore 6, 2) := by decide +kernel
theorem dX10_then_66 : decode cX10_then 66 = .ok (.aload_n 0, 1) := by decide +kernel
theorem dX10_then_67 : decode cX10_then 67 = .ok (.getfield 12, 3) := by decide +kernel
theorem dX10_then_70 : decode cX10_then 70 = .ok (.getfield 150, 3) := by decide +kernel
theorem dX10_then_73 : decode cX10_then 73 = .ok (.iload_n 1, 1) := by decide +kernel
theorem dX10_then_74 : decode cX10_then 74 = .ok (.iaload, 1) := by decide +kernel
theorem dX10_then_75 : decode cX10_then 75 = .ok (.istore 7, 2) := by decide +kernel
theorem dX10_then_77 : decode cX10_then 77 = .ok (.iconst 0, 1) := by decide +kernel
theorem dX10_then_78 : decode cX10_then 78 = .ok (.istore 8, 2) := by decide +kernel
theorem dX10_then_80 : decode cX10_then 80 = .ok (.iload 8, 2) := by decide +kernel
theorem dX10_then_82 : decode cX10_then 82 = .ok (.iload_n 2, 1) := by decide +kernel
theorem dX10_then_83 : decode cX10_then 83 = .ok (.if_icmp .ge 52, 3) := by decide +kernel
theorem dX10_then_86 : decode cX10_then 86 = .ok (.iload 7, 2) := by decide +kernel
theorem dX10_then_88 : decode cX10_then 88 = .ok (.iload_n 3, 1) := by decide +kernel
theorem dX10_then_89 : decode cX10_then 89 = .ok (.ifCond .ne 26, 3) := by decide +kernel
theorem dX10_then_92 : decode cX10_then 92 = .ok (.aload 5, 2) := by decide +kernel
theorem dX10_then_94 : decode cX10_then 94 = .ok (.aload_n 0, 1) := by decide +kernel
theorem dX10_then_95 : decode cX10_then 95 = .ok (.getfield 12, 3) := by decide +kernel
theorem dX10_then_98 : decode cX10_then 98 = .ok (.getfield 141, 3) := by decide +kernel
theorem dX10_then_101 : decode cX10_then 101 = .ok (.iload 8, 2) := by decide +kernel
theorem dX10_then_103 : decode cX10_then 103 = .ok (.iadd, 1) := by decide +kernel
theorem dX10_then_104 : decode cX10_then 104 = .ok (.invokestatic 157, 3) := by decide +kernel
theorem dX10_then_107 : decode cX10_then 107 = .ok (.iload 6, 2) := by decide +kernel
theorem dX10_then_109 : decode cX10_then 109 = .ok (.invokevirtual 160, 3) := by decide +kernel
theorem dX10_then_112 : decode cX10_then 112 = .ok (.goto 4, 3) := by decide +kernel
theorem dX10_then_115 : decode cX10_then 115 = .ok (.iconst 0, 1) := by decide +kernel
theorem dX10_then_116 : decode cX10_then 116 = .ok (.iadd, 1) := by decide +kernel
theorem dX10_then_117 : decode cX10_then 117 = .ok (.istore 7, 2) := by decide +kernel
theorem dX10_then_119 : decode cX10_then 119 = .ok (.aload 5, 2) := by decide +kernel
theorem dX10_then_121 : decode cX10_then 121 = .ok (.iload_n 3, 1) := by decide +kernel
theorem dX10_then_122 : decode cX10_then 122 = .ok (.iload 6, 2) := by decide +kernel
theorem dX10_then_124 : decode cX10_then 124 = .ok (.invokevirtual 165, 3) := by decide +kernel
theorem dX10_then_127 : decode cX10_then 127 = .ok (.istore 6, 2) := by decide +kernel
theorem dX10_then_129 : decode cX10_then 129 = .ok (.iinc 8 1, 3) := by decide +kernel
theorem dX10_then_132 : decode cX10_then 132 = .ok (.goto (-52), 3) := by decide +kernel
theorem dX10_then_135 : decode cX10_then 135 = .ok (.iload 4, 2) := by decide +kernel
theorem dX10_then_137 : decode cX10_then 137 = .ok (.ifCond .ne 8, 3) := by decide +kernel
theorem dX10_then_140 : decode cX10_then 140 = .ok (.iload 6, 2) := by decide +kernel
theorem dX10_then_142 : decode cX10_then 142 = .ok (.goto 5, 3) := by decide +kernel
theorem dX10_then_145 : decode cX10_then 145 = .ok (.iload 7, 2) := by decide +kernel
theorem dX10_then_147 : decode cX10_then 147 = .ok (.ireturn, 1) := by decide +kernel
theorem dX10_over_0 : decode cX10_over 0 = .ok (.aload_n 0, 1) := by decide +kernel
theorem dX10_over_1 : decode cX10_over 1 = .ok (.getfield 12, 3) := by decide +kernel
theorem dX10_over_4 : decode cX10_over 4 = .ok (.iload_n 1, 1) := by decide +kernel
theorem dX10_over_5 : decode cX10_over 5 = .ok (.invokevirtual 132, 3) := by decide +kernel
theorem dX10_over_8 : decode cX10_over 8 = .ok (.ifCond .ne 10, 3) := by decide +kernel
theorem dX10_over_11 : decode cX10_over 11 = .ok (.aload_n 0, 1) := by decide +kernel
theorem dX10_over_12 : decode cX10_over 12 = .ok (.bipush (-2), 2) := by decide +kernel
theorem dX10_over_14 : decode cX10_over 14 = .ok (.invokevirtual 73, 3) := by decide +kernel
theorem dX10_over_17 : decode cX10_over 17 = .ok (.ireturn, 1) := by decide +kernel
theorem dX10_over_18 : decode cX10_over 18 = .ok (.aload_n 0, 1) := by decide +kernel
theorem dX10_over_19 : decode cX10_over 19 = .ok (.getfield 12, 3) := by decide +kernel
theorem dX10_over_22 : decode cX10_over 22 = .ok (.iload_n 1, 1) := by decide +kernel
theorem dX10_over_23 : decode cX10_over 23 = .ok (.invokevirtual 153, 3) := by decide +kernel
theorem dX10_over_26 : decode cX10_over 26 = .ok (.astore_n 2, 1) := by decide +kernel
theorem dX10_over_27 : decode cX10_over 27 = .ok (.aload_n 0, 1) := by decide +kernel
theorem dX10_over_28 : decode cX10_over 28 = .ok (.getfield 12, 3) := by decide +kernel
theorem dX10_over_31 : decode cX10_over 31 = .ok (.getfield 147, 3) := by decide +kernel
theorem dX10_over_34 : decode cX10_over 34 = .ok (.iload_n 1, 1) := by decide +kernel
theorem dX10_over_35 : decode cX10_over 35 = .ok (.iaload, 1) := by decide +kernel
theorem dX10_over_36 : decode cX10_over 36 = .ok (.istore_n 3, 1) := by decide +kernel
theorem dX10_over_37 : decode cX10_over 37 = .ok (.iconst 0, 1) := by decide +kernel
theorem dX10_over_38 : decode cX10_over 38 = .ok (.istore 4, 2) := by decide +kernel
theorem dX10_over_40 : decode cX10_over 40 = .ok (.iload 4, 2) := by decide +kernel
theorem dX10_over_42 : decode cX10_over 42 = .ok (.bipush 99, 2) := by decide +kernel
theorem dX10_over_44 : decode cX10_over 44 = .ok (.if_icmp .gt 23, 3) := by decide +kernel
theorem dX10_over_47 : decode cX10_over 47 = .ok (.iload_n 3, 1) := by decide +kernel
theorem dX10_over_48 : decode cX10_over 48 = .ok (.ifCond .ne 6, 3) := by decide +kernel
theorem dX10_over_51 : decode cX10_over 51 = .ok (.iload 4, 2) := by decide +kernel
theorem dX10_over_53 : decode cX10_over 53 = .ok (.ireturn, 1) := by decide +kernel
theorem dX10_over_54 : decode cX10_over 54 = .ok (.aload_n 2, 1) := by decide +kernel
theorem dX10_over_55 : decode cX10_over 55 = .ok (.iconst 0, 1) := by decide +kernel
theorem dX10_over_56 : decode cX10_over 56 = .ok (.iload_n 3, 1) := by decide +kernel
theorem dX10_over_57 : decode cX10_over 57 = .ok (.invokevirtual 165, 3) := by decide +kernel
theorem dX10_over_60 : decode cX10_over 60 = .ok (.istore_n 3, 1) := by decide +kernel
theorem dX10_over_61 : decode cX10_over 61 = .ok (.iinc 4 1, 3) := by decide +kernel
theorem dX10_over_64 : decode cX10_over 64 = .ok (.goto (-24), 3) := by decide +kernel
theorem dX10_over_67 : decode cX10_over 67 = .ok (.iconst (-1), 1) := by decide +kernel
theorem dX10_over_68 : decode cX10_over 68 = .ok (.ireturn, 1) := by decide +kernel
theorem dX10_most_0 : decode cX10_most 0 = .ok (.aload_n 0, 1) := by decide +kernel
theorem dX10_most_1 : decode cX10_most 1 = .ok (.getfield 12, 3) := by decide +kernel
theorem dX10_most_4 : decode cX10_most 4 = .ok (.iload_n 1, 1) := by decide +kernel
theorem dX10_most_5 : decode cX10_most 5 = .ok (.invokevirtual 132, 3) := by decide +kernel
theorem dX10_most_8 : decode cX10_most 8 = .ok (.ifCond .eq 18, 3) := by decide +kernel
theorem dX10_most_11 : decode cX10_most 11 = .ok (.iload_n 2, 1) := by decide +kernel
theorem dX10_most_12 : decode cX10_most 12 = .ok (.iconst 1, 1) := by decide +kernel
theorem dX10_most_13 : decode cX10_most 13 = .ok (.bipush 7, 2) := by decide +kernel
theorem dX10_most_15 : decode cX10_most 15 = .ok (.invokestatic 69, 3) := by decide +kernel
theorem dX10_most_18 : decode cX10_most 18 = .ok (.ifCond .eq 8, 3) := by decide +kernel
theorem dX10_most_21 : decode cX10_most 21 = .ok (.iload_n 3, 1) := by decide +kernel
theorem dX10_most_22 : decode cX10_most 22 = .ok (.iconst (-1), 1) := by decide +kernel
theorem dX10_most_23 : decode cX10_most 23 = .ok (.if_icmp .ge 13, 3) := by decide +kernel
theorem dX10_most_26 : decode cX10_most 26 = .ok (.aload_n 0, 1) := by decide +kernel
theorem dX10_most_27 : decode cX10_most 27 = .ok (.bipush (-2), 2) := by decide +kernel
theorem dX10_most_29 : decode cX10_most 29 = .ok (.invokevirtual 73, 3) := by decide +kernel
theorem dX10_most_32 : decode cX10_most 32 = .ok (.pop, 1) := by decide +kernel
theorem dX10_most_33 : decode cX10_most 33 = .ok (.bipush (-10), 2) := by decide +kernel
theorem dX10_most_35 : decode cX10_most 35 = .ok (.ireturn, 1) := by decide +kernel
theorem dX10_most_36 : decode cX10_most 36 = .ok (.iload_n 3, 1) := by decide +kernel
theorem dX10_most_37 : decode cX10_most 37 = .ok (.iload_n 2, 1) := by decide +kernel
theorem dX10_most_38 : decode cX10_most 38 = .ok (.if_icmp .lt 6, 3) := by decide +kernel
theorem dX10_most_41 : decode cX10_most 41 = .ok (.bipush (-5), 2) := by decide +kernel
theorem dX10_most_43 : decode cX10_most 43 = .ok (.ireturn, 1) := by decide +kernel
theorem dX10_most_44 : decode cX10_most 44 = .ok (.aload_n 0, 1) := by decide +kernel
theorem dX10_most_45 : decode cX10_most 45 = .ok (.getfield 37, 3) := by decide +kernel
theorem dX10_most_48 : decode cX10_most 48 = .ok (.aload_n 0, 1) := by decide +kernel
theorem dX10_most_49 : decode cX10_most 49 = .ok (.getfield 12, 3) := by decide +kernel
theorem dX10_most_52 : decode cX10_most 52 = .ok (.iload_n 1, 1) := by decide +kernel
theorem dX10_most_53 : decode cX10_most 53 = .ok (.iload_n 2, 1) := by decide +kernel
theorem dX10_most_54 : decode cX10_most 54 = .ok (.invokevirtual 168, 3) := by decide +kernel
theorem dX10_most_57 : decode cX10_most 57 = .ok (.iload_n 3, 1) := by decide +kernel
theorem dX10_most_58 : decode cX10_most 58 = .ok (.iconst (-1), 1) := by decide +kernel
theorem dX10_most_59 : decode cX10_most 59 = .ok (.if_icmp .ne 13, 3) := by decide +kernel
theorem dX10_most_62 : decode cX10_most 62 = .ok (.aload_n 0, 1) := by decide +kernel
theorem dX10_most_63 : decode cX10_most 63 = .ok (.getfield 37, 3) := by decide +kernel
theorem dX10_most_66 : decode cX10_most 66 = .ok (.invokevirtual 172, 3) := by decide +kernel
theorem dX10_most_69 : decode cX10_most 69 = .ok (.goto 11, 3) := by decide +kernel
theorem dX10_most_72 : decode cX10_most 72 = .ok (.aload_n 0, 1) := by decide +kernel
theorem dX10_most_73 : decode cX10_most 73 = .ok (.getfield 37, 3) := by decide +kernel
theorem dX10_most_76 : decode cX10_most 76 = .ok (.iload_n 3, 1) := by decide +kernel
theorem dX10_most_77 : decode cX10_most 77 = .ok (.invokevirtual 176, 3) := by decide +kernel
theorem dX10_most_80 : decode cX10_most 80 = .ok (.ireturn, 1) := by decide +kernel
theorem dX10_soonest_0 : decode cX10_soonest 0 = .ok (.aload_n 0, 1) := by decide +kernel
theorem dX10_soonest_1 : decode cX10_soonest 1 = .ok (.getfield 12, 3) := by decide +kernel
theorem dX10_soonest_4 : decode cX10_soonest 4 = .ok (.iload_n 1, 1) := by decide +kernel
theorem dX10_soonest_5 : decode cX10_soonest 5 = .ok (.invokevirtual 132, 3) := by decide +kernel
theorem dX10_soonest_8 : decode cX10_soonest 8 = .ok (.ifCond .eq 14, 3) := by decide +kernel
theorem dX10_soonest_11 : decode cX10_soonest 11 = .ok (.iload_n 2, 1) := by decide +kernel
theorem dX10_soonest_12 : decode cX10_soonest 12 = .ok (.iconst 1, 1) := by decide +kernel
theorem dX10_soonest_13 : decode cX10_soonest 13 = .ok (.sipush 999, 3) := by decide +kernel
theorem dX10_soonest_16 : decode cX10_soonest 16 = .ok (.invokestatic 69, 3) := by decide +kernel
theorem dX10_soonest_19 : decode cX10_soonest 19 = .ok (.ifCond .ne 10, 3) := by decide +kernel
theorem dX10_soonest_22 : decode cX10_soonest 22 = .ok (.aload_n 0, 1) := by decide +kernel
theorem dX10_soonest_23 : decode cX10_soonest 23 = .ok (.bipush (-2), 2) := by decide +kernel
theorem dX10_soonest_25 : decode cX10_soonest 25 = .ok (.invokevirtual 73, 3) := by decide +kernel
theorem dX10_soonest_28 : decode cX10_soonest 28 = .ok (.ireturn, 1) := by decide +kernel
theorem dX10_soonest_29 : decode cX10_soonest 29 = .ok (.aload_n 0, 1) := by decide +kernel
theorem dX10_soonest_30 : decode cX10_soonest 30 = .ok (.getfield 37, 3) := by decide +kernel
theorem dX10_soonest_33 : decode cX10_soonest 33 = .ok (.aload_n 0, 1) := by decide +kernel
theorem dX10_soonest_34 : decode cX10_soonest 34 = .ok (.getfield 12, 3) := by decide +kernel
theorem dX10_soonest_37 : decode cX10_soonest 37 = .ok (.iload_n 1, 1) := by decide +kernel
theorem dX10_soonest_38 : decode cX10_soonest 38 = .ok (.bipush 7, 2) := by decide +kernel
theorem dX10_soonest_40 : decode cX10_soonest 40 = .ok (.invokevirtual 168, 3) := by decide +kernel
theorem dX10_soonest_43 : decode cX10_soonest 43 = .ok (.aload_n 0, 1) := by decide +kernel
theorem dX10_soonest_44 : decode cX10_soonest 44 = .ok (.getfield 37, 3) := by decide +kernel
theorem dX10_soonest_47 : decode cX10_soonest 47 = .ok (.iload_n 2, 1) := by decide +kernel
theorem dX10_soonest_48 : decode cX10_soonest 48 = .ok (.invokevirtual 179, 3) := by decide +kernel
theorem dX10_soonest_51 : decode cX10_soonest 51 = .ok (.ireturn, 1) := by decide +kernel
theorem dX10_home_0 : decode cX10_home 0 = .ok (.aload_n 0, 1) := by decide +kernel
theorem dX10_home_1 : decode cX10_home 1 = .ok (.getfield 12, 3) := by decide +kernel
theorem dX10_home_4 : decode cX10_home 4 = .ok (.iload_n 1, 1) := by decide +kernel
theorem dX10_home_5 : decode cX10_home 5 = .ok (.invokevirtual 132, 3) := by decide +kernel
theorem dX10_home_8 : decode cX10_home 8 = .ok (.ifCond .eq 22, 3) := by decide +kernel
theorem dX10_home_11 : decode cX10_home 11 = .ok (.iload_n 2, 1) := by decide +kernel
theorem dX10_home_12 : decode cX10_home 12 = .ok (.iconst 2, 1) := by decide +kernel
theorem dX10_home_13 : decode cX10_home 13 = .ok (.bipush 7, 2) := by decide +kernel
theorem dX10_home_15 : decode cX10_home 15 = .ok (.invokestatic 69, 3) := by decide +kernel
theorem dX10_home_18 : decode cX10_home 18 = .ok (.ifCond .eq 12, 3) := by decide +kernel
theorem dX10_home_21 : decode cX10_home 21 = .ok (.iload_n 3, 1) := by decide +kernel
theorem dX10_home_22 : decode cX10_home 22 = .ok (.iconst 0, 1) := by decide +kernel
theorem dX10_home_23 : decode cX10_home 23 = .ok (.iconst 1, 1) := by decide +kernel
theorem dX10_home_24 : decode cX10_home 24 = .ok (.invokestatic 69, 3) := by decide +kernel
theorem dX10_home_27 : decode cX10_home 27 = .ok (.ifCond .ne 10, 3) := by decide +kernel
theorem dX10_home_30 : decode cX10_home 30 = .ok (.aload_n 0, 1) := by decide +kernel
theorem dX10_home_31 : decode cX10_home 31 = .ok (.bipush (-2), 2) := by decide +kernel
theorem dX10_home_33 : decode cX10_home 33 = .ok (.invokevirtual 73, 3) := by decide +kernel
theorem dX10_home_36 : decode cX10_home 36 = .ok (.ireturn, 1) := by decide +kernel
theorem dX10_home_37 : decode cX10_home 37 = .ok (.aload_n 0, 1) := by decide +kernel
theorem dX10_home_38 : decode cX10_home 38 = .ok (.getfield 37, 3) := by decide +kernel
theorem dX10_home_41 : decode cX10_home 41 = .ok (.aload_n 0, 1) := by decide +kernel
theorem dX10_home_42 : decode cX10_home 42 = .ok (.getfield 12, 3) := by decide +kernel
theorem dX10_home_45 : decode cX10_home 45 = .ok (.iload_n 1, 1) := by decide +kernel
theorem dX10_home_46 : decode cX10_home 46 = .ok (.iload_n 2, 1) := by decide +kernel
theorem dX10_home_47 : decode cX10_home 47 = .ok (.invokevirtual 168, 3) := by decide +kernel
theorem dX10_home_50 : decode cX10_home 50 = .ok (.iload_n 3, 1) := by decide +kernel
theorem dX10_home_51 : decode cX10_home 51 = .ok (.ifCond .ne 13, 3) := by decide +kernel
theorem dX10_home_54 : decode cX10_home 54 = .ok (.aload_n 0, 1) := by decide +kernel
theorem dX10_home_55 : decode cX10_home 55 = .ok (.getfield 37, 3) := by decide +kernel
theorem dX10_home_58 : decode cX10_home 58 = .ok (.invokevirtual 182, 3) := by decide +kernel
theorem dX10_home_61 : decode cX10_home 61 = .ok (.goto 17, 3) := by decide +kernel
theorem dX10_home_64 : decode cX10_home 64 = .ok (.aload_n 0, 1) := by decide +kernel
theorem dX10_home_65 : decode cX10_home 65 = .ok (.getfield 37, 3) := by decide +kernel
theorem dX10_home_68 : decode cX10_home 68 = .ok (.aload_n 0, 1) := by decide +kernel
theorem dX10_home_69 : decode cX10_home 69 = .ok (.getfield 37, 3) := by decide +kernel
theorem dX10_home_72 : decode cX10_home 72 = .ok (.invokevirtual 182, 3) := by decide +kernel
theorem dX10_home_75 : decode cX10_home 75 = .ok (.invokevirtual 185, 3) := by decide +kernel
theorem dX10_home_78 : decode cX10_home 78 = .ok (.ireturn, 1) := by decide +kernel
theorem dX10_tell_0 : decode cX10_tell 0 = .ok (.iload_n 1, 1) := by decide +kernel
theorem dX10_tell_1 : decode cX10_tell 1 = .ok (.iconst (-1), 1) := by decide +kernel
theorem dX10_tell_2 : decode cX10_tell 2 = .ok (.if_icmp .eq 24, 3) := by decide +kernel
theorem dX10_tell_5 : decode cX10_tell 5 = .ok (.aload_n 0, 1) := by decide +kernel
theorem dX10_tell_6 : decode cX10_tell 6 = .ok (.getfield 12, 3) := by decide +kernel
theorem dX10_tell_9 : decode cX10_tell 9 = .ok (.iload_n 1, 1) := by decide +kernel
theorem dX10_tell_10 : decode cX10_tell 10 = .ok (.invokevirtual 132, 3) := by decide +kernel
theorem dX10_tell_13 : decode cX10_tell 13 = .ok (.ifCond .ne 13, 3) := by decide +kernel
theorem dX10_tell_16 : decode cX10_tell 16 = .ok (.aload_n 0, 1) := by decide +kernel
theorem dX10_tell_17 : decode cX10_tell 17 = .ok (.bipush (-2), 2) := by decide +kernel
theorem dX10_tell_19 : decode cX10_tell 19 = .ok (.invokevirtual 73, 3) := by decide +kernel
theorem dX10_tell_22 : decode cX10_tell 22 = .ok (.pop, 1) := by decide +kernel
theorem dX10_tell_23 : decode cX10_tell 23 = .ok (.bipush (-10), 2) := by decide +kernel
theorem dX10_tell_25 : decode cX10_tell 25 = .ok (.ireturn, 1) := by decide +kernel
theorem dX10_tell_26 : decode cX10_tell 26 = .ok (.aload_n 0, 1) := by decide +kernel
theorem dX10_tell_27 : decode cX10_tell 27 = .ok (.getfield 44, 3) := by decide +kernel
theorem dX10_tell_30 : decode cX10_tell 30 = .ok (.aload_n 0, 1) := by decide +kernel
theorem dX10_tell_31 : decode cX10_tell 31 = .ok (.getfield 12, 3) := by decide +kernel
theorem dX10_tell_34 : decode cX10_tell 34 = .ok (.invokevirtual 188, 3) := by decide +kernel
theorem dX10_tell_37 : decode cX10_tell 37 = .ok (.iload_n 1, 1) := by decide +kernel
theorem dX10_tell_38 : decode cX10_tell 38 = .ok (.iconst (-1), 1) := by decide +kernel
theorem dX10_tell_39 : decode cX10_tell 39 = .ok (.if_icmp .ne 13, 3) := by decide +kernel
theorem dX10_tell_42 : decode cX10_tell 42 = .ok (.aload_n 0, 1) := by decide +kernel
theorem dX10_tell_43 : decode cX10_tell 43 = .ok (.getfield 44, 3) := by decide +kernel
theorem dX10_tell_46 : decode cX10_tell 46 = .ok (.getfield 190, 3) := by decide +kernel
theorem dX10_tell_49 : decode cX10_tell 49 = .ok (.goto 12, 3) := by decide +kernel
theorem dX10_tell_52 : decode cX10_tell 52 = .ok (.aload_n 0, 1) := by decide +kernel
theorem dX10_tell_53 : decode cX10_tell 53 = .ok (.getfield 44, 3) := by decide +kernel
theorem dX10_tell_56 : decode cX10_tell 56 = .ok (.getfield 193, 3) := by decide +kernel
theorem dX10_tell_59 : decode cX10_tell 59 = .ok (.iload_n 1, 1) := by decide +kernel
theorem dX10_tell_60 : decode cX10_tell 60 = .ok (.iaload, 1) := by decide +kernel
theorem dX10_tell_61 : decode cX10_tell 61 = .ok (.ireturn, 1) := by decide +kernel
theorem dX10_note_0 : decode cX10_note 0 = .ok (.aload_n 0, 1) := by decide +kernel
theorem dX10_note_1 : decode cX10_note 1 = .ok (.getfield 12, 3) := by decide +kernel
theorem dX10_note_4 : decode cX10_note 4 = .ok (.iload_n 1, 1) := by decide +kernel
theorem dX10_note_5 : decode cX10_note 5 = .ok (.invokevirtual 132, 3) := by decide +kernel
theorem dX10_note_8 : decode cX10_note 8 = .ok (.ifCond .eq 26, 3) := by decide +kernel
theorem dX10_note_11 : decode cX10_note 11 = .ok (.iload_n 2, 1) := by decide +kernel
theorem dX10_note_12 : decode cX10_note 12 = .ok (.iconst 0, 1) := by decide +kernel
theorem dX10_note_13 : decode cX10_note 13 = .ok (.bipush 99, 2) := by decide +kernel
theorem dX10_note_15 : decode cX10_note 15 = .ok (.invokestatic 69, 3) := by decide +kernel
theorem dX10_note_18 : decode cX10_note 18 = .ok (.ifCond .eq 16, 3) := by decide +kernel
theorem dX10_note_21 : decode cX10_note 21 = .ok (.iload_n 3, 1) := by decide +kernel
theorem dX10_note_22 : decode cX10_note 22 = .ok (.iconst 0, 1) := by decide +kernel
theorem dX10_note_23 : decode cX10_note 23 = .ok (.iconst 3, 1) := by decide +kernel
theorem dX10_note_24 : decode cX10_note 24 = .ok (.invokestatic 69, 3) := by decide +kernel
theorem dX10_note_27 : decode cX10_note 27 = .ok (.ifCond .eq 7, 3) := by decide +kernel
theorem dX10_note_30 : decode cX10_note 30 = .ok (.iconst 1, 1) := by decide +kernel
theorem dX10_note_31 : decode cX10_note 31 = .ok (.goto 4, 3) := by decide +kernel
theorem dX10_note_34 : decode cX10_note 34 = .ok (.iconst 0, 1) := by decide +kernel
theorem dX10_note_35 : decode cX10_note 35 = .ok (.istore 7, 2) := by decide +kernel
theorem dX10_note_37 : decode cX10_note 37 = .ok (.iload 7, 2) := by decide +kernel
theorem dX10_note_39 : decode cX10_note 39 = .ok (.ifCond .eq 34, 3) := by decide +kernel
theorem dX10_note_42 : decode cX10_note 42 = .ok (.iload 4, 2) := by decide +kernel
theorem dX10_note_44 : decode cX10_note 44 = .ok (.iconst 0, 1) := by decide +kernel
theorem dX10_note_45 : decode cX10_note 45 = .ok (.sipush 200, 3) := by decide +kernel
theorem dX10_note_48 : decode cX10_note 48 = .ok (.invokestatic 69, 3) := by decide +kernel
theorem dX10_note_51 : decode cX10_note 51 = .ok (.ifCond .eq 22, 3) := by decide +kernel
theorem dX10_note_54 : decode cX10_note 54 = .ok (.iload 5, 2) := by decide +kernel
theorem dX10_note_56 : decode cX10_note 56 = .ok (.invokestatic 125, 3) := by decide +kernel
theorem dX10_note_59 : decode cX10_note 59 = .ok (.ifCond .eq 14, 3) := by decide +kernel
theorem dX10_note_62 : decode cX10_note 62 = .ok (.iload 6, 2) := by decide +kernel
theorem dX10_note_64 : decode cX10_note 64 = .ok (.iconst 0, 1) := by decide +kernel
theorem dX10_note_65 : decode cX10_note 65 = .ok (.bipush 99, 2) := by decide +kernel
theorem dX10_note_67 : decode cX10_note 67 = .ok (.invokestatic 69, 3) := by decide +kernel
theorem dX10_note_70 : decode cX10_note 70 = .ok (.ifCond .ne 10, 3) := by decide +kernel
theorem dX10_note_73 : decode cX10_note 73 = .ok (.aload_n 0, 1) := by decide +kernel
theorem dX10_note_74 : decode cX10_note 74 = .ok (.bipush (-2), 2) := by decide +kernel
theorem dX10_note_76 : decode cX10_note 76 = .ok (.invokevirtual 73, 3) := by decide +kernel
theorem dX10_note_79 : decode cX10_note 79 = .ok (.ireturn, 1) := by decide +kernel
theorem dX10_note_80 : decode cX10_note 80 = .ok (.aload_n 0, 1) := by decide +kernel
theorem dX10_note_81 : decode cX10_note 81 = .ok (.aload_n 0, 1) := by decide +kernel
theorem dX10_note_82 : decode cX10_note 82 = .ok (.getfield 12, 3) := by decide +kernel
theorem dX10_note_85 : decode cX10_note 85 = .ok (.iload_n 1, 1) := by decide +kernel
theorem dX10_note_86 : decode cX10_note 86 = .ok (.iload_n 2, 1) := by decide +kernel
theorem dX10_note_87 : decode cX10_note 87 = .ok (.iload_n 3, 1) := by decide +kernel
theorem dX10_note_88 : decode cX10_note 88 = .ok (.iload 4, 2) := by decide +kernel
theorem dX10_note_90 : decode cX10_note 90 = .ok (.iload 5, 2) := by decide +kernel
theorem dX10_note_92 : decode cX10_note 92 = .ok (.iload 6, 2) := by decide +kernel
theorem dX10_note_94 : decode cX10_note 94 = .ok (.invokevirtual 196, 3) := by decide +kernel
theorem dX10_note_97 : decode cX10_note 97 = .ok (.invokevirtual 81, 3) := by decide +kernel
theorem dX10_note_100 : decode cX10_note 100 = .ok (.ireturn, 1) := by decide +kernel
theorem dX10_gone_0 : decode cX10_gone 0 = .ok (.aload_n 0, 1) := by decide +kernel
theorem dX10_gone_1 : decode cX10_gone 1 = .ok (.getfield 12, 3) := by decide +kernel
theorem dX10_gone_4 : decode cX10_gone 4 = .ok (.iload_n 1, 1) := by decide +kernel
theorem dX10_gone_5 : decode cX10_gone 5 = .ok (.invokevirtual 132, 3) := by decide +kernel
theorem dX10_gone_8 : decode cX10_gone 8 = .ok (.ifCond .eq 24, 3) := by decide +kernel
theorem dX10_gone_11 : decode cX10_gone 11 = .ok (.iload_n 2, 1) := by decide +kernel
theorem dX10_gone_12 : decode cX10_gone 12 = .ok (.iconst 1, 1) := by decide +kernel
theorem dX10_gone_13 : decode cX10_gone 13 = .ok (.bipush 30, 2) := by decide +kernel
theorem dX10_gone_15 : decode cX10_gone 15 = .ok (.invokestatic 69, 3) := by decide +kernel
theorem dX10_gone_18 : decode cX10_gone 18 = .ok (.ifCond .eq 14, 3) := by decide +kernel
theorem dX10_gone_21 : decode cX10_gone 21 = .ok (.iload_n 3, 1) := by decide +kernel
theorem dX10_gone_22 : decode cX10_gone 22 = .ok (.iconst 0, 1) := by decide +kernel
theorem dX10_gone_23 : decode cX10_gone 23 = .ok (.sipush 6000, 3) := by decide +kernel
theorem dX10_gone_26 : decode cX10_gone 26 = .ok (.invokestatic 69, 3) := by decide +kernel
theorem dX10_gone_29 : decode cX10_gone 29 = .ok (.ifCond .ne 10, 3) := by decide +kernel
theorem dX10_gone_32 : decode cX10_gone 32 = .ok (.aload_n 0, 1) := by decide +kernel
theorem dX10_gone_33 : decode cX10_gone 33 = .ok (.bipush (-2), 2) := by decide +kernel
theorem dX10_gone_35 : decode cX10_gone 35 = .ok (.invokevirtual 73, 3) := by decide +kernel
theorem dX10_gone_38 : decode cX10_gone 38 = .ok (.ireturn, 1) := by decide +kernel
theorem dX10_gone_39 : decode cX10_gone 39 = .ok (.aload_n 0, 1) := by decide +kernel
theorem dX10_gone_40 : decode cX10_gone 40 = .ok (.aload_n 0, 1) := by decide +kernel
theorem dX10_gone_41 : decode cX10_gone 41 = .ok (.getfield 12, 3) := by decide +kernel
theorem dX10_gone_44 : decode cX10_gone 44 = .ok (.iload_n 1, 1) := by decide +kernel
theorem dX10_gone_45 : decode cX10_gone 45 = .ok (.iload_n 2, 1) := by decide +kernel
theorem dX10_gone_46 : decode cX10_gone 46 = .ok (.iload_n 3, 1) := by decide +kernel
theorem dX10_gone_47 : decode cX10_gone 47 = .ok (.invokevirtual 200, 3) := by decide +kernel
theorem dX10_gone_50 : decode cX10_gone 50 = .ok (.invokevirtual 81, 3) := by decide +kernel
theorem dX10_gone_53 : decode cX10_gone 53 = .ok (.ireturn, 1) := by decide +kernel
theorem dX10_forget_0 : decode cX10_forget 0 = .ok (.iload_n 1, 1) := by decide +kernel
theorem dX10_forget_1 : decode cX10_forget 1 = .ok (.iconst 0, 1) := by decide +kernel
theorem dX10_forget_2 : decode cX10_forget 2 = .ok (.iconst 1, 1) := by decide +kernel
theorem dX10_forget_3 : decode cX10_forget 3 = .ok (.invokestatic 69, 3) := by decide +kernel
theorem dX10_forget_6 : decode cX10_forget 6 = .ok (.ifCond .ne 10, 3) := by decide +kernel
theorem dX10_forget_9 : decode cX10_forget 9 = .ok (.aload_n 0, 1) := by decide +kernel
theorem dX10_forget_10 : decode cX10_forget 10 = .ok (.bipush (-2), 2) := by decide +kernel
theorem dX10_forget_12 : decode cX10_forget 12 = .ok (.invokevirtual 73, 3) := by decide +kernel
theorem dX10_forget_15 : decode cX10_forget 15 = .ok (.ireturn, 1) := by decide +kernel
theorem dX10_forget_16 : decode cX10_forget 16 = .ok (.iload_n 1, 1) := by decide +kernel
theorem dX10_forget_17 : decode cX10_forget 17 = .ok (.ifCond .ne 13, 3) := by decide +kernel
theorem dX10_forget_20 : decode cX10_forget 20 = .ok (.aload_n 0, 1) := by decide +kernel
theorem dX10_forget_21 : decode cX10_forget 21 = .ok (.getfield 12, 3) := by decide +kernel
theorem dX10_forget_24 : decode cX10_forget 24 = .ok (.getfield 203, 3) := by decide +kernel
theorem dX10_forget_27 : decode cX10_forget 27 = .ok (.goto 10, 3) := by decide +kernel
theorem dX10_forget_30 : decode cX10_forget 30 = .ok (.aload_n 0, 1) := by decide +kernel
theorem dX10_forget_31 : decode cX10_forget 31 = .ok (.getfield 12, 3) := by decide +kernel
theorem dX10_forget_34 : decode cX10_forget 34 = .ok (.getfield 206, 3) := by decide +kernel
theorem dX10_forget_37 : decode cX10_forget 37 = .ok (.istore_n 2, 1) := by decide +kernel
