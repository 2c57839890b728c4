theorem dX0_init_0 : decode cX0_init 0 = .ok (.aload_n 0, 1) := by decide +kernel
theorem dX0_init_1 : decode cX0_init 1 = .ok (.invokespecial 1, 3) := by decide +kernel
theorem dX0_init_4 : decode cX0_init 4 = .ok (.return_, 1) := by decide +kernel
theorem dX0_behindDriving_0 : decode cX0_behindDriving 0 = .ok (.iload_n 1, 1) := by decide +kernel
theorem dX0_behindDriving_1 : decode cX0_behindDriving 1 = .ok (.aload_n 0, 1) := by decide +kernel
theorem dX0_behindDriving_2 : decode cX0_behindDriving 2 = .ok (.iload_n 1, 1) := by decide +kernel
theorem dX0_behindDriving_3 : decode cX0_behindDriving 3 = .ok (.invokespecial 7, 3) := by decide +kernel
theorem dX0_behindDriving_6 : decode cX0_behindDriving 6 = .ok (.iconst 1, 1) := by decide +kernel
theorem dX0_behindDriving_7 : decode cX0_behindDriving 7 = .ok (.iadd, 1) := by decide +kernel
theorem dX0_behindDriving_8 : decode cX0_behindDriving 8 = .ok (.invokestatic 11, 3) := by decide +kernel
theorem dX0_behindDriving_11 : decode cX0_behindDriving 11 = .ok (.ireturn, 1) := by decide +kernel
theorem dX1_init_0 : decode cX1_init 0 = .ok (.aload_n 0, 1) := by decide +kernel
theorem dX1_init_1 : decode cX1_init 1 = .ok (.invokespecial 1, 3) := by decide +kernel
theorem dX1_init_4 : decode cX1_init 4 = .ok (.return_, 1) := by decide +kernel
theorem dX1_runs_0 : decode cX1_runs 0 = .ok (.bipush 30, 2) := by decide +kernel
theorem dX1_runs_2 : decode cX1_runs 2 = .ok (.aload_n 0, 1) := by decide +kernel
theorem dX1_runs_3 : decode cX1_runs 3 = .ok (.iload_n 1, 1) := by decide +kernel
theorem dX1_runs_4 : decode cX1_runs 4 = .ok (.iload_n 2, 1) := by decide +kernel
theorem dX1_runs_5 : decode cX1_runs 5 = .ok (.invokespecial 7, 3) := by decide +kernel
theorem dX1_runs_8 : decode cX1_runs 8 = .ok (.invokestatic 11, 3) := by decide +kernel
theorem dX1_runs_11 : decode cX1_runs 11 = .ok (.ireturn, 1) := by decide +kernel
theorem dX1_behindResting_0 : decode cX1_behindResting 0 = .ok (.iload_n 1, 1) := by decide +kernel
theorem dX1_behindResting_1 : decode cX1_behindResting 1 = .ok (.ireturn, 1) := by decide +kernel
theorem dX2_init_0 : decode cX2_init 0 = .ok (.aload_n 0, 1) := by decide +kernel
theorem dX2_init_1 : decode cX2_init 1 = .ok (.invokespecial 3, 3) := by decide +kernel
theorem dX2_init_4 : decode cX2_init 4 = .ok (.aload_n 0, 1) := by decide +kernel
theorem dX2_init_5 : decode cX2_init 5 = .ok (.bipush 6, 2) := by decide +kernel
theorem dX2_init_7 : decode cX2_init 7 = .ok (.newarray .int, 2) := by decide +kernel
theorem dX2_init_9 : decode cX2_init 9 = .ok (.putfield 9, 3) := by decide +kernel
theorem dX2_init_12 : decode cX2_init 12 = .ok (.aload_n 0, 1) := by decide +kernel
theorem dX2_init_13 : decode cX2_init 13 = .ok (.bipush 6, 2) := by decide +kernel
theorem dX2_init_15 : decode cX2_init 15 = .ok (.newarray .int, 2) := by decide +kernel
theorem dX2_init_17 : decode cX2_init 17 = .ok (.putfield 15, 3) := by decide +kernel
theorem dX2_init_20 : decode cX2_init 20 = .ok (.return_, 1) := by decide +kernel
theorem dX2_reckon_0 : decode cX2_reckon 0 = .ok (.aload_n 0, 1) := by decide +kernel
theorem dX2_reckon_1 : decode cX2_reckon 1 = .ok (.iconst (-1), 1) := by decide +kernel
theorem dX2_reckon_2 : decode cX2_reckon 2 = .ok (.putfield 18, 3) := by decide +kernel
theorem dX2_reckon_5 : decode cX2_reckon 5 = .ok (.iconst 0, 1) := by decide +kernel
theorem dX2_reckon_6 : decode cX2_reckon 6 = .ok (.istore_n 2, 1) := by decide +kernel
theorem dX2_reckon_7 : decode cX2_reckon 7 = .ok (.iload_n 2, 1) := by decide +kernel
theorem dX2_reckon_8 : decode cX2_reckon 8 = .ok (.bipush 6, 2) := by decide +kernel
theorem dX2_reckon_10 : decode cX2_reckon 10 = .ok (.if_icmp .ge 16, 3) := by decide +kernel
theorem dX2_reckon_13 : decode cX2_reckon 13 = .ok (.aload_n 0, 1) := by decide +kernel
theorem dX2_reckon_14 : decode cX2_reckon 14 = .ok (.getfield 15, 3) := by decide +kernel
theorem dX2_reckon_17 : decode cX2_reckon 17 = .ok (.iload_n 2, 1) := by decide +kernel
theorem dX2_reckon_18 : decode cX2_reckon 18 = .ok (.iconst (-1), 1) := by decide +kernel
theorem dX2_reckon_19 : decode cX2_reckon 19 = .ok (.iastore, 1) := by decide +kernel
theorem dX2_reckon_20 : decode cX2_reckon 20 = .ok (.iinc 2 1, 3) := by decide +kernel
theorem dX2_reckon_23 : decode cX2_reckon 23 = .ok (.goto (-16), 3) := by decide +kernel
theorem dX2_reckon_26 : decode cX2_reckon 26 = .ok (.aload_n 0, 1) := by decide +kernel
theorem dX2_reckon_27 : decode cX2_reckon 27 = .ok (.aload_n 1, 1) := by decide +kernel
theorem dX2_reckon_28 : decode cX2_reckon 28 = .ok (.iconst 0, 1) := by decide +kernel
theorem dX2_reckon_29 : decode cX2_reckon 29 = .ok (.iconst 0, 1) := by decide +kernel
theorem dX2_reckon_30 : decode cX2_reckon 30 = .ok (.invokestatic 22, 3) := by decide +kernel
theorem dX2_reckon_33 : decode cX2_reckon 33 = .ok (.return_, 1) := by decide +kernel
theorem dX2_tryFrom_0 : decode cX2_tryFrom 0 = .ok (.iload_n 2, 1) := by decide +kernel
theorem dX2_tryFrom_1 : decode cX2_tryFrom 1 = .ok (.aload_n 1, 1) := by decide +kernel
theorem dX2_tryFrom_2 : decode cX2_tryFrom 2 = .ok (.getfield 26, 3) := by decide +kernel
theorem dX2_tryFrom_5 : decode cX2_tryFrom 5 = .ok (.if_icmp .ge 9, 3) := by decide +kernel
theorem dX2_tryFrom_8 : decode cX2_tryFrom 8 = .ok (.iload_n 2, 1) := by decide +kernel
theorem dX2_tryFrom_9 : decode cX2_tryFrom 9 = .ok (.bipush 6, 2) := by decide +kernel
theorem dX2_tryFrom_11 : decode cX2_tryFrom 11 = .ok (.if_icmp .lt 9, 3) := by decide +kernel
theorem dX2_tryFrom_14 : decode cX2_tryFrom 14 = .ok (.aload_n 0, 1) := by decide +kernel
theorem dX2_tryFrom_15 : decode cX2_tryFrom 15 = .ok (.iload_n 3, 1) := by decide +kernel
theorem dX2_tryFrom_16 : decode cX2_tryFrom 16 = .ok (.invokevirtual 31, 3) := by decide +kernel
theorem dX2_tryFrom_19 : decode cX2_tryFrom 19 = .ok (.return_, 1) := by decide +kernel
theorem dX2_tryFrom_20 : decode cX2_tryFrom 20 = .ok (.aload_n 0, 1) := by decide +kernel
theorem dX2_tryFrom_21 : decode cX2_tryFrom 21 = .ok (.getfield 15, 3) := by decide +kernel
theorem dX2_tryFrom_24 : decode cX2_tryFrom 24 = .ok (.iload_n 2, 1) := by decide +kernel
theorem dX2_tryFrom_25 : decode cX2_tryFrom 25 = .ok (.iaload, 1) := by decide +kernel
theorem dX2_tryFrom_26 : decode cX2_tryFrom 26 = .ok (.iconst (-1), 1) := by decide +kernel
theorem dX2_tryFrom_27 : decode cX2_tryFrom 27 = .ok (.if_icmp .eq 13, 3) := by decide +kernel
theorem dX2_tryFrom_30 : decode cX2_tryFrom 30 = .ok (.aload_n 0, 1) := by decide +kernel
theorem dX2_tryFrom_31 : decode cX2_tryFrom 31 = .ok (.aload_n 1, 1) := by decide +kernel
theorem dX2_tryFrom_32 : decode cX2_tryFrom 32 = .ok (.iload_n 2, 1) := by decide +kernel
theorem dX2_tryFrom_33 : decode cX2_tryFrom 33 = .ok (.iconst 1, 1) := by decide +kernel
theorem dX2_tryFrom_34 : decode cX2_tryFrom 34 = .ok (.iadd, 1) := by decide +kernel
theorem dX2_tryFrom_35 : decode cX2_tryFrom 35 = .ok (.iload_n 3, 1) := by decide +kernel
theorem dX2_tryFrom_36 : decode cX2_tryFrom 36 = .ok (.invokestatic 22, 3) := by decide +kernel
theorem dX2_tryFrom_39 : decode cX2_tryFrom 39 = .ok (.return_, 1) := by decide +kernel
theorem dX2_tryFrom_40 : decode cX2_tryFrom 40 = .ok (.iload_n 2, 1) := by decide +kernel
theorem dX2_tryFrom_41 : decode cX2_tryFrom 41 = .ok (.iconst 1, 1) := by decide +kernel
theorem dX2_tryFrom_42 : decode cX2_tryFrom 42 = .ok (.iadd, 1) := by decide +kernel
theorem dX2_tryFrom_43 : decode cX2_tryFrom 43 = .ok (.istore 4, 2) := by decide +kernel
theorem dX2_tryFrom_45 : decode cX2_tryFrom 45 = .ok (.iload 4, 2) := by decide +kernel
theorem dX2_tryFrom_47 : decode cX2_tryFrom 47 = .ok (.aload_n 1, 1) := by decide +kernel
theorem dX2_tryFrom_48 : decode cX2_tryFrom 48 = .ok (.getfield 26, 3) := by decide +kernel
theorem dX2_tryFrom_51 : decode cX2_tryFrom 51 = .ok (.if_icmp .ge 75, 3) := by decide +kernel
theorem dX2_tryFrom_54 : decode cX2_tryFrom 54 = .ok (.iload 4, 2) := by decide +kernel
theorem dX2_tryFrom_56 : decode cX2_tryFrom 56 = .ok (.bipush 6, 2) := by decide +kernel
theorem dX2_tryFrom_58 : decode cX2_tryFrom 58 = .ok (.if_icmp .ge 68, 3) := by decide +kernel
theorem dX2_tryFrom_61 : decode cX2_tryFrom 61 = .ok (.aload_n 0, 1) := by decide +kernel
theorem dX2_tryFrom_62 : decode cX2_tryFrom 62 = .ok (.getfield 15, 3) := by decide +kernel
theorem dX2_tryFrom_65 : decode cX2_tryFrom 65 = .ok (.iload 4, 2) := by decide +kernel
theorem dX2_tryFrom_67 : decode cX2_tryFrom 67 = .ok (.iaload, 1) := by decide +kernel
theorem dX2_tryFrom_68 : decode cX2_tryFrom 68 = .ok (.iconst (-1), 1) := by decide +kernel
theorem dX2_tryFrom_69 : decode cX2_tryFrom 69 = .ok (.if_icmp .ne 51, 3) := by decide +kernel
theorem dX2_tryFrom_72 : decode cX2_tryFrom 72 = .ok (.aload_n 0, 1) := by decide +kernel
theorem dX2_tryFrom_73 : decode cX2_tryFrom 73 = .ok (.getfield 15, 3) := by decide +kernel
theorem dX2_tryFrom_76 : decode cX2_tryFrom 76 = .ok (.iload_n 2, 1) := by decide +kernel
theorem dX2_tryFrom_77 : decode cX2_tryFrom 77 = .ok (.iload 4, 2) := by decide +kernel
theorem dX2_tryFrom_79 : decode cX2_tryFrom 79 = .ok (.iastore, 1) := by decide +kernel
theorem dX2_tryFrom_80 : decode cX2_tryFrom 80 = .ok (.aload_n 0, 1) := by decide +kernel
theorem dX2_tryFrom_81 : decode cX2_tryFrom 81 = .ok (.getfield 15, 3) := by decide +kernel
theorem dX2_tryFrom_84 : decode cX2_tryFrom 84 = .ok (.iload 4, 2) := by decide +kernel
theorem dX2_tryFrom_86 : decode cX2_tryFrom 86 = .ok (.iload_n 2, 1) := by decide +kernel
theorem dX2_tryFrom_87 : decode cX2_tryFrom 87 = .ok (.iastore, 1) := by decide +kernel
theorem dX2_tryFrom_88 : decode cX2_tryFrom 88 = .ok (.aload_n 0, 1) := by decide +kernel
theorem dX2_tryFrom_89 : decode cX2_tryFrom 89 = .ok (.aload_n 1, 1) := by decide +kernel
theorem dX2_tryFrom_90 : decode cX2_tryFrom 90 = .ok (.iload_n 2, 1) := by decide +kernel
theorem dX2_tryFrom_91 : decode cX2_tryFrom 91 = .ok (.iconst 1, 1) := by decide +kernel
theorem dX2_tryFrom_92 : decode cX2_tryFrom 92 = .ok (.iadd, 1) := by decide +kernel
theorem dX2_tryFrom_93 : decode cX2_tryFrom 93 = .ok (.iload_n 3, 1) := by decide +kernel
theorem dX2_tryFrom_94 : decode cX2_tryFrom 94 = .ok (.aload_n 1, 1) := by decide +kernel
theorem dX2_tryFrom_95 : decode cX2_tryFrom 95 = .ok (.iload_n 2, 1) := by decide +kernel
theorem dX2_tryFrom_96 : decode cX2_tryFrom 96 = .ok (.iload 4, 2) := by decide +kernel
theorem dX2_tryFrom_98 : decode cX2_tryFrom 98 = .ok (.invokestatic 35, 3) := by decide +kernel
theorem dX2_tryFrom_101 : decode cX2_tryFrom 101 = .ok (.iadd, 1) := by decide +kernel
theorem dX2_tryFrom_102 : decode cX2_tryFrom 102 = .ok (.invokestatic 22, 3) := by decide +kernel
theorem dX2_tryFrom_105 : decode cX2_tryFrom 105 = .ok (.aload_n 0, 1) := by decide +kernel
theorem dX2_tryFrom_106 : decode cX2_tryFrom 106 = .ok (.getfield 15, 3) := by decide +kernel
theorem dX2_tryFrom_109 : decode cX2_tryFrom 109 = .ok (.iload_n 2, 1) := by decide +kernel
theorem dX2_tryFrom_110 : decode cX2_tryFrom 110 = .ok (.iconst (-1), 1) := by decide +kernel
theorem dX2_tryFrom_111 : decode cX2_tryFrom 111 = .ok (.iastore, 1) := by decide +kernel
theorem dX2_tryFrom_112 : decode cX2_tryFrom 112 = .ok (.aload_n 0, 1) := by decide +kernel
theorem dX2_tryFrom_113 : decode cX2_tryFrom 113 = .ok (.getfield 15, 3) := by decide +kernel
theorem dX2_tryFrom_116 : decode cX2_tryFrom 116 = .ok (.iload 4, 2) := by decide +kernel
theorem dX2_tryFrom_118 : decode cX2_tryFrom 118 = .ok (.iconst (-1), 1) := by decide +kernel
theorem dX2_tryFrom_119 : decode cX2_tryFrom 119 = .ok (.iastore, 1) := by decide +kernel
theorem dX2_tryFrom_120 : decode cX2_tryFrom 120 = .ok (.iinc 4 1, 3) := by decide +kernel
theorem dX2_tryFrom_123 : decode cX2_tryFrom 123 = .ok (.goto (-78), 3) := by decide +kernel
theorem dX2_tryFrom_126 : decode cX2_tryFrom 126 = .ok (.aload_n 0, 1) := by decide +kernel
theorem dX2_tryFrom_127 : decode cX2_tryFrom 127 = .ok (.aload_n 1, 1) := by decide +kernel
theorem dX2_tryFrom_128 : decode cX2_tryFrom 128 = .ok (.iload_n 2, 1) := by decide +kernel
theorem dX2_tryFrom_129 : decode cX2_tryFrom 129 = .ok (.iconst 1, 1) := by decide +kernel
theorem dX2_tryFrom_130 : decode cX2_tryFrom 130 = .ok (.iadd, 1) := by decide +kernel
theorem dX2_tryFrom_131 : decode cX2_tryFrom 131 = .ok (.iload_n 3, 1) := by decide +kernel
theorem dX2_tryFrom_132 : decode cX2_tryFrom 132 = .ok (.invokestatic 22, 3) := by decide +kernel
theorem dX2_tryFrom_135 : decode cX2_tryFrom 135 = .ok (.return_, 1) := by decide +kernel
theorem dX2_keepIfBetter_0 : decode cX2_keepIfBetter 0 = .ok (.iload_n 1, 1) := by decide +kernel
theorem dX2_keepIfBetter_1 : decode cX2_keepIfBetter 1 = .ok (.aload_n 0, 1) := by decide +kernel
theorem dX2_keepIfBetter_2 : decode cX2_keepIfBetter 2 = .ok (.getfield 18, 3) := by decide +kernel
theorem dX2_keepIfBetter_5 : decode cX2_keepIfBetter 5 = .ok (.if_icmp .le 23, 3) := by decide +kernel
theorem dX2_keepIfBetter_8 : decode cX2_keepIfBetter 8 = .ok (.aload_n 0, 1) := by decide +kernel
theorem dX2_keepIfBetter_9 : decode cX2_keepIfBetter 9 = .ok (.iload_n 1, 1) := by decide +kernel
theorem dX2_keepIfBetter_10 : decode cX2_keepIfBetter 10 = .ok (.putfield 18, 3) := by decide +kernel
theorem dX2_keepIfBetter_13 : decode cX2_keepIfBetter 13 = .ok (.aload_n 0, 1) := by decide +kernel
theorem dX2_keepIfBetter_14 : decode cX2_keepIfBetter 14 = .ok (.getfield 15, 3) := by decide +kernel
theorem dX2_keepIfBetter_17 : decode cX2_keepIfBetter 17 = .ok (.iconst 0, 1) := by decide +kernel
theorem dX2_keepIfBetter_18 : decode cX2_keepIfBetter 18 = .ok (.aload_n 0, 1) := by decide +kernel
theorem dX2_keepIfBetter_19 : decode cX2_keepIfBetter 19 = .ok (.getfield 9, 3) := by decide +kernel
theorem dX2_keepIfBetter_22 : decode cX2_keepIfBetter 22 = .ok (.iconst 0, 1) := by decide +kernel
theorem dX2_keepIfBetter_23 : decode cX2_keepIfBetter 23 = .ok (.bipush 6, 2) := by decide +kernel
theorem dX2_keepIfBetter_25 : decode cX2_keepIfBetter 25 = .ok (.invokestatic 39, 3) := by decide +kernel
theorem dX2_keepIfBetter_28 : decode cX2_keepIfBetter 28 = .ok (.return_, 1) := by decide +kernel
theorem dX2_pairWorth_0 : decode cX2_pairWorth 0 = .ok (.aload_n 0, 1) := by decide +kernel
theorem dX2_pairWorth_1 : decode cX2_pairWorth 1 = .ok (.getfield 45, 3) := by decide +kernel
theorem dX2_pairWorth_4 : decode cX2_pairWorth 4 = .ok (.iload_n 1, 1) := by decide +kernel
theorem dX2_pairWorth_5 : decode cX2_pairWorth 5 = .ok (.iaload, 1) := by decide +kernel
theorem dX2_pairWorth_6 : decode cX2_pairWorth 6 = .ok (.aload_n 0, 1) := by decide +kernel
theorem dX2_pairWorth_7 : decode cX2_pairWorth 7 = .ok (.getfield 45, 3) := by decide +kernel
theorem dX2_pairWorth_10 : decode cX2_pairWorth 10 = .ok (.iload_n 2, 1) := by decide +kernel
theorem dX2_pairWorth_11 : decode cX2_pairWorth 11 = .ok (.iaload, 1) := by decide +kernel
theorem dX2_pairWorth_12 : decode cX2_pairWorth 12 = .ok (.invokestatic 48, 3) := by decide +kernel
theorem dX2_pairWorth_15 : decode cX2_pairWorth 15 = .ok (.istore_n 3, 1) := by decide +kernel
theorem dX2_pairWorth_16 : decode cX2_pairWorth 16 = .ok (.aload_n 0, 1) := by decide +kernel
theorem dX2_pairWorth_17 : decode cX2_pairWorth 17 = .ok (.getfield 54, 3) := by decide +kernel
theorem dX2_pairWorth_20 : decode cX2_pairWorth 20 = .ok (.iload_n 1, 1) := by decide +kernel
theorem dX2_pairWorth_21 : decode cX2_pairWorth 21 = .ok (.iaload, 1) := by decide +kernel
theorem dX2_pairWorth_22 : decode cX2_pairWorth 22 = .ok (.aload_n 0, 1) := by decide +kernel
theorem dX2_pairWorth_23 : decode cX2_pairWorth 23 = .ok (.getfield 54, 3) := by decide +kernel
theorem dX2_pairWorth_26 : decode cX2_pairWorth 26 = .ok (.iload_n 2, 1) := by decide +kernel
theorem dX2_pairWorth_27 : decode cX2_pairWorth 27 = .ok (.iaload, 1) := by decide +kernel
theorem dX2_pairWorth_28 : decode cX2_pairWorth 28 = .ok (.if_icmp .ne 7, 3) := by decide +kernel
theorem dX2_pairWorth_31 : decode cX2_pairWorth 31 = .ok (.iload_n 3, 1) := by decide +kernel
theorem dX2_pairWorth_32 : decode cX2_pairWorth 32 = .ok (.goto 6, 3) := by decide +kernel
theorem dX2_pairWorth_35 : decode cX2_pairWorth 35 = .ok (.iload_n 3, 1) := by decide +kernel
theorem dX2_pairWorth_36 : decode cX2_pairWorth 36 = .ok (.iconst 1, 1) := by decide +kernel
theorem dX2_pairWorth_37 : decode cX2_pairWorth 37 = .ok (.iadd, 1) := by decide +kernel
theorem dX2_pairWorth_38 : decode cX2_pairWorth 38 = .ok (.ireturn, 1) := by decide +kernel
theorem dX3_init_0 : decode cX3_init 0 = .ok (.aload_n 0, 1) := by decide +kernel
theorem dX3_init_1 : decode cX3_init 1 = .ok (.invokespecial 3, 3) := by decide +kernel
theorem dX3_init_4 : decode cX3_init 4 = .ok (.return_, 1) := by decide +kernel
theorem dX3_runs_0 : decode cX3_runs 0 = .ok (.iconst 2, 1) := by decide +kernel
theorem dX3_runs_1 : decode cX3_runs 1 = .ok (.iload_n 2, 1) := by decide +kernel
theorem dX3_runs_2 : decode cX3_runs 2 = .ok (.imul, 1) := by decide +kernel
theorem dX3_runs_3 : decode cX3_runs 3 = .ok (.istore_n 3, 1) := by decide +kernel
theorem dX3_runs_4 : decode cX3_runs 4 = .ok (.iload_n 1, 1) := by decide +kernel
theorem dX3_runs_5 : decode cX3_runs 5 = .ok (.ifCond .ne 9, 3) := by decide +kernel
theorem dX3_runs_8 : decode cX3_runs 8 = .ok (.iload_n 3, 1) := by decide +kernel
theorem dX3_runs_9 : decode cX3_runs 9 = .ok (.iconst 2, 1) := by decide +kernel
theorem dX3_runs_10 : decode cX3_runs 10 = .ok (.idiv, 1) := by decide +kernel
theorem dX3_runs_11 : decode cX3_runs 11 = .ok (.goto 4, 3) := by decide +kernel
theorem dX3_runs_14 : decode cX3_runs 14 = .ok (.iload_n 3, 1) := by decide +kernel
theorem dX3_runs_15 : decode cX3_runs 15 = .ok (.ireturn, 1) := by decide +kernel
theorem dX3_behindDriving_0 : decode cX3_behindDriving 0 = .ok (.iload_n 1, 1) := by decide +kernel
theorem dX3_behindDriving_1 : decode cX3_behindDriving 1 = .ok (.iconst 1, 1) := by decide +kernel
theorem dX3_behindDriving_2 : decode cX3_behindDriving 2 = .ok (.isub, 1) := by decide +kernel
theorem dX3_behindDriving_3 : decode cX3_behindDriving 3 = .ok (.iload_n 1, 1) := by decide +kernel
theorem dX3_behindDriving_4 : decode cX3_behindDriving 4 = .ok (.bipush 10, 2) := by decide +kernel
theorem dX3_behindDriving_6 : decode cX3_behindDriving 6 = .ok (.idiv, 1) := by decide +kernel
theorem dX3_behindDriving_7 : decode cX3_behindDriving 7 = .ok (.isub, 1) := by decide +kernel
theorem dX3_behindDriving_8 : decode cX3_behindDriving 8 = .ok (.ireturn, 1) := by decide +kernel
theorem dX3_behindTelling_0 : decode cX3_behindTelling 0 = .ok (.iload_n 1, 1) := by decide +kernel
theorem dX3_behindTelling_1 : decode cX3_behindTelling 1 = .ok (.iconst 4, 1) := by decide +kernel
theorem dX3_behindTelling_2 : decode cX3_behindTelling 2 = .ok (.iadd, 1) := by decide +kernel
theorem dX3_behindTelling_3 : decode cX3_behindTelling 3 = .ok (.ireturn, 1) := by decide +kernel
theorem dX3_behindResting_0 : decode cX3_behindResting 0 = .ok (.iload_n 1, 1) := by decide +kernel
theorem dX3_behindResting_1 : decode cX3_behindResting 1 = .ok (.iconst 1, 1) := by decide +kernel
theorem dX3_behindResting_2 : decode cX3_behindResting 2 = .ok (.isub, 1) := by decide +kernel
theorem dX3_behindResting_3 : decode cX3_behindResting 3 = .ok (.ireturn, 1) := by decide +kernel
theorem dX3_left_0 : decode cX3_left 0 = .ok (.iload_n 1, 1) := by decide +kernel
theorem dX3_left_1 : decode cX3_left 1 = .ok (.ifCond .ne 12, 3) := by decide +kernel
theorem dX3_left_4 : decode cX3_left 4 = .ok (.aload_n 0, 1) := by decide +kernel
theorem dX3_left_5 : decode cX3_left 5 = .ok (.iload_n 2, 1) := by decide +kernel
theorem dX3_left_6 : decode cX3_left 6 = .ok (.invokevirtual 9, 3) := by decide +kernel
theorem dX3_left_9 : decode cX3_left 9 = .ok (.istore_n 3, 1) := by decide +kernel
theorem dX3_left_10 : decode cX3_left 10 = .ok (.goto 23, 3) := by decide +kernel
theorem dX3_left_13 : decode cX3_left 13 = .ok (.iload_n 1, 1) := by decide +kernel
theorem dX3_left_14 : decode cX3_left 14 = .ok (.iconst 1, 1) := by decide +kernel
theorem dX3_left_15 : decode cX3_left 15 = .ok (.if_icmp .ne 12, 3) := by decide +kernel
theorem dX3_left_18 : decode cX3_left 18 = .ok (.aload_n 0, 1) := by decide +kernel
theorem dX3_left_19 : decode cX3_left 19 = .ok (.iload_n 2, 1) := by decide +kernel
theorem dX3_left_20 : decode cX3_left 20 = .ok (.invokevirtual 15, 3) := by decide +kernel
theorem dX3_left_23 : decode cX3_left 23 = .ok (.istore_n 3, 1) := by decide +kernel
theorem dX3_left_24 : decode cX3_left 24 = .ok (.goto 9, 3) := by decide +kernel
theorem dX3_left_27 : decode cX3_left 27 = .ok (.aload_n 0, 1) := by decide +kernel
theorem dX3_left_28 : decode cX3_left 28 = .ok (.iload_n 2, 1) := by decide +kernel
theorem dX3_left_29 : decode cX3_left 29 = .ok (.invokevirtual 18, 3) := by decide +kernel
theorem dX3_left_32 : decode cX3_left 32 = .ok (.istore_n 3, 1) := by decide +kernel
theorem dX3_left_33 : decode cX3_left 33 = .ok (.iconst 0, 1) := by decide +kernel
theorem dX3_left_34 : decode cX3_left 34 = .ok (.bipush 99, 2) := by decide +kernel
theorem dX3_left_36 : decode cX3_left 36 = .ok (.iload_n 3, 1) := by decide +kernel
theorem dX3_left_37 : decode cX3_left 37 = .ok (.invokestatic 21, 3) := by decide +kernel
theorem dX3_left_40 : decode cX3_left 40 = .ok (.invokestatic 27, 3) := by decide +kernel
theorem dX3_left_43 : decode cX3_left 43 = .ok (.ireturn, 1) := by decide +kernel
theorem dX3_milesFromFirstDay_0 : decode cX3_milesFromFirstDay 0 = .ok (.iconst 0, 1) := by decide +kernel
theorem dX3_milesFromFirstDay_1 : decode cX3_milesFromFirstDay 1 = .ok (.istore_n 3, 1) := by decide +kernel
theorem dX3_milesFromFirstDay_2 : decode cX3_milesFromFirstDay 2 = .ok (.iload_n 1, 1) := by decide +kernel
theorem dX3_milesFromFirstDay_3 : decode cX3_milesFromFirstDay 3 = .ok (.istore 4, 2) := by decide +kernel
theorem dX3_milesFromFirstDay_5 : decode cX3_milesFromFirstDay 5 = .ok (.iconst 0, 1) := by decide +kernel
theorem dX3_milesFromFirstDay_6 : decode cX3_milesFromFirstDay 6 = .ok (.istore 5, 2) := by decide +kernel
theorem dX3_milesFromFirstDay_8 : decode cX3_milesFromFirstDay 8 = .ok (.iload 5, 2) := by decide +kernel
theorem dX3_milesFromFirstDay_10 : decode cX3_milesFromFirstDay 10 = .ok (.iload_n 2, 1) := by decide +kernel
theorem dX3_milesFromFirstDay_11 : decode cX3_milesFromFirstDay 11 = .ok (.if_icmp .ge 32, 3) := by decide +kernel
theorem dX3_milesFromFirstDay_14 : decode cX3_milesFromFirstDay 14 = .ok (.iload_n 3, 1) := by decide +kernel
theorem dX3_milesFromFirstDay_15 : decode cX3_milesFromFirstDay 15 = .ok (.aload_n 0, 1) := by decide +kernel
theorem dX3_milesFromFirstDay_16 : decode cX3_milesFromFirstDay 16 = .ok (.iload 5, 2) := by decide +kernel
theorem dX3_milesFromFirstDay_18 : decode cX3_milesFromFirstDay 18 = .ok (.invokestatic 30, 3) := by decide +kernel
theorem dX3_milesFromFirstDay_21 : decode cX3_milesFromFirstDay 21 = .ok (.iload 4, 2) := by decide +kernel
theorem dX3_milesFromFirstDay_23 : decode cX3_milesFromFirstDay 23 = .ok (.invokevirtual 33, 3) := by decide +kernel
theorem dX3_milesFromFirstDay_26 : decode cX3_milesFromFirstDay 26 = .ok (.iadd, 1) := by decide +kernel
theorem dX3_milesFromFirstDay_27 : decode cX3_milesFromFirstDay 27 = .ok (.istore_n 3, 1) := by decide +kernel
theorem dX3_milesFromFirstDay_28 : decode cX3_milesFromFirstDay 28 = .ok (.aload_n 0, 1) := by decide +kernel
theorem dX3_milesFromFirstDay_29 : decode cX3_milesFromFirstDay 29 = .ok (.iconst 0, 1) := by decide +kernel
theorem dX3_milesFromFirstDay_30 : decode cX3_milesFromFirstDay 30 = .ok (.iload 4, 2) := by decide +kernel
theorem dX3_milesFromFirstDay_32 : decode cX3_milesFromFirstDay 32 = .ok (.invokevirtual 36, 3) := by decide +kernel
theorem dX3_milesFromFirstDay_35 : decode cX3_milesFromFirstDay 35 = .ok (.istore 4, 2) := by decide +kernel
theorem dX3_milesFromFirstDay_37 : decode cX3_milesFromFirstDay 37 = .ok (.iinc 5 1, 3) := by decide +kernel
theorem dX3_milesFromFirstDay_40 : decode cX3_milesFromFirstDay 40 = .ok (.goto (-32), 3) := by decide +kernel
theorem dX3_milesFromFirstDay_43 : decode cX3_milesFromFirstDay 43 = .ok (.iload_n 3, 1) := by decide +kernel
theorem dX3_milesFromFirstDay_44 : decode cX3_milesFromFirstDay 44 = .ok (.ireturn, 1) := by decide +kernel
theorem dX4_init_0 : decode cX4_init 0 = .ok (.aload_n 0, 1) := by decide +kernel
theorem dX4_init_1 : decode cX4_init 1 = .ok (.invokespecial 3, 3) := by decide +kernel
theorem dX4_init_4 : decode cX4_init 4 = .ok (.aload_n 0, 1) := by decide +kernel
theorem dX4_init_5 : decode cX4_init 5 = .ok (.bipush 6, 2) := by decide +kernel
theorem dX4_init_7 : decode cX4_init 7 = .ok (.anewarray 9, 3) := by decide +kernel
theorem dX4_init_10 : decode cX4_init 10 = .ok (.dup, 1) := by decide +kernel
theorem dX4_init_11 : decode cX4_init 11 = .ok (.iconst 0, 1) := by decide +kernel
theorem dX4_init_12 : decode cX4_init 12 = .ok (.new 9, 3) := by decide +kernel
theorem dX4_init_15 : decode cX4_init 15 = .ok (.dup, 1) := by decide +kernel
theorem dX4_init_16 : decode cX4_init 16 = .ok (.invokespecial 11, 3) := by decide +kernel
theorem dX4_init_19 : decode cX4_init 19 = .ok (.aastore, 1) := by decide +kernel
theorem dX4_init_20 : decode cX4_init 20 = .ok (.dup, 1) := by decide +kernel
theorem dX4_init_21 : decode cX4_init 21 = .ok (.iconst 1, 1) := by decide +kernel
theorem dX4_init_22 : decode cX4_init 22 = .ok (.new 12, 3) := by decide +kernel
theorem dX4_init_25 : decode cX4_init 25 = .ok (.dup, 1) := by decide +kernel
theorem dX4_init_26 : decode cX4_init 26 = .ok (.invokespecial 14, 3) := by decide +kernel
theorem dX4_init_29 : decode cX4_init 29 = .ok (.aastore, 1) := by decide +kernel
theorem dX4_init_30 : decode cX4_init 30 = .ok (.dup, 1) := by decide +kernel
theorem dX4_init_31 : decode cX4_init 31 = .ok (.iconst 2, 1) := by decide +kernel
theorem dX4_init_32 : decode cX4_init 32 = .ok (.new 15, 3) := by decide +kernel
theorem dX4_init_35 : decode cX4_init 35 = .ok (.dup, 1) := by decide +kernel
theorem dX4_init_36 : decode cX4_init 36 = .ok (.invokespecial 17, 3) := by decide +kernel
theorem dX4_init_39 : decode cX4_init 39 = .ok (.aastore, 1) := by decide +kernel
theorem dX4_init_40 : decode cX4_init 40 = .ok (.dup, 1) := by decide +kernel
theorem dX4_init_41 : decode cX4_init 41 = .ok (.iconst 3, 1) := by decide +kernel
theorem dX4_init_42 : decode cX4_init 42 = .ok (.new 18, 3) := by decide +kernel
theorem dX4_init_45 : decode cX4_init 45 = .ok (.dup, 1) := by decide +kernel
theorem dX4_init_46 : decode cX4_init 46 = .ok (.invokespecial 20, 3) := by decide +kernel
theorem dX4_init_49 : decode cX4_init 49 = .ok (.aastore, 1) := by decide +kernel
theorem dX4_init_50 : decode cX4_init 50 = .ok (.dup, 1) := by decide +kernel
theorem dX4_init_51 : decode cX4_init 51 = .ok (.iconst 4, 1) := by decide +kernel
theorem dX4_init_52 : decode cX4_init 52 = .ok (.new 21, 3) := by decide +kernel
theorem dX4_init_55 : decode cX4_init 55 = .ok (.dup, 1) := by decide +kernel
theorem dX4_init_56 : decode cX4_init 56 = .ok (.invokespecial 23, 3) := by decide +kernel
theorem dX4_init_59 : decode cX4_init 59 = .ok (.aastore, 1) := by decide +kernel
theorem dX4_init_60 : decode cX4_init 60 = .ok (.dup, 1) := by decide +kernel
theorem dX4_init_61 : decode cX4_init 61 = .ok (.iconst 5, 1) := by decide +kernel
theorem dX4_init_62 : decode cX4_init 62 = .ok (.new 24, 3) := by decide +kernel
theorem dX4_init_65 : decode cX4_init 65 = .ok (.dup, 1) := by decide +kernel
theorem dX4_init_66 : decode cX4_init 66 = .ok (.invokespecial 26, 3) := by decide +kernel
theorem dX4_init_69 : decode cX4_init 69 = .ok (.aastore, 1) := by decide +kernel
theorem dX4_init_70 : decode cX4_init 70 = .ok (.putfield 27, 3) := by decide +kernel
theorem dX4_init_73 : decode cX4_init 73 = .ok (.aload_n 0, 1) := by decide +kernel
theorem dX4_init_74 : decode cX4_init 74 = .ok (.bipush 6, 2) := by decide +kernel
theorem dX4_init_76 : decode cX4_init 76 = .ok (.newarray .int, 2) := by decide +kernel
theorem dX4_init_78 : decode cX4_init 78 = .ok (.putfield 33, 3) := by decide +kernel
theorem dX4_init_81 : decode cX4_init 81 = .ok (.aload_n 0, 1) := by decide +kernel
theorem dX4_init_82 : decode cX4_init 82 = .ok (.bipush 6, 2) := by decide +kernel
theorem dX4_init_84 : decode cX4_init 84 = .ok (.newarray .int, 2) := by decide +kernel
theorem dX4_init_86 : decode cX4_init 86 = .ok (.putfield 37, 3) := by decide +kernel
theorem dX4_init_89 : decode cX4_init 89 = .ok (.aload_n 0, 1) := by decide +kernel
theorem dX4_init_90 : decode cX4_init 90 = .ok (.bipush 6, 2) := by decide +kernel
theorem dX4_init_92 : decode cX4_init 92 = .ok (.newarray .int, 2) := by decide +kernel
theorem dX4_init_94 : decode cX4_init 94 = .ok (.putfield 40, 3) := by decide +kernel
theorem dX4_init_97 : decode cX4_init 97 = .ok (.aload_n 0, 1) := by decide +kernel
theorem dX4_init_98 : decode cX4_init 98 = .ok (.bipush 36, 2) := by decide +kernel
theorem dX4_init_100 : decode cX4_init 100 = .ok (.newarray .int, 2) := by decide +kernel
theorem dX4_init_102 : decode cX4_init 102 = .ok (.putfield 43, 3) := by decide +kernel
theorem dX4_init_105 : decode cX4_init 105 = .ok (.aload_n 0, 1) := by decide +kernel
theorem dX4_init_106 : decode cX4_init 106 = .ok (.bipush 12, 2) := by decide +kernel
theorem dX4_init_108 : decode cX4_init 108 = .ok (.newarray .int, 2) := by decide +kernel
theorem dX4_init_110 : decode cX4_init 110 = .ok (.putfield 46, 3) := by decide +kernel
theorem dX4_init_113 : decode cX4_init 113 = .ok (.aload_n 0, 1) := by decide +kernel
theorem dX4_init_114 : decode cX4_init 114 = .ok (.bipush 104, 2) := by decide +kernel
theorem dX4_init_116 : decode cX4_init 116 = .ok (.newarray .int, 2) := by decide +kernel
theorem dX4_init_118 : decode cX4_init 118 = .ok (.putfield 49, 3) := by decide +kernel
theorem dX4_init_121 : decode cX4_init 121 = .ok (.return_, 1) := by decide +kernel
theorem dX4_reset_0 : decode cX4_reset 0 = .ok (.aload_n 0, 1) := by decide +kernel
theorem dX4_reset_1 : decode cX4_reset 1 = .ok (.iconst 0, 1) := by decide +kernel
theorem dX4_reset_2 : decode cX4_reset 2 = .ok (.putfield 52, 3) := by decide +kernel
theorem dX4_reset_5 : decode cX4_reset 5 = .ok (.aload_n 0, 1) := by decide +kernel
theorem dX4_reset_6 : decode cX4_reset 6 = .ok (.iconst 0, 1) := by decide +kernel
theorem dX4_reset_7 : decode cX4_reset 7 = .ok (.putfield 56, 3) := by decide +kernel
theorem dX4_reset_10 : decode cX4_reset 10 = .ok (.aload_n 0, 1) := by decide +kernel
theorem dX4_reset_11 : decode cX4_reset 11 = .ok (.iconst 0, 1) := by decide +kernel
theorem dX4_reset_12 : decode cX4_reset 12 = .ok (.putfield 59, 3) := by decide +kernel
theorem dX4_reset_15 : decode cX4_reset 15 = .ok (.aload_n 0, 1) := by decide +kernel
theorem dX4_reset_16 : decode cX4_reset 16 = .ok (.iconst 0, 1) := by decide +kernel
theorem dX4_reset_17 : decode cX4_reset 17 = .ok (.putfield 62, 3) := by decide +kernel
theorem dX4_reset_20 : decode cX4_reset 20 = .ok (.aload_n 0, 1) := by decide +kernel
theorem dX4_reset_21 : decode cX4_reset 21 = .ok (.iconst 0, 1) := by decide +kernel
theorem dX4_reset_22 : decode cX4_reset 22 = .ok (.putfield 65, 3) := by decide +kernel
theorem dX4_reset_25 : decode cX4_reset 25 = .ok (.return_, 1) := by decide +kernel
theorem dX4_copyFrom_0 : decode cX4_copyFrom 0 = .ok (.aload_n 1, 1) := by decide +kernel
theorem dX4_copyFrom_1 : decode cX4_copyFrom 1 = .ok (.getfield 33, 3) := by decide +kernel
theorem dX4_copyFrom_4 : decode cX4_copyFrom 4 = .ok (.iconst 0, 1) := by decide +kernel
theorem dX4_copyFrom_5 : decode cX4_copyFrom 5 = .ok (.aload_n 0, 1) := by decide +kernel
theorem dX4_copyFrom_6 : decode cX4_copyFrom 6 = .ok (.getfield 33, 3) := by decide +kernel
theorem dX4_copyFrom_9 : decode cX4_copyFrom 9 = .ok (.iconst 0, 1) := by decide +kernel
theorem dX4_copyFrom_10 : decode cX4_copyFrom 10 = .ok (.bipush 6, 2) := by decide +kernel
theorem dX4_copyFrom_12 : decode cX4_copyFrom 12 = .ok (.invokestatic 68, 3) := by decide +kernel
theorem dX4_copyFrom_15 : decode cX4_copyFrom 15 = .ok (.aload_n 1, 1) := by decide +kernel
theorem dX4_copyFrom_16 : decode cX4_copyFrom 16 = .ok (.getfield 37, 3) := by decide +kernel
theorem dX4_copyFrom_19 : decode cX4_copyFrom 19 = .ok (.iconst 0, 1) := by decide +kernel
theorem dX4_copyFrom_20 : decode cX4_copyFrom 20 = .ok (.aload_n 0, 1) := by decide +kernel
theorem dX4_copyFrom_21 : decode cX4_copyFrom 21 = .ok (.getfield 37, 3) := by decide +kernel
theorem dX4_copyFrom_24 : decode cX4_copyFrom 24 = .ok (.iconst 0, 1) := by decide +kernel
theorem dX4_copyFrom_25 : decode cX4_copyFrom 25 = .ok (.bipush 6, 2) := by decide +kernel
theorem dX4_copyFrom_27 : decode cX4_copyFrom 27 = .ok (.invokestatic 68, 3) := by decide +kernel
theorem dX4_copyFrom_30 : decode cX4_copyFrom 30 = .ok (.aload_n 1, 1) := by decide +kernel
theorem dX4_copyFrom_31 : decode cX4_copyFrom 31 = .ok (.getfield 40, 3) := by decide +kernel
theorem dX4_copyFrom_34 : decode cX4_copyFrom 34 = .ok (.iconst 0, 1) := by decide +kernel
theorem dX4_copyFrom_35 : decode cX4_copyFrom 35 = .ok (.aload_n 0, 1) := by decide +kernel
theorem dX4_copyFrom_36 : decode cX4_copyFrom 36 = .ok (.getfield 40, 3) := by decide +kernel
theorem dX4_copyFrom_39 : decode cX4_copyFrom 39 = .ok (.iconst 0, 1) := by decide +kernel
theorem dX4_copyFrom_40 : decode cX4_copyFrom 40 = .ok (.bipush 6, 2) := by decide +kernel
theorem dX4_copyFrom_42 : decode cX4_copyFrom 42 = .ok (.invokestatic 68, 3) := by decide +kernel
theorem dX4_copyFrom_45 : decode cX4_copyFrom 45 = .ok (.aload_n 1, 1) := by decide +kernel
theorem dX4_copyFrom_46 : decode cX4_copyFrom 46 = .ok (.getfield 43, 3) := by decide +kernel
theorem dX4_copyFrom_49 : decode cX4_copyFrom 49 = .ok (.iconst 0, 1) := by decide +kernel
theorem dX4_copyFrom_50 : decode cX4_copyFrom 50 = .ok (.aload_n 0, 1) := by decide +kernel
theorem dX4_copyFrom_51 : decode cX4_copyFrom 51 = .ok (.getfield 43, 3) := by decide +kernel
theorem dX4_copyFrom_54 : decode cX4_copyFrom 54 = .ok (.iconst 0, 1) := by decide +kernel
theorem dX4_copyFrom_55 : decode cX4_copyFrom 55 = .ok (.aload_n 0, 1) := by decide +kernel
theorem dX4_copyFrom_56 : decode cX4_copyFrom 56 = .ok (.getfield 43, 3) := by decide +kernel
theorem dX4_copyFrom_59 : decode cX4_copyFrom 59 = .ok (.arraylength, 1) := by decide +kernel
theorem dX4_copyFrom_60 : decode cX4_copyFrom 60 = .ok (.invokestatic 68, 3) := by decide +kernel
theorem dX4_copyFrom_63 : decode cX4_copyFrom 63 = .ok (.aload_n 1, 1) := by decide +kernel
theorem dX4_copyFrom_64 : decode cX4_copyFrom 64 = .ok (.getfield 46, 3) := by decide +kernel
theorem dX4_copyFrom_67 : decode cX4_copyFrom 67 = .ok (.iconst 0, 1) := by decide +kernel
theorem dX4_copyFrom_68 : decode cX4_copyFrom 68 = .ok (.aload_n 0, 1) := by decide +kernel
theorem dX4_copyFrom_69 : decode cX4_copyFrom 69 = .ok (.getfield 46, 3) := by decide +kernel
theorem dX4_copyFrom_72 : decode cX4_copyFrom 72 = .ok (.iconst 0, 1) := by decide +kernel
theorem dX4_copyFrom_73 : decode cX4_copyFrom 73 = .ok (.aload_n 0, 1) := by decide +kernel
theorem dX4_copyFrom_74 : decode cX4_copyFrom 74 = .ok (.getfield 46, 3) := by decide +kernel
theorem dX4_copyFrom_77 : decode cX4_copyFrom 77 = .ok (.arraylength, 1) := by decide +kernel
theorem dX4_copyFrom_78 : decode cX4_copyFrom 78 = .ok (.invokestatic 68, 3) := by decide +kernel
theorem dX4_copyFrom_81 : decode cX4_copyFrom 81 = .ok (.aload_n 1, 1) := by decide +kernel
theorem dX4_copyFrom_82 : decode cX4_copyFrom 82 = .ok (.getfield 49, 3) := by decide +kernel
theorem dX4_copyFrom_85 : decode cX4_copyFrom 85 = .ok (.iconst 0, 1) := by decide +kernel
theorem dX4_copyFrom_86 : decode cX4_copyFrom 86 = .ok (.aload_n 0, 1) := by decide +kernel
theorem dX4_copyFrom_87 : decode cX4_copyFrom 87 = .ok (.getfield 49, 3) := by decide +kernel
theorem dX4_copyFrom_90 : decode cX4_copyFrom 90 = .ok (.iconst 0, 1) := by decide +kernel
theorem dX4_copyFrom_91 : decode cX4_copyFrom 91 = .ok (.aload_n 0, 1) := by decide +kernel
theorem dX4_copyFrom_92 : decode cX4_copyFrom 92 = .ok (.getfield 49, 3) := by decide +kernel
theorem dX4_copyFrom_95 : decode cX4_copyFrom 95 = .ok (.arraylength, 1) := by decide +kernel
theorem dX4_copyFrom_96 : decode cX4_copyFrom 96 = .ok (.invokestatic 68, 3) := by decide +kernel
theorem dX4_copyFrom_99 : decode cX4_copyFrom 99 = .ok (.aload_n 0, 1) := by decide +kernel
theorem dX4_copyFrom_100 : decode cX4_copyFrom 100 = .ok (.aload_n 1, 1) := by decide +kernel
theorem dX4_copyFrom_101 : decode cX4_copyFrom 101 = .ok (.getfield 52, 3) := by decide +kernel
theorem dX4_copyFrom_104 : decode cX4_copyFrom 104 = .ok (.putfield 52, 3) := by decide +kernel
theorem dX4_copyFrom_107 : decode cX4_copyFrom 107 = .ok (.aload_n 0, 1) := by decide +kernel
theorem dX4_copyFrom_108 : decode cX4_copyFrom 108 = .ok (.aload_n 1, 1) := by decide +kernel
theorem dX4_copyFrom_109 : decode cX4_copyFrom 109 = .ok (.getfield 56, 3) := by decide +kernel
theorem dX4_copyFrom_112 : decode cX4_copyFrom 112 = .ok (.putfield 56, 3) := by decide +kernel
theorem dX4_copyFrom_115 : decode cX4_copyFrom 115 = .ok (.aload_n 0, 1) := by decide +kernel
theorem dX4_copyFrom_116 : decode cX4_copyFrom 116 = .ok (.aload_n 1, 1) := by decide +kernel
theorem dX4_copyFrom_117 : decode cX4_copyFrom 117 = .ok (.getfield 59, 3) := by decide +kernel
theorem dX4_copyFrom_120 : decode cX4_copyFrom 120 = .ok (.putfield 59, 3) := by decide +kernel
theorem dX4_copyFrom_123 : decode cX4_copyFrom 123 = .ok (.aload_n 0, 1) := by decide +kernel
theorem dX4_copyFrom_124 : decode cX4_copyFrom 124 = .ok (.aload_n 1, 1) := by decide +kernel
theorem dX4_copyFrom_125 : decode cX4_copyFrom 125 = .ok (.getfield 62, 3) := by decide +kernel
theorem dX4_copyFrom_128 : decode cX4_copyFrom 128 = .ok (.putfield 62, 3) := by decide +kernel
theorem dX4_copyFrom_131 : decode cX4_copyFrom 131 = .ok (.aload_n 0, 1) := by decide +kernel
theorem dX4_copyFrom_132 : decode cX4_copyFrom 132 = .ok (.aload_n 1, 1) := by decide +kernel
theorem dX4_copyFrom_133 : decode cX4_copyFrom 133 = .ok (.getfield 65, 3) := by decide +kernel
theorem dX4_copyFrom_136 : decode cX4_copyFrom 136 = .ok (.putfield 65, 3) := by decide +kernel
theorem dX4_copyFrom_139 : decode cX4_copyFrom 139 = .ok (.return_, 1) := by decide +kernel
theorem dX4_has_0 : decode cX4_has 0 = .ok (.iload_n 1, 1) := by decide +kernel
theorem dX4_has_1 : decode cX4_has 1 = .ok (.ifCond .lt 15, 3) := by decide +kernel
theorem dX4_has_4 : decode cX4_has 4 = .ok (.iload_n 1, 1) := by decide +kernel
theorem dX4_has_5 : decode cX4_has 5 = .ok (.aload_n 0, 1) := by decide +kernel
theorem dX4_has_6 : decode cX4_has 6 = .ok (.getfield 52, 3) := by decide +kernel
theorem dX4_has_9 : decode cX4_has 9 = .ok (.if_icmp .ge 7, 3) := by decide +kernel
theorem dX4_has_12 : decode cX4_has 12 = .ok (.iconst 1, 1) := by decide +kernel
theorem dX4_has_13 : decode cX4_has 13 = .ok (.goto 4, 3) := by decide +kernel
theorem dX4_has_16 : decode cX4_has 16 = .ok (.iconst 0, 1) := by decide +kernel
theorem dX4_has_17 : decode cX4_has 17 = .ok (.ireturn, 1) := by decide +kernel
theorem dX4_isFull_0 : decode cX4_isFull 0 = .ok (.aload_n 0, 1) := by decide +kernel
theorem dX4_isFull_1 : decode cX4_isFull 1 = .ok (.getfield 52, 3) := by decide +kernel
theorem dX4_isFull_4 : decode cX4_isFull 4 = .ok (.bipush 6, 2) := by decide +kernel
theorem dX4_isFull_6 : decode cX4_isFull 6 = .ok (.if_icmp .lt 7, 3) := by decide +kernel
theorem dX4_isFull_9 : decode cX4_isFull 9 = .ok (.iconst 1, 1) := by decide +kernel
theorem dX4_isFull_10 : decode cX4_isFull 10 = .ok (.goto 4, 3) := by decide +kernel
theorem dX4_isFull_13 : decode cX4_isFull 13 = .ok (.iconst 0, 1) := by decide +kernel
theorem dX4_isFull_14 : decode cX4_isFull 14 = .ok (.ireturn, 1) := by decide +kernel
theorem dX4_kindOf_0 : decode cX4_kindOf 0 = .ok (.aload_n 0, 1) := by decide +kernel
theorem dX4_kindOf_1 : decode cX4_kindOf 1 = .ok (.iload_n 1, 1) := by decide +kernel
theorem dX4_kindOf_2 : decode cX4_kindOf 2 = .ok (.invokevirtual 74, 3) := by decide +kernel
theorem dX4_kindOf_5 : decode cX4_kindOf 5 = .ok (.ifCond .eq 12, 3) := by decide +kernel
theorem dX4_kindOf_8 : decode cX4_kindOf 8 = .ok (.aload_n 0, 1) := by decide +kernel
theorem dX4_kindOf_9 : decode cX4_kindOf 9 = .ok (.getfield 33, 3) := by decide +kernel
theorem dX4_kindOf_12 : decode cX4_kindOf 12 = .ok (.iload_n 1, 1) := by decide +kernel
theorem dX4_kindOf_13 : decode cX4_kindOf 13 = .ok (.iaload, 1) := by decide +kernel
theorem dX4_kindOf_14 : decode cX4_kindOf 14 = .ok (.goto 4, 3) := by decide +kernel
theorem dX4_kindOf_17 : decode cX4_kindOf 17 = .ok (.iconst 0, 1) := by decide +kernel
theorem dX4_kindOf_18 : decode cX4_kindOf 18 = .ok (.istore_n 2, 1) := by decide +kernel
theorem dX4_kindOf_19 : decode cX4_kindOf 19 = .ok (.iload_n 2, 1) := by decide +kernel
theorem dX4_kindOf_20 : decode cX4_kindOf 20 = .ok (.ifCond .lt 21, 3) := by decide +kernel
theorem dX4_kindOf_23 : decode cX4_kindOf 23 = .ok (.iload_n 2, 1) := by decide +kernel
theorem dX4_kindOf_24 : decode cX4_kindOf 24 = .ok (.aload_n 0, 1) := by decide +kernel
theorem dX4_kindOf_25 : decode cX4_kindOf 25 = .ok (.getfield 27, 3) := by decide +kernel
theorem dX4_kindOf_28 : decode cX4_kindOf 28 = .ok (.arraylength, 1) := by decide +kernel
theorem dX4_kindOf_29 : decode cX4_kindOf 29 = .ok (.if_icmp .ge 12, 3) := by decide +kernel
theorem dX4_kindOf_32 : decode cX4_kindOf 32 = .ok (.aload_n 0, 1) := by decide +kernel
theorem dX4_kindOf_33 : decode cX4_kindOf 33 = .ok (.getfield 27, 3) := by decide +kernel
theorem dX4_kindOf_36 : decode cX4_kindOf 36 = .ok (.iload_n 2, 1) := by decide +kernel
theorem dX4_kindOf_37 : decode cX4_kindOf 37 = .ok (.aaload, 1) := by decide +kernel
theorem dX4_kindOf_38 : decode cX4_kindOf 38 = .ok (.goto 9, 3) := by decide +kernel
theorem dX4_kindOf_41 : decode cX4_kindOf 41 = .ok (.aload_n 0, 1) := by decide +kernel
theorem dX4_kindOf_42 : decode cX4_kindOf 42 = .ok (.getfield 27, 3) := by decide +kernel
theorem dX4_kindOf_45 : decode cX4_kindOf 45 = .ok (.iconst 0, 1) := by decide +kernel
theorem dX4_kindOf_46 : decode cX4_kindOf 46 = .ok (.aaload, 1) := by decide +kernel
theorem dX4_kindOf_47 : decode cX4_kindOf 47 = .ok (.areturn, 1) := by decide +kernel
theorem dX4_addDriver_0 : decode cX4_addDriver 0 = .ok (.aload_n 0, 1) := by decide +kernel
theorem dX4_addDriver_1 : decode cX4_addDriver 1 = .ok (.invokevirtual 78, 3) := by decide +kernel
theorem dX4_addDriver_4 : decode cX4_addDriver 4 = .ok (.ifCond .eq 6, 3) := by decide +kernel
theorem dX4_addDriver_7 : decode cX4_addDriver 7 = .ok (.bipush (-4), 2) := by decide +kernel
theorem dX4_addDriver_9 : decode cX4_addDriver 9 = .ok (.ireturn, 1) := by decide +kernel
theorem dX4_addDriver_10 : decode cX4_addDriver 10 = .ok (.aload_n 0, 1) := by decide +kernel
theorem dX4_addDriver_11 : decode cX4_addDriver 11 = .ok (.getfield 52, 3) := by decide +kernel
theorem dX4_addDriver_14 : decode cX4_addDriver 14 = .ok (.istore_n 3, 1) := by decide +kernel
theorem dX4_addDriver_15 : decode cX4_addDriver 15 = .ok (.aload_n 0, 1) := by decide +kernel
theorem dX4_addDriver_16 : decode cX4_addDriver 16 = .ok (.getfield 33, 3) := by decide +kernel
theorem dX4_addDriver_19 : decode cX4_addDriver 19 = .ok (.iload_n 3, 1) := by decide +kernel
theorem dX4_addDriver_20 : decode cX4_addDriver 20 = .ok (.iload_n 1, 1) := by decide +kernel
theorem dX4_addDriver_21 : decode cX4_addDriver 21 = .ok (.iastore, 1) := by decide +kernel
theorem dX4_addDriver_22 : decode cX4_addDriver 22 = .ok (.aload_n 0, 1) := by decide +kernel
theorem dX4_addDriver_23 : decode cX4_addDriver 23 = .ok (.getfield 37, 3) := by decide +kernel
theorem dX4_addDriver_26 : decode cX4_addDriver 26 = .ok (.iload_n 3, 1) := by decide +kernel
theorem dX4_addDriver_27 : decode cX4_addDriver 27 = .ok (.iload_n 2, 1) := by decide +kernel
theorem dX4_addDriver_28 : decode cX4_addDriver 28 = .ok (.iastore, 1) := by decide +kernel
theorem dX4_addDriver_29 : decode cX4_addDriver 29 = .ok (.aload_n 0, 1) := by decide +kernel
theorem dX4_addDriver_30 : decode cX4_addDriver 30 = .ok (.getfield 40, 3) := by decide +kernel
theorem dX4_addDriver_33 : decode cX4_addDriver 33 = .ok (.iload_n 3, 1) := by decide +kernel
theorem dX4_addDriver_34 : decode cX4_addDriver 34 = .ok (.iconst 0, 1) := by decide +kernel
theorem dX4_addDriver_35 : decode cX4_addDriver 35 = .ok (.iastore, 1) := by decide +kernel
theorem dX4_addDriver_36 : decode cX4_addDriver 36 = .ok (.aload_n 0, 1) := by decide +kernel
theorem dX4_addDriver_37 : decode cX4_addDriver 37 = .ok (.dup, 1) := by decide +kernel
theorem dX4_addDriver_38 : decode cX4_addDriver 38 = .ok (.getfield 52, 3) := by decide +kernel
theorem dX4_addDriver_41 : decode cX4_addDriver 41 = .ok (.iconst 1, 1) := by decide +kernel
theorem dX4_addDriver_42 : decode cX4_addDriver 42 = .ok (.iadd, 1) := by decide +kernel
theorem dX4_addDriver_43 : decode cX4_addDriver 43 = .ok (.putfield 52, 3) := by decide +kernel
theorem dX4_addDriver_46 : decode cX4_addDriver 46 = .ok (.aload_n 0, 1) := by decide +kernel
theorem dX4_addDriver_47 : decode cX4_addDriver 47 = .ok (.iconst 0, 1) := by decide +kernel
theorem dX4_addDriver_48 : decode cX4_addDriver 48 = .ok (.putfield 65, 3) := by decide +kernel
theorem dX4_addDriver_51 : decode cX4_addDriver 51 = .ok (.iload_n 3, 1) := by decide +kernel
theorem dX4_addDriver_52 : decode cX4_addDriver 52 = .ok (.ireturn, 1) := by decide +kernel
theorem dX4_passDays_0 : decode cX4_passDays 0 = .ok (.iconst 0, 1) := by decide +kernel
theorem dX4_passDays_1 : decode cX4_passDays 1 = .ok (.istore 4, 2) := by decide +kernel
theorem dX4_passDays_3 : decode cX4_passDays 3 = .ok (.iconst 0, 1) := by decide +kernel
theorem dX4_passDays_4 : decode cX4_passDays 4 = .ok (.istore 5, 2) := by decide +kernel
theorem dX4_passDays_6 : decode cX4_passDays 6 = .ok (.iload 5, 2) := by decide +kernel
theorem dX4_passDays_8 : decode cX4_passDays 8 = .ok (.iload_n 1, 1) := by decide +kernel
theorem dX4_passDays_9 : decode cX4_passDays 9 = .ok (.if_icmp .ge 74, 3) := by decide +kernel
theorem dX4_passDays_12 : decode cX4_passDays 12 = .ok (.aload_n 0, 1) := by decide +kernel
theorem dX4_passDays_13 : decode cX4_passDays 13 = .ok (.getfield 56, 3) := by decide +kernel
theorem dX4_passDays_16 : decode cX4_passDays 16 = .ok (.sipush 9999, 3) := by decide +kernel
theorem dX4_passDays_19 : decode cX4_passDays 19 = .ok (.if_icmp .ge 64, 3) := by decide +kernel
theorem dX4_passDays_22 : decode cX4_passDays 22 = .ok (.iconst 0, 1) := by decide +kernel
theorem dX4_passDays_23 : decode cX4_passDays 23 = .ok (.istore 6, 2) := by decide +kernel
theorem dX4_passDays_25 : decode cX4_passDays 25 = .ok (.iload 6, 2) := by decide +kernel
theorem dX4_passDays_27 : decode cX4_passDays 27 = .ok (.aload_n 0, 1) := by decide +kernel
theorem dX4_passDays_28 : decode cX4_passDays 28 = .ok (.getfield 52, 3) := by decide +kernel
theorem dX4_passDays_31 : decode cX4_passDays 31 = .ok (.if_icmp .ge 36, 3) := by decide +kernel
theorem dX4_passDays_34 : decode cX4_passDays 34 = .ok (.iload 4, 2) := by decide +kernel
theorem dX4_passDays_36 : decode cX4_passDays 36 = .ok (.aload_n 0, 1) := by decide +kernel
theorem dX4_passDays_37 : decode cX4_passDays 37 = .ok (.iload 6, 2) := by decide +kernel
theorem dX4_passDays_39 : decode cX4_passDays 39 = .ok (.iload_n 2, 1) := by decide +kernel
theorem dX4_passDays_40 : decode cX4_passDays 40 = .ok (.iconst (-1), 1) := by decide +kernel
theorem dX4_passDays_41 : decode cX4_passDays 41 = .ok (.if_icmp .eq 9, 3) := by decide +kernel
theorem dX4_passDays_44 : decode cX4_passDays 44 = .ok (.iload_n 2, 1) := by decide +kernel
theorem dX4_passDays_45 : decode cX4_passDays 45 = .ok (.iload 6, 2) := by decide +kernel
theorem dX4_passDays_47 : decode cX4_passDays 47 = .ok (.if_icmp .ne 7, 3) := by decide +kernel
theorem dX4_passDays_50 : decode cX4_passDays 50 = .ok (.iload_n 3, 1) := by decide +kernel
theorem dX4_passDays_51 : decode cX4_passDays 51 = .ok (.goto 4, 3) := by decide +kernel
theorem dX4_passDays_54 : decode cX4_passDays 54 = .ok (.iconst 2, 1) := by decide +kernel
theorem dX4_passDays_55 : decode cX4_passDays 55 = .ok (.invokevirtual 82, 3) := by decide +kernel
theorem dX4_passDays_58 : decode cX4_passDays 58 = .ok (.iadd, 1) := by decide +kernel
theorem dX4_passDays_59 : decode cX4_passDays 59 = .ok (.istore 4, 2) := by decide +kernel
theorem dX4_passDays_61 : decode cX4_passDays 61 = .ok (.iinc 6 1, 3) := by decide +kernel
theorem dX4_passDays_64 : decode cX4_passDays 64 = .ok (.goto (-39), 3) := by decide +kernel
theorem dX4_passDays_67 : decode cX4_passDays 67 = .ok (.aload_n 0, 1) := by decide +kernel
theorem dX4_passDays_68 : decode cX4_passDays 68 = .ok (.dup, 1) := by decide +kernel
theorem dX4_passDays_69 : decode cX4_passDays 69 = .ok (.getfield 56, 3) := by decide +kernel
theorem dX4_passDays_72 : decode cX4_passDays 72 = .ok (.iconst 1, 1) := by decide +kernel
theorem dX4_passDays_73 : decode cX4_passDays 73 = .ok (.iadd, 1) := by decide +kernel
theorem dX4_passDays_74 : decode cX4_passDays 74 = .ok (.putfield 56, 3) := by decide +kernel
theorem dX4_passDays_77 : decode cX4_passDays 77 = .ok (.iinc 5 1, 3) := by decide +kernel
theorem dX4_passDays_80 : decode cX4_passDays 80 = .ok (.goto (-74), 3) := by decide +kernel
theorem dX4_passDays_83 : decode cX4_passDays 83 = .ok (.iload 4, 2) := by decide +kernel
theorem dX4_passDays_85 : decode cX4_passDays 85 = .ok (.ireturn, 1) := by decide +kernel
theorem dX4_act_0 : decode cX4_act 0 = .ok (.aload_n 0, 1) := by decide +kernel
theorem dX4_act_1 : decode cX4_act 1 = .ok (.iload_n 1, 1) := by decide +kernel
theorem dX4_act_2 : decode cX4_act 2 = .ok (.invokevirtual 74, 3) := by decide +kernel
theorem dX4_act_5 : decode cX4_act 5 = .ok (.ifCond .ne 5, 3) := by decide +kernel
theorem dX4_act_8 : decode cX4_act 8 = .ok (.iconst 0, 1) := by decide +kernel
theorem dX4_act_9 : decode cX4_act 9 = .ok (.ireturn, 1) := by decide +kernel
theorem dX4_act_10 : decode cX4_act 10 = .ok (.aload_n 0, 1) := by decide +kernel
theorem dX4_act_11 : decode cX4_act 11 = .ok (.iload_n 1, 1) := by decide +kernel
theorem dX4_act_12 : decode cX4_act 12 = .ok (.invokevirtual 86, 3) := by decide +kernel
theorem dX4_act_15 : decode cX4_act 15 = .ok (.astore_n 3, 1) := by decide +kernel
theorem dX4_act_16 : decode cX4_act 16 = .ok (.iload_n 2, 1) := by decide +kernel
theorem dX4_act_17 : decode cX4_act 17 = .ok (.ifCond .ne 23, 3) := by decide +kernel
theorem dX4_act_20 : decode cX4_act 20 = .ok (.aload_n 3, 1) := by decide +kernel
theorem dX4_act_21 : decode cX4_act 21 = .ok (.aload_n 0, 1) := by decide +kernel
theorem dX4_act_22 : decode cX4_act 22 = .ok (.getfield 56, 3) := by decide +kernel
theorem dX4_act_25 : decode cX4_act 25 = .ok (.invokestatic 90, 3) := by decide +kernel
theorem dX4_act_28 : decode cX4_act 28 = .ok (.aload_n 0, 1) := by decide +kernel
theorem dX4_act_29 : decode cX4_act 29 = .ok (.getfield 37, 3) := by decide +kernel
theorem dX4_act_32 : decode cX4_act 32 = .ok (.iload_n 1, 1) := by decide +kernel
theorem dX4_act_33 : decode cX4_act 33 = .ok (.iaload, 1) := by decide +kernel
theorem dX4_act_34 : decode cX4_act 34 = .ok (.invokevirtual 94, 3) := by decide +kernel
theorem dX4_act_37 : decode cX4_act 37 = .ok (.goto 4, 3) := by decide +kernel
theorem dX4_act_40 : decode cX4_act 40 = .ok (.iconst 0, 1) := by decide +kernel
theorem dX4_act_41 : decode cX4_act 41 = .ok (.istore 4, 2) := by decide +kernel
theorem dX4_act_43 : decode cX4_act 43 = .ok (.aload_n 0, 1) := by decide +kernel
theorem dX4_act_44 : decode cX4_act 44 = .ok (.getfield 40, 3) := by decide +kernel
theorem dX4_act_47 : decode cX4_act 47 = .ok (.iload_n 1, 1) := by decide +kernel
theorem dX4_act_48 : decode cX4_act 48 = .ok (.dup2, 1) := by decide +kernel
theorem dX4_act_49 : decode cX4_act 49 = .ok (.iaload, 1) := by decide +kernel
theorem dX4_act_50 : decode cX4_act 50 = .ok (.iload 4, 2) := by decide +kernel
theorem dX4_act_52 : decode cX4_act 52 = .ok (.iadd, 1) := by decide +kernel
theorem dX4_act_53 : decode cX4_act 53 = .ok (.iastore, 1) := by decide +kernel
theorem dX4_act_54 : decode cX4_act 54 = .ok (.aload_n 0, 1) := by decide +kernel
theorem dX4_act_55 : decode cX4_act 55 = .ok (.getfield 37, 3) := by decide +kernel
theorem dX4_act_58 : decode cX4_act 58 = .ok (.iload_n 1, 1) := by decide +kernel
theorem dX4_act_59 : decode cX4_act 59 = .ok (.aload_n 3, 1) := by decide +kernel
theorem dX4_act_60 : decode cX4_act 60 = .ok (.iload_n 2, 1) := by decide +kernel
theorem dX4_act_61 : decode cX4_act 61 = .ok (.aload_n 0, 1) := by decide +kernel
theorem dX4_act_62 : decode cX4_act 62 = .ok (.getfield 37, 3) := by decide +kernel
theorem dX4_act_65 : decode cX4_act 65 = .ok (.iload_n 1, 1) := by decide +kernel
theorem dX4_act_66 : decode cX4_act 66 = .ok (.iaload, 1) := by decide +kernel
theorem dX4_act_67 : decode cX4_act 67 = .ok (.invokevirtual 97, 3) := by decide +kernel
theorem dX4_act_70 : decode cX4_act 70 = .ok (.iastore, 1) := by decide +kernel
theorem dX4_act_71 : decode cX4_act 71 = .ok (.iload 4, 2) := by decide +kernel
theorem dX4_act_73 : decode cX4_act 73 = .ok (.ireturn, 1) := by decide +kernel
theorem dX4_remember_0 : decode cX4_remember 0 = .ok (.aload_n 0, 1) := by decide +kernel
theorem dX4_remember_1 : decode cX4_remember 1 = .ok (.getfield 56, 3) := by decide +kernel
theorem dX4_remember_4 : decode cX4_remember 4 = .ok (.sipush 9999, 3) := by decide +kernel
theorem dX4_remember_7 : decode cX4_remember 7 = .ok (.if_icmp .lt 4, 3) := by decide +kernel
theorem dX4_remember_10 : decode cX4_remember 10 = .ok (.return_, 1) := by decide +kernel
theorem dX4_remember_11 : decode cX4_remember 11 = .ok (.aload_n 0, 1) := by decide +kernel
theorem dX4_remember_12 : decode cX4_remember 12 = .ok (.getfield 65, 3) := by decide +kernel
theorem dX4_remember_15 : decode cX4_remember 15 = .ok (.bipush 8, 2) := by decide +kernel
theorem dX4_remember_17 : decode cX4_remember 17 = .ok (.if_icmp .lt 31, 3) := by decide +kernel
theorem dX4_remember_20 : decode cX4_remember 20 = .ok (.aload_n 0, 1) := by decide +kernel
theorem dX4_remember_21 : decode cX4_remember 21 = .ok (.getfield 49, 3) := by decide +kernel
theorem dX4_remember_24 : decode cX4_remember 24 = .ok (.bipush 13, 2) := by decide +kernel
theorem dX4_remember_26 : decode cX4_remember 26 = .ok (.aload_n 0, 1) := by decide +kernel
theorem dX4_remember_27 : decode cX4_remember 27 = .ok (.getfield 49, 3) := by decide +kernel
theorem dX4_remember_30 : decode cX4_remember 30 = .ok (.iconst 0, 1) := by decide +kernel
theorem dX4_remember_31 : decode cX4_remember 31 = .ok (.aload_n 0, 1) := by decide +kernel
theorem dX4_remember_32 : decode cX4_remember 32 = .ok (.getfield 49, 3) := by decide +kernel
theorem dX4_remember_35 : decode cX4_remember 35 = .ok (.arraylength, 1) := by decide +kernel
theorem dX4_remember_36 : decode cX4_remember 36 = .ok (.bipush 13, 2) := by decide +kernel
theorem dX4_remember_38 : decode cX4_remember 38 = .ok (.isub, 1) := by decide +kernel
theorem dX4_remember_39 : decode cX4_remember 39 = .ok (.invokestatic 68, 3) := by decide +kernel
theorem dX4_remember_42 : decode cX4_remember 42 = .ok (.aload_n 0, 1) := by decide +kernel
theorem dX4_remember_43 : decode cX4_remember 43 = .ok (.bipush 7, 2) := by decide +kernel
theorem dX4_remember_45 : decode cX4_remember 45 = .ok (.putfield 65, 3) := by decide +kernel
theorem dX4_remember_48 : decode cX4_remember 48 = .ok (.aload_n 0, 1) := by decide +kernel
theorem dX4_remember_49 : decode cX4_remember 49 = .ok (.getfield 65, 3) := by decide +kernel
theorem dX4_remember_52 : decode cX4_remember 52 = .ok (.bipush 13, 2) := by decide +kernel
theorem dX4_remember_54 : decode cX4_remember 54 = .ok (.imul, 1) := by decide +kernel
theorem dX4_remember_55 : decode cX4_remember 55 = .ok (.istore_n 1, 1) := by decide +kernel
theorem dX4_remember_56 : decode cX4_remember 56 = .ok (.aload_n 0, 1) := by decide +kernel
theorem dX4_remember_57 : decode cX4_remember 57 = .ok (.getfield 49, 3) := by decide +kernel
theorem dX4_remember_60 : decode cX4_remember 60 = .ok (.iload_n 1, 1) := by decide +kernel
theorem dX4_remember_61 : decode cX4_remember 61 = .ok (.aload_n 0, 1) := by decide +kernel
theorem dX4_remember_62 : decode cX4_remember 62 = .ok (.getfield 56, 3) := by decide +kernel
theorem dX4_remember_65 : decode cX4_remember 65 = .ok (.iastore, 1) := by decide +kernel
theorem dX4_remember_66 : decode cX4_remember 66 = .ok (.aload_n 0, 1) := by decide +kernel
theorem dX4_remember_67 : decode cX4_remember 67 = .ok (.getfield 37, 3) := by decide +kernel
theorem dX4_remember_70 : decode cX4_remember 70 = .ok (.iconst 0, 1) := by decide +kernel
theorem dX4_remember_71 : decode cX4_remember 71 = .ok (.aload_n 0, 1) := by decide +kernel
theorem dX4_remember_72 : decode cX4_remember 72 = .ok (.getfield 49, 3) := by decide +kernel
theorem dX4_remember_75 : decode cX4_remember 75 = .ok (.iload_n 1, 1) := by decide +kernel
theorem dX4_remember_76 : decode cX4_remember 76 = .ok (.iconst 1, 1) := by decide +kernel
theorem dX4_remember_77 : decode cX4_remember 77 = .ok (.iadd, 1) := by decide +kernel
theorem dX4_remember_78 : decode cX4_remember 78 = .ok (.bipush 6, 2) := by decide +kernel
theorem dX4_remember_80 : decode cX4_remember 80 = .ok (.invokestatic 68, 3) := by decide +kernel
theorem dX4_remember_83 : decode cX4_remember 83 = .ok (.aload_n 0, 1) := by decide +kernel
theorem dX4_remember_84 : decode cX4_remember 84 = .ok (.getfield 40, 3) := by decide +kernel
theorem dX4_remember_87 : decode cX4_remember 87 = .ok (.iconst 0, 1) := by decide +kernel
theorem dX4_remember_88 : decode cX4_remember 88 = .ok (.aload_n 0, 1) := by decide +kernel
theorem dX4_remember_89 : decode cX4_remember 89 = .ok (.getfield 49, 3) := by decide +kernel
theorem dX4_remember_92 : decode cX4_remember 92 = .ok (.iload_n 1, 1) := by decide +kernel
theorem dX4_remember_93 : decode cX4_remember 93 = .ok (.iconst 1, 1) := by decide +kernel
theorem dX4_remember_94 : decode cX4_remember 94 = .ok (.iadd, 1) := by decide +kernel
theorem dX4_remember_95 : decode cX4_remember 95 = .ok (.bipush 6, 2) := by decide +kernel
theorem dX4_remember_97 : decode cX4_remember 97 = .ok (.iadd, 1) := by decide +kernel
theorem dX4_remember_98 : decode cX4_remember 98 = .ok (.bipush 6, 2) := by decide +kernel
theorem dX4_remember_100 : decode cX4_remember 100 = .ok (.invokestatic 68, 3) := by decide +kernel
theorem dX4_remember_103 : decode cX4_remember 103 = .ok (.aload_n 0, 1) := by decide +kernel
theorem dX4_remember_104 : decode cX4_remember 104 = .ok (.dup, 1) := by decide +kernel
theorem dX4_remember_105 : decode cX4_remember 105 = .ok (.getfield 65, 3) := by decide +kernel
theorem dX4_remember_108 : decode cX4_remember 108 = .ok (.iconst 1, 1) := by decide +kernel
theorem dX4_remember_109 : decode cX4_remember 109 = .ok (.iadd, 1) := by decide +kernel
theorem dX4_remember_110 : decode cX4_remember 110 = .ok (.putfield 65, 3) := by decide +kernel
theorem dX4_remember_113 : decode cX4_remember 113 = .ok (.return_, 1) := by decide +kernel
theorem dX4_takeBack_0 : decode cX4_takeBack 0 = .ok (.aload_n 0, 1) := by decide +kernel
theorem dX4_takeBack_1 : decode cX4_takeBack 1 = .ok (.getfield 65, 3) := by decide +kernel
theorem dX4_takeBack_4 : decode cX4_takeBack 4 = .ok (.ifCond .gt 4, 3) := by decide +kernel
theorem dX4_takeBack_7 : decode cX4_takeBack 7 = .ok (.return_, 1) := by decide +kernel
theorem dX4_takeBack_8 : decode cX4_takeBack 8 = .ok (.aload_n 0, 1) := by decide +kernel
theorem dX4_takeBack_9 : decode cX4_takeBack 9 = .ok (.dup, 1) := by decide +kernel
theorem dX4_takeBack_10 : decode cX4_takeBack 10 = .ok (.getfield 65, 3) := by decide +kernel
theorem dX4_takeBack_13 : decode cX4_takeBack 13 = .ok (.iconst 1, 1) := by decide +kernel
theorem dX4_takeBack_14 : decode cX4_takeBack 14 = .ok (.isub, 1) := by decide +kernel
theorem dX4_takeBack_15 : decode cX4_takeBack 15 = .ok (.putfield 65, 3) := by decide +kernel
theorem dX4_takeBack_18 : decode cX4_takeBack 18 = .ok (.aload_n 0, 1) := by decide +kernel
theorem dX4_takeBack_19 : decode cX4_takeBack 19 = .ok (.getfield 65, 3) := by decide +kernel
theorem dX4_takeBack_22 : decode cX4_takeBack 22 = .ok (.bipush 13, 2) := by decide +kernel
theorem dX4_takeBack_24 : decode cX4_takeBack 24 = .ok (.imul, 1) := by decide +kernel
theorem dX4_takeBack_25 : decode cX4_takeBack 25 = .ok (.istore_n 1, 1) := by decide +kernel
theorem dX4_takeBack_26 : decode cX4_takeBack 26 = .ok (.aload_n 0, 1) := by decide +kernel
theorem dX4_takeBack_27 : decode cX4_takeBack 27 = .ok (.aload_n 0, 1) := by decide +kernel
theorem dX4_takeBack_28 : decode cX4_takeBack 28 = .ok (.getfield 49, 3) := by decide +kernel
theorem dX4_takeBack_31 : decode cX4_takeBack 31 = .ok (.iload_n 1, 1) := by decide +kernel
theorem dX4_takeBack_32 : decode cX4_takeBack 32 = .ok (.iaload, 1) := by decide +kernel
theorem dX4_takeBack_33 : decode cX4_takeBack 33 = .ok (.putfield 56, 3) := by decide +kernel
theorem dX4_takeBack_36 : decode cX4_takeBack 36 = .ok (.aload_n 0, 1) := by decide +kernel
theorem dX4_takeBack_37 : decode cX4_takeBack 37 = .ok (.getfield 49, 3) := by decide +kernel
theorem dX4_takeBack_40 : decode cX4_takeBack 40 = .ok (.iload_n 1, 1) := by decide +kernel
theorem dX4_takeBack_41 : decode cX4_takeBack 41 = .ok (.iconst 1, 1) := by decide +kernel
theorem dX4_takeBack_42 : decode cX4_takeBack 42 = .ok (.iadd, 1) := by decide +kernel
theorem dX4_takeBack_43 : decode cX4_takeBack 43 = .ok (.aload_n 0, 1) := by decide +kernel
theorem dX4_takeBack_44 : decode cX4_takeBack 44 = .ok (.getfield 37, 3) := by decide +kernel
theorem dX4_takeBack_47 : decode cX4_takeBack 47 = .ok (.iconst 0, 1) := by decide +kernel
theorem dX4_takeBack_48 : decode cX4_takeBack 48 = .ok (.bipush 6, 2) := by decide +kernel
theorem dX4_takeBack_50 : decode cX4_takeBack 50 = .ok (.invokestatic 68, 3) := by decide +kernel
theorem dX4_takeBack_53 : decode cX4_takeBack 53 = .ok (.aload_n 0, 1) := by decide +kernel
theorem dX4_takeBack_54 : decode cX4_takeBack 54 = .ok (.getfield 49, 3) := by decide +kernel
theorem dX4_takeBack_57 : decode cX4_takeBack 57 = .ok (.iload_n 1, 1) := by decide +kernel
theorem dX4_takeBack_58 : decode cX4_takeBack 58 = .ok (.iconst 1, 1) := by decide +kernel
theorem dX4_takeBack_59 : decode cX4_takeBack 59 = .ok (.iadd, 1) := by decide +kernel
theorem dX4_takeBack_60 : decode cX4_takeBack 60 = .ok (.bipush 6, 2) := by decide +kernel
theorem dX4_takeBack_62 : decode cX4_takeBack 62 = .ok (.iadd, 1) := by decide +kernel
theorem dX4_takeBack_63 : decode cX4_takeBack 63 = .ok (.aload_n 0, 1) := by decide +kernel
theorem dX4_takeBack_64 : decode cX4_takeBack 64 = .ok (.getfield 40, 3) := by decide +kernel
theorem dX4_takeBack_67 : decode cX4_takeBack 67 = .ok (.iconst 0, 1) := by decide +kernel
theorem dX4_takeBack_68 : decode cX4_takeBack 68 = .ok (.bipush 6, 2) := by decide +kernel
theorem dX4_takeBack_70 : decode cX4_takeBack 70 = .ok (.invokestatic 68, 3) := by decide +kernel
theorem dX4_takeBack_73 : decode cX4_takeBack 73 = .ok (.return_, 1) := by decide +kernel
theorem dX4_sumOf_0 : decode cX4_sumOf 0 = .ok (.iconst 0, 1) := by decide +kernel
theorem dX4_sumOf_1 : decode cX4_sumOf 1 = .ok (.istore_n 2, 1) := by decide +kernel
theorem dX4_sumOf_2 : decode cX4_sumOf 2 = .ok (.iconst 0, 1) := by decide +kernel
theorem dX4_sumOf_3 : decode cX4_sumOf 3 = .ok (.istore_n 3, 1) := by decide +kernel
theorem dX4_sumOf_4 : decode cX4_sumOf 4 = .ok (.iload_n 3, 1) := by decide +kernel
theorem dX4_sumOf_5 : decode cX4_sumOf 5 = .ok (.aload_n 0, 1) := by decide +kernel
theorem dX4_sumOf_6 : decode cX4_sumOf 6 = .ok (.getfield 52, 3) := by decide +kernel
theorem dX4_sumOf_9 : decode cX4_sumOf 9 = .ok (.if_icmp .ge 21, 3) := by decide +kernel
theorem dX4_sumOf_12 : decode cX4_sumOf 12 = .ok (.iload_n 3, 1) := by decide +kernel
theorem dX4_sumOf_13 : decode cX4_sumOf 13 = .ok (.aload_n 1, 1) := by decide +kernel
theorem dX4_sumOf_14 : decode cX4_sumOf 14 = .ok (.arraylength, 1) := by decide +kernel
theorem dX4_sumOf_15 : decode cX4_sumOf 15 = .ok (.if_icmp .ge 15, 3) := by decide +kernel
theorem dX4_sumOf_18 : decode cX4_sumOf 18 = .ok (.iload_n 2, 1) := by decide +kernel
theorem dX4_sumOf_19 : decode cX4_sumOf 19 = .ok (.aload_n 1, 1) := by decide +kernel
theorem dX4_sumOf_20 : decode cX4_sumOf 20 = .ok (.iload_n 3, 1) := by decide +kernel
theorem dX4_sumOf_21 : decode cX4_sumOf 21 = .ok (.iaload, 1) := by decide +kernel
theorem dX4_sumOf_22 : decode cX4_sumOf 22 = .ok (.iadd, 1) := by decide +kernel
theorem dX4_sumOf_23 : decode cX4_sumOf 23 = .ok (.istore_n 2, 1) := by decide +kernel
theorem dX4_sumOf_24 : decode cX4_sumOf 24 = .ok (.iinc 3 1, 3) := by decide +kernel
theorem dX4_sumOf_27 : decode cX4_sumOf 27 = .ok (.goto (-23), 3) := by decide +kernel
theorem dX4_sumOf_30 : decode cX4_sumOf 30 = .ok (.iload_n 2, 1) := by decide +kernel
theorem dX4_sumOf_31 : decode cX4_sumOf 31 = .ok (.ireturn, 1) := by decide +kernel
theorem dX4_addNote_0 : decode cX4_addNote 0 = .ok (.aload_n 0, 1) := by decide +kernel
theorem dX4_addNote_1 : decode cX4_addNote 1 = .ok (.getfield 59, 3) := by decide +kernel
theorem dX4_addNote_4 : decode cX4_addNote 4 = .ok (.bipush 6, 2) := by decide +kernel
theorem dX4_addNote_6 : decode cX4_addNote 6 = .ok (.if_icmp .lt 6, 3) := by decide +kernel
theorem dX4_addNote_9 : decode cX4_addNote 9 = .ok (.bipush (-4), 2) := by decide +kernel
theorem dX4_addNote_11 : decode cX4_addNote 11 = .ok (.ireturn, 1) := by decide +kernel
theorem dX4_addNote_12 : decode cX4_addNote 12 = .ok (.aload_n 0, 1) := by decide +kernel
theorem dX4_addNote_13 : decode cX4_addNote 13 = .ok (.getfield 59, 3) := by decide +kernel
theorem dX4_addNote_16 : decode cX4_addNote 16 = .ok (.bipush 6, 2) := by decide +kernel
theorem dX4_addNote_18 : decode cX4_addNote 18 = .ok (.imul, 1) := by decide +kernel
theorem dX4_addNote_19 : decode cX4_addNote 19 = .ok (.istore 7, 2) := by decide +kernel
theorem dX4_addNote_21 : decode cX4_addNote 21 = .ok (.aload_n 0, 1) := by decide +kernel
theorem dX4_addNote_22 : decode cX4_addNote 22 = .ok (.getfield 43, 3) := by decide +kernel
theorem dX4_addNote_25 : decode cX4_addNote 25 = .ok (.iload 7, 2) := by decide +kernel
theorem dX4_addNote_27 : decode cX4_addNote 27 = .ok (.iload_n 1, 1) := by decide +kernel
theorem dX4_addNote_28 : decode cX4_addNote 28 = .ok (.iastore, 1) := by decide +kernel
theorem dX4_addNote_29 : decode cX4_addNote 29 = .ok (.aload_n 0, 1) := by decide +kernel
theorem dX4_addNote_30 : decode cX4_addNote 30 = .ok (.getfield 43, 3) := by decide +kernel
theorem dX4_addNote_33 : decode cX4_addNote 33 = .ok (.iload 7, 2) := by decide +kernel
theorem dX4_addNote_35 : decode cX4_addNote 35 = .ok (.iconst 1, 1) := by decide +kernel
theorem dX4_addNote_36 : decode cX4_addNote 36 = .ok (.iadd, 1) := by decide +kernel
theorem dX4_addNote_37 : decode cX4_addNote 37 = .ok (.iload_n 2, 1) := by decide +kernel
theorem dX4_addNote_38 : decode cX4_addNote 38 = .ok (.iastore, 1) := by decide +kernel
theorem dX4_addNote_39 : decode cX4_addNote 39 = .ok (.aload_n 0, 1) := by decide +kernel
theorem dX4_addNote_40 : decode cX4_addNote 40 = .ok (.getfield 43, 3) := by decide +kernel
theorem dX4_addNote_43 : decode cX4_addNote 43 = .ok (.iload 7, 2) := by decide +kernel
theorem dX4_addNote_45 : decode cX4_addNote 45 = .ok (.iconst 2, 1) := by decide +kernel
theorem dX4_addNote_46 : decode cX4_addNote 46 = .ok (.iadd, 1) := by decide +kernel
theorem dX4_addNote_47 : decode cX4_addNote 47 = .ok (.iload_n 3, 1) := by decide +kernel
theorem dX4_addNote_48 : decode cX4_addNote 48 = .ok (.iastore, 1) := by decide +kernel
theorem dX4_addNote_49 : decode cX4_addNote 49 = .ok (.aload_n 0, 1) := by decide +kernel
theorem dX4_addNote_50 : decode cX4_addNote 50 = .ok (.getfield 43, 3) := by decide +kernel
theorem dX4_addNote_53 : decode cX4_addNote 53 = .ok (.iload 7, 2) := by decide +kernel
theorem dX4_addNote_55 : decode cX4_addNote 55 = .ok (.iconst 3, 1) := by decide +kernel
theorem dX4_addNote_56 : decode cX4_addNote 56 = .ok (.iadd, 1) := by decide +kernel
theorem dX4_addNote_57 : decode cX4_addNote 57 = .ok (.iload 4, 2) := by decide +kernel
theorem dX4_addNote_59 : decode cX4_addNote 59 = .ok (.iastore, 1) := by decide +kernel
theorem dX4_addNote_60 : decode cX4_addNote 60 = .ok (.aload_n 0, 1) := by decide +kernel
theorem dX4_addNote_61 : decode cX4_addNote 61 = .ok (.getfield 43, 3) := by decide +kernel
theorem dX4_addNote_64 : decode cX4_addNote 64 = .ok (.iload 7, 2) := by decide +kernel
theorem dX4_addNote_66 : decode cX4_addNote 66 = .ok (.iconst 4, 1) := by decide +kernel
theorem dX4_addNote_67 : decode cX4_addNote 67 = .ok (.iadd, 1) := by decide +kernel
theorem dX4_addNote_68 : decode cX4_addNote 68 = .ok (.iload 5, 2) := by decide +kernel
theorem dX4_addNote_70 : decode cX4_addNote 70 = .ok (.iastore, 1) := by decide +kernel
theorem dX4_addNote_71 : decode cX4_addNote 71 = .ok (.aload_n 0, 1) := by decide +kernel
theorem dX4_addNote_72 : decode cX4_addNote 72 = .ok (.getfield 43, 3) := by decide +kernel
theorem dX4_addNote_75 : decode cX4_addNote 75 = .ok (.iload 7, 2) := by decide +kernel
theorem dX4_addNote_77 : decode cX4_addNote 77 = .ok (.iconst 5, 1) := by decide +kernel
theorem dX4_addNote_78 : decode cX4_addNote 78 = .ok (.iadd, 1) := by decide +kernel
theorem dX4_addNote_79 : decode cX4_addNote 79 = .ok (.iload 6, 2) := by decide +kernel
theorem dX4_addNote_81 : decode cX4_addNote 81 = .ok (.iastore, 1) := by decide +kernel
theorem dX4_addNote_82 : decode cX4_addNote 82 = .ok (.aload_n 0, 1) := by decide +kernel
theorem dX4_addNote_83 : decode cX4_addNote 83 = .ok (.dup, 1) := by decide +kernel
theorem dX4_addNote_84 : decode cX4_addNote 84 = .ok (.getfield 59, 3) := by decide +kernel
theorem dX4_addNote_87 : decode cX4_addNote 87 = .ok (.iconst 1, 1) := by decide +kernel
theorem dX4_addNote_88 : decode cX4_addNote 88 = .ok (.iadd, 1) := by decide +kernel
theorem dX4_addNote_89 : decode cX4_addNote 89 = .ok (.putfield 59, 3) := by decide +kernel
theorem dX4_addNote_92 : decode cX4_addNote 92 = .ok (.aload_n 0, 1) := by decide +kernel
theorem dX4_addNote_93 : decode cX4_addNote 93 = .ok (.getfield 59, 3) := by decide +kernel
theorem dX4_addNote_96 : decode cX4_addNote 96 = .ok (.ireturn, 1) := by decide +kernel
theorem dX4_notesFit_0 : decode cX4_notesFit 0 = .ok (.iconst 0, 1) := by decide +kernel
theorem dX4_notesFit_1 : decode cX4_notesFit 1 = .ok (.istore_n 3, 1) := by decide +kernel
theorem dX4_notesFit_2 : decode cX4_notesFit 2 = .ok (.iload_n 3, 1) := by decide +kernel
theorem dX4_notesFit_3 : decode cX4_notesFit 3 = .ok (.aload_n 0, 1) := by decide +kernel
theorem dX4_notesFit_4 : decode cX4_notesFit 4 = .ok (.getfield 59, 3) := by decide +kernel
theorem dX4_notesFit_7 : decode cX4_notesFit 7 = .ok (.if_icmp .ge 111, 3) := by decide +kernel
theorem dX4_notesFit_10 : decode cX4_notesFit 10 = .ok (.iload_n 3, 1) := by decide +kernel
theorem dX4_notesFit_11 : decode cX4_notesFit 11 = .ok (.bipush 6, 2) := by decide +kernel
theorem dX4_notesFit_13 : decode cX4_notesFit 13 = .ok (.if_icmp .ge 105, 3) := by decide +kernel
theorem dX4_notesFit_16 : decode cX4_notesFit 16 = .ok (.iload_n 3, 1) := by decide +kernel
theorem dX4_notesFit_17 : decode cX4_notesFit 17 = .ok (.bipush 6, 2) := by decide +kernel
theorem dX4_notesFit_19 : decode cX4_notesFit 19 = .ok (.imul, 1) := by decide +kernel
theorem dX4_notesFit_20 : decode cX4_notesFit 20 = .ok (.istore 4, 2) := by decide +kernel
theorem dX4_notesFit_22 : decode cX4_notesFit 22 = .ok (.aload_n 0, 1) := by decide +kernel
theorem dX4_notesFit_23 : decode cX4_notesFit 23 = .ok (.getfield 43, 3) := by decide +kernel
theorem dX4_notesFit_26 : decode cX4_notesFit 26 = .ok (.iload 4, 2) := by decide +kernel
theorem dX4_notesFit_28 : decode cX4_notesFit 28 = .ok (.iaload, 1) := by decide +kernel
theorem dX4_notesFit_29 : decode cX4_notesFit 29 = .ok (.iload_n 1, 1) := by decide +kernel
theorem dX4_notesFit_30 : decode cX4_notesFit 30 = .ok (.if_icmp .ne 82, 3) := by decide +kernel
theorem dX4_notesFit_33 : decode cX4_notesFit 33 = .ok (.aload_n 0, 1) := by decide +kernel
theorem dX4_notesFit_34 : decode cX4_notesFit 34 = .ok (.getfield 43, 3) := by decide +kernel
theorem dX4_notesFit_37 : decode cX4_notesFit 37 = .ok (.iload 4, 2) := by decide +kernel
theorem dX4_notesFit_39 : decode cX4_notesFit 39 = .ok (.iconst 1, 1) := by decide +kernel
theorem dX4_notesFit_40 : decode cX4_notesFit 40 = .ok (.iadd, 1) := by decide +kernel
theorem dX4_notesFit_41 : decode cX4_notesFit 41 = .ok (.iaload, 1) := by decide +kernel
theorem dX4_notesFit_42 : decode cX4_notesFit 42 = .ok (.istore 5, 2) := by decide +kernel
theorem dX4_notesFit_44 : decode cX4_notesFit 44 = .ok (.aload_n 2, 1) := by decide +kernel
theorem dX4_notesFit_45 : decode cX4_notesFit 45 = .ok (.aload_n 0, 1) := by decide +kernel
theorem dX4_notesFit_46 : decode cX4_notesFit 46 = .ok (.getfield 43, 3) := by decide +kernel
theorem dX4_notesFit_49 : decode cX4_notesFit 49 = .ok (.iload 4, 2) := by decide +kernel
theorem dX4_notesFit_51 : decode cX4_notesFit 51 = .ok (.iconst 2, 1) := by decide +kernel
theorem dX4_notesFit_52 : decode cX4_notesFit 52 = .ok (.iadd, 1) := by decide +kernel
theorem dX4_notesFit_53 : decode cX4_notesFit 53 = .ok (.iaload, 1) := by decide +kernel
theorem dX4_notesFit_54 : decode cX4_notesFit 54 = .ok (.iload 5, 2) := by decide +kernel
theorem dX4_notesFit_56 : decode cX4_notesFit 56 = .ok (.invokevirtual 94, 3) := by decide +kernel
theorem dX4_notesFit_59 : decode cX4_notesFit 59 = .ok (.aload_n 0, 1) := by decide +kernel
theorem dX4_notesFit_60 : decode cX4_notesFit 60 = .ok (.getfield 43, 3) := by decide +kernel
theorem dX4_notesFit_63 : decode cX4_notesFit 63 = .ok (.iload 4, 2) := by decide +kernel
theorem dX4_notesFit_65 : decode cX4_notesFit 65 = .ok (.iconst 3, 1) := by decide +kernel
theorem dX4_notesFit_66 : decode cX4_notesFit 66 = .ok (.iadd, 1) := by decide +kernel
theorem dX4_notesFit_67 : decode cX4_notesFit 67 = .ok (.iaload, 1) := by decide +kernel
theorem dX4_notesFit_68 : decode cX4_notesFit 68 = .ok (.if_icmp .ne 7, 3) := by decide +kernel
theorem dX4_notesFit_71 : decode cX4_notesFit 71 = .ok (.iconst 1, 1) := by decide +kernel
theorem dX4_notesFit_72 : decode cX4_notesFit 72 = .ok (.goto 4, 3) := by decide +kernel
theorem dX4_notesFit_75 : decode cX4_notesFit 75 = .ok (.iconst 0, 1) := by decide +kernel
theorem dX4_notesFit_76 : decode cX4_notesFit 76 = .ok (.istore 6, 2) := by decide +kernel
theorem dX4_notesFit_78 : decode cX4_notesFit 78 = .ok (.iload 6, 2) := by decide +kernel
theorem dX4_notesFit_80 : decode cX4_notesFit 80 = .ok (.ifCond .eq 30, 3) := by decide +kernel
theorem dX4_notesFit_83 : decode cX4_notesFit 83 = .ok (.aload_n 2, 1) := by decide +kernel
theorem dX4_notesFit_84 : decode cX4_notesFit 84 = .ok (.aload_n 0, 1) := by decide +kernel
theorem dX4_notesFit_85 : decode cX4_notesFit 85 = .ok (.getfield 43, 3) := by decide +kernel
theorem dX4_notesFit_88 : decode cX4_notesFit 88 = .ok (.iload 4, 2) := by decide +kernel
theorem dX4_notesFit_90 : decode cX4_notesFit 90 = .ok (.iconst 4, 1) := by decide +kernel
theorem dX4_notesFit_91 : decode cX4_notesFit 91 = .ok (.iadd, 1) := by decide +kernel
theorem dX4_notesFit_92 : decode cX4_notesFit 92 = .ok (.iaload, 1) := by decide +kernel
theorem dX4_notesFit_93 : decode cX4_notesFit 93 = .ok (.iload 5, 2) := by decide +kernel
theorem dX4_notesFit_95 : decode cX4_notesFit 95 = .ok (.invokevirtual 97, 3) := by decide +kernel
theorem dX4_notesFit_98 : decode cX4_notesFit 98 = .ok (.aload_n 0, 1) := by decide +kernel
theorem dX4_notesFit_99 : decode cX4_notesFit 99 = .ok (.getfield 43, 3) := by decide +kernel
theorem dX4_notesFit_102 : decode cX4_notesFit 102 = .ok (.iload 4, 2) := by decide +kernel
theorem dX4_notesFit_104 : decode cX4_notesFit 104 = .ok (.iconst 5, 1) := by decide +kernel
theorem dX4_notesFit_105 : decode cX4_notesFit 105 = .ok (.iadd, 1) := by decide +kernel
theorem dX4_notesFit_106 : decode cX4_notesFit 106 = .ok (.iaload, 1) := by decide +kernel
theorem dX4_notesFit_107 : decode cX4_notesFit 107 = .ok (.if_icmp .eq 5, 3) := by decide +kernel
theorem dX4_notesFit_110 : decode cX4_notesFit 110 = .ok (.iconst 0, 1) := by decide +kernel
theorem dX4_notesFit_111 : decode cX4_notesFit 111 = .ok (.ireturn, 1) := by decide +kernel
theorem dX4_notesFit_112 : decode cX4_notesFit 112 = .ok (.iinc 3 1, 3) := by decide +kernel
theorem dX4_notesFit_115 : decode cX4_notesFit 115 = .ok (.goto (-113), 3) := by decide +kernel
theorem dX4_notesFit_118 : decode cX4_notesFit 118 = .ok (.iconst 1, 1) := by decide +kernel
theorem dX4_notesFit_119 : decode cX4_notesFit 119 = .ok (.ireturn, 1) := by decide +kernel
theorem dX4_addTrip_0 : decode cX4_addTrip 0 = .ok (.aload_n 0, 1) := by decide +kernel
theorem dX4_addTrip_1 : decode cX4_addTrip 1 = .ok (.getfield 62, 3) := by decide +kernel
theorem dX4_addTrip_4 : decode cX4_addTrip 4 = .ok (.iconst 4, 1) := by decide +kernel
theorem dX4_addTrip_5 : decode cX4_addTrip 5 = .ok (.if_icmp .lt 6, 3) := by decide +kernel
theorem dX4_addTrip_8 : decode cX4_addTrip 8 = .ok (.bipush (-4), 2) := by decide +kernel
theorem dX4_addTrip_10 : decode cX4_addTrip 10 = .ok (.ireturn, 1) := by decide +kernel
theorem dX4_addTrip_11 : decode cX4_addTrip 11 = .ok (.aload_n 0, 1) := by decide +kernel
theorem dX4_addTrip_12 : decode cX4_addTrip 12 = .ok (.getfield 62, 3) := by decide +kernel
theorem dX4_addTrip_15 : decode cX4_addTrip 15 = .ok (.iconst 3, 1) := by decide +kernel
theorem dX4_addTrip_16 : decode cX4_addTrip 16 = .ok (.imul, 1) := by decide +kernel
theorem dX4_addTrip_17 : decode cX4_addTrip 17 = .ok (.istore 4, 2) := by decide +kernel
theorem dX4_addTrip_19 : decode cX4_addTrip 19 = .ok (.aload_n 0, 1) := by decide +kernel
theorem dX4_addTrip_20 : decode cX4_addTrip 20 = .ok (.getfield 46, 3) := by decide +kernel
theorem dX4_addTrip_23 : decode cX4_addTrip 23 = .ok (.iload 4, 2) := by decide +kernel
theorem dX4_addTrip_25 : decode cX4_addTrip 25 = .ok (.iload_n 1, 1) := by decide +kernel
theorem dX4_addTrip_26 : decode cX4_addTrip 26 = .ok (.iastore, 1) := by decide +kernel
theorem dX4_addTrip_27 : decode cX4_addTrip 27 = .ok (.aload_n 0, 1) := by decide +kernel
theorem dX4_addTrip_28 : decode cX4_addTrip 28 = .ok (.getfield 46, 3) := by decide +kernel
theorem dX4_addTrip_31 : decode cX4_addTrip 31 = .ok (.iload 4, 2) := by decide +kernel
theorem dX4_addTrip_33 : decode cX4_addTrip 33 = .ok (.iconst 1, 1) := by decide +kernel
theorem dX4_addTrip_34 : decode cX4_addTrip 34 = .ok (.iadd, 1) := by decide +kernel
theorem dX4_addTrip_35 : decode cX4_addTrip 35 = .ok (.iload_n 2, 1) := by decide +kernel
theorem dX4_addTrip_36 : decode cX4_addTrip 36 = .ok (.iastore, 1) := by decide +kernel
theorem dX4_addTrip_37 : decode cX4_addTrip 37 = .ok (.aload_n 0, 1) := by decide +kernel
theorem dX4_addTrip_38 : decode cX4_addTrip 38 = .ok (.getfield 46, 3) := by decide +kernel
theorem dX4_addTrip_41 : decode cX4_addTrip 41 = .ok (.iload 4, 2) := by decide +kernel
theorem dX4_addTrip_43 : decode cX4_addTrip 43 = .ok (.iconst 2, 1) := by decide +kernel
theorem dX4_addTrip_44 : decode cX4_addTrip 44 = .ok (.iadd, 1) := by decide +kernel
theorem dX4_addTrip_45 : decode cX4_addTrip 45 = .ok (.iload_n 3, 1) := by decide +kernel
theorem dX4_addTrip_46 : decode cX4_addTrip 46 = .ok (.iastore, 1) := by decide +kernel
theorem dX4_addTrip_47 : decode cX4_addTrip 47 = .ok (.aload_n 0, 1) := by decide +kernel
theorem dX4_addTrip_48 : decode cX4_addTrip 48 = .ok (.dup, 1) := by decide +kernel
theorem dX4_addTrip_49 : decode cX4_addTrip 49 = .ok (.getfield 62, 3) := by decide +kernel
theorem dX4_addTrip_52 : decode cX4_addTrip 52 = .ok (.iconst 1, 1) := by decide +kernel
theorem dX4_addTrip_53 : decode cX4_addTrip 53 = .ok (.iadd, 1) := by decide +kernel
theorem dX4_addTrip_54 : decode cX4_addTrip 54 = .ok (.putfield 62, 3) := by decide +kernel
theorem dX4_addTrip_57 : decode cX4_addTrip 57 = .ok (.aload_n 0, 1) := by decide +kernel
theorem dX4_addTrip_58 : decode cX4_addTrip 58 = .ok (.getfield 62, 3) := by decide +kernel
theorem dX4_addTrip_61 : decode cX4_addTrip 61 = .ok (.ireturn, 1) := by decide +kernel
theorem dX4_tripsFit_0 : decode cX4_tripsFit 0 = .ok (.aload_n 0, 1) := by decide +kernel
theorem dX4_tripsFit_1 : decode cX4_tripsFit 1 = .ok (.iload_n 1, 1) := by decide +kernel
theorem dX4_tripsFit_2 : decode cX4_tripsFit 2 = .ok (.invokevirtual 86, 3) := by decide +kernel
theorem dX4_tripsFit_5 : decode cX4_tripsFit 5 = .ok (.astore_n 3, 1) := by decide +kernel
theorem dX4_tripsFit_6 : decode cX4_tripsFit 6 = .ok (.iconst 0, 1) := by decide +kernel
theorem dX4_tripsFit_7 : decode cX4_tripsFit 7 = .ok (.istore 4, 2) := by decide +kernel
theorem dX4_tripsFit_9 : decode cX4_tripsFit 9 = .ok (.iload 4, 2) := by decide +kernel
theorem dX4_tripsFit_11 : decode cX4_tripsFit 11 = .ok (.aload_n 0, 1) := by decide +kernel
theorem dX4_tripsFit_12 : decode cX4_tripsFit 12 = .ok (.getfield 62, 3) := by decide +kernel
theorem dX4_tripsFit_15 : decode cX4_tripsFit 15 = .ok (.if_icmp .ge 60, 3) := by decide +kernel
theorem dX4_tripsFit_18 : decode cX4_tripsFit 18 = .ok (.iload 4, 2) := by decide +kernel
theorem dX4_tripsFit_20 : decode cX4_tripsFit 20 = .ok (.iconst 4, 1) := by decide +kernel
theorem dX4_tripsFit_21 : decode cX4_tripsFit 21 = .ok (.if_icmp .ge 54, 3) := by decide +kernel
theorem dX4_tripsFit_24 : decode cX4_tripsFit 24 = .ok (.iload 4, 2) := by decide +kernel
theorem dX4_tripsFit_26 : decode cX4_tripsFit 26 = .ok (.iconst 3, 1) := by decide +kernel
theorem dX4_tripsFit_27 : decode cX4_tripsFit 27 = .ok (.imul, 1) := by decide +kernel
theorem dX4_tripsFit_28 : decode cX4_tripsFit 28 = .ok (.istore 5, 2) := by decide +kernel
theorem dX4_tripsFit_30 : decode cX4_tripsFit 30 = .ok (.aload_n 0, 1) := by decide +kernel
theorem dX4_tripsFit_31 : decode cX4_tripsFit 31 = .ok (.getfield 46, 3) := by decide +kernel
theorem dX4_tripsFit_34 : decode cX4_tripsFit 34 = .ok (.iload 5, 2) := by decide +kernel
theorem dX4_tripsFit_36 : decode cX4_tripsFit 36 = .ok (.iaload, 1) := by decide +kernel
theorem dX4_tripsFit_37 : decode cX4_tripsFit 37 = .ok (.iload_n 1, 1) := by decide +kernel
theorem dX4_tripsFit_38 : decode cX4_tripsFit 38 = .ok (.if_icmp .ne 31, 3) := by decide +kernel
theorem dX4_tripsFit_41 : decode cX4_tripsFit 41 = .ok (.aload_n 3, 1) := by decide +kernel
theorem dX4_tripsFit_42 : decode cX4_tripsFit 42 = .ok (.iload_n 2, 1) := by decide +kernel
theorem dX4_tripsFit_43 : decode cX4_tripsFit 43 = .ok (.aload_n 0, 1) := by decide +kernel
theorem dX4_tripsFit_44 : decode cX4_tripsFit 44 = .ok (.getfield 46, 3) := by decide +kernel
theorem dX4_tripsFit_47 : decode cX4_tripsFit 47 = .ok (.iload 5, 2) := by decide +kernel
theorem dX4_tripsFit_49 : decode cX4_tripsFit 49 = .ok (.iconst 1, 1) := by decide +kernel
theorem dX4_tripsFit_50 : decode cX4_tripsFit 50 = .ok (.iadd, 1) := by decide +kernel
theorem dX4_tripsFit_51 : decode cX4_tripsFit 51 = .ok (.iaload, 1) := by decide +kernel
theorem dX4_tripsFit_52 : decode cX4_tripsFit 52 = .ok (.invokevirtual 100, 3) := by decide +kernel
theorem dX4_tripsFit_55 : decode cX4_tripsFit 55 = .ok (.aload_n 0, 1) := by decide +kernel
theorem dX4_tripsFit_56 : decode cX4_tripsFit 56 = .ok (.getfield 46, 3) := by decide +kernel
theorem dX4_tripsFit_59 : decode cX4_tripsFit 59 = .ok (.iload 5, 2) := by decide +kernel
theorem dX4_tripsFit_61 : decode cX4_tripsFit 61 = .ok (.iconst 2, 1) := by decide +kernel
theorem dX4_tripsFit_62 : decode cX4_tripsFit 62 = .ok (.iadd, 1) := by decide +kernel
theorem dX4_tripsFit_63 : decode cX4_tripsFit 63 = .ok (.iaload, 1) := by decide +kernel
theorem dX4_tripsFit_64 : decode cX4_tripsFit 64 = .ok (.if_icmp .eq 5, 3) := by decide +kernel
theorem dX4_tripsFit_67 : decode cX4_tripsFit 67 = .ok (.iconst 0, 1) := by decide +kernel
theorem dX4_tripsFit_68 : decode cX4_tripsFit 68 = .ok (.ireturn, 1) := by decide +kernel
theorem dX4_tripsFit_69 : decode cX4_tripsFit 69 = .ok (.iinc 4 1, 3) := by decide +kernel
theorem dX4_tripsFit_72 : decode cX4_tripsFit 72 = .ok (.goto (-63), 3) := by decide +kernel
theorem dX4_tripsFit_75 : decode cX4_tripsFit 75 = .ok (.iconst 1, 1) := by decide +kernel
theorem dX4_tripsFit_76 : decode cX4_tripsFit 76 = .ok (.ireturn, 1) := by decide +kernel
theorem dX5_init_0 : decode cX5_init 0 = .ok (.aload_n 0, 1) := by decide +kernel
theorem dX5_init_1 : decode cX5_init 1 = .ok (.invokespecial 3, 3) := by decide +kernel
theorem dX5_init_4 : decode cX5_init 4 = .ok (.aload_n 0, 1) := by decide +kernel
theorem dX5_init_5 : decode cX5_init 5 = .ok (.bipush 8, 2) := by decide +kernel
theorem dX5_init_7 : decode cX5_init 7 = .ok (.bipush 100, 2) := by decide +kernel
theorem dX5_init_9 : decode cX5_init 9 = .ok (.multianewarray 9 2, 4) := by decide +kernel
theorem dX5_init_13 : decode cX5_init 13 = .ok (.putfield 11, 3) := by decide +kernel
theorem dX5_init_16 : decode cX5_init 16 = .ok (.aload_n 0, 1) := by decide +kernel
theorem dX5_init_17 : decode cX5_init 17 = .ok (.bipush 8, 2) := by decide +kernel
theorem dX5_init_19 : decode cX5_init 19 = .ok (.bipush 100, 2) := by decide +kernel
theorem dX5_init_21 : decode cX5_init 21 = .ok (.multianewarray 9 2, 4) := by decide +kernel
theorem dX5_init_25 : decode cX5_init 25 = .ok (.putfield 16, 3) := by decide +kernel
theorem dX5_init_28 : decode cX5_init 28 = .ok (.aload_n 0, 1) := by decide +kernel
theorem dX5_init_29 : decode cX5_init 29 = .ok (.new 19, 3) := by decide +kernel
theorem dX5_init_32 : decode cX5_init 32 = .ok (.dup, 1) := by decide +kernel
theorem dX5_init_33 : decode cX5_init 33 = .ok (.invokespecial 21, 3) := by decide +kernel
theorem dX5_init_36 : decode cX5_init 36 = .ok (.putfield 22, 3) := by decide +kernel
theorem dX5_init_39 : decode cX5_init 39 = .ok (.return_, 1) := by decide +kernel
theorem dX5_reckon_0 : decode cX5_reckon 0 = .ok (.aload_n 1, 1) := by decide +kernel
theorem dX5_reckon_1 : decode cX5_reckon 1 = .ok (.iload_n 2, 1) := by decide +kernel
theorem dX5_reckon_2 : decode cX5_reckon 2 = .ok (.invokevirtual 26, 3) := by decide +kernel
theorem dX5_reckon_5 : decode cX5_reckon 5 = .ok (.ifCond .ne 4, 3) := by decide +kernel
theorem dX5_reckon_8 : decode cX5_reckon 8 = .ok (.return_, 1) := by decide +kernel
theorem dX5_reckon_9 : decode cX5_reckon 9 = .ok (.aload_n 0, 1) := by decide +kernel
theorem dX5_reckon_10 : decode cX5_reckon 10 = .ok (.aload_n 1, 1) := by decide +kernel
theorem dX5_reckon_11 : decode cX5_reckon 11 = .ok (.iload_n 2, 1) := by decide +kernel
theorem dX5_reckon_12 : decode cX5_reckon 12 = .ok (.invokevirtual 32, 3) := by decide +kernel
theorem dX5_reckon_15 : decode cX5_reckon 15 = .ok (.putfield 22, 3) := by decide +kernel
theorem dX5_reckon_18 : decode cX5_reckon 18 = .ok (.aload_n 0, 1) := by decide +kernel
theorem dX5_reckon_19 : decode cX5_reckon 19 = .ok (.aload_n 1, 1) := by decide +kernel
theorem dX5_reckon_20 : decode cX5_reckon 20 = .ok (.getfield 36, 3) := by decide +kernel
theorem dX5_reckon_23 : decode cX5_reckon 23 = .ok (.putfield 40, 3) := by decide +kernel
theorem dX5_reckon_26 : decode cX5_reckon 26 = .ok (.aload_n 0, 1) := by decide +kernel
theorem dX5_reckon_27 : decode cX5_reckon 27 = .ok (.iconst 0, 1) := by decide +kernel
theorem dX5_reckon_28 : decode cX5_reckon 28 = .ok (.bipush 99, 2) := by decide +kernel
theorem dX5_reckon_30 : decode cX5_reckon 30 = .ok (.aload_n 1, 1) := by decide +kernel
theorem dX5_reckon_31 : decode cX5_reckon 31 = .ok (.getfield 43, 3) := by decide +kernel
theorem dX5_reckon_34 : decode cX5_reckon 34 = .ok (.iload_n 2, 1) := by decide +kernel
theorem dX5_reckon_35 : decode cX5_reckon 35 = .ok (.iaload, 1) := by decide +kernel
theorem dX5_reckon_36 : decode cX5_reckon 36 = .ok (.invokestatic 47, 3) := by decide +kernel
theorem dX5_reckon_39 : decode cX5_reckon 39 = .ok (.invokestatic 53, 3) := by decide +kernel
theorem dX5_reckon_42 : decode cX5_reckon 42 = .ok (.putfield 56, 3) := by decide +kernel
theorem dX5_reckon_45 : decode cX5_reckon 45 = .ok (.aload_n 0, 1) := by decide +kernel
theorem dX5_reckon_46 : decode cX5_reckon 46 = .ok (.iconst 0, 1) := by decide +kernel
theorem dX5_reckon_47 : decode cX5_reckon 47 = .ok (.bipush 7, 2) := by decide +kernel
theorem dX5_reckon_49 : decode cX5_reckon 49 = .ok (.iload_n 3, 1) := by decide +kernel
theorem dX5_reckon_50 : decode cX5_reckon 50 = .ok (.invokestatic 47, 3) := by decide +kernel
theorem dX5_reckon_53 : decode cX5_reckon 53 = .ok (.invokestatic 53, 3) := by decide +kernel
theorem dX5_reckon_56 : decode cX5_reckon 56 = .ok (.putfield 59, 3) := by decide +kernel
theorem dX5_reckon_59 : decode cX5_reckon 59 = .ok (.aload_n 0, 1) := by decide +kernel
theorem dX5_reckon_60 : decode cX5_reckon 60 = .ok (.invokevirtual 62, 3) := by decide +kernel
theorem dX5_reckon_63 : decode cX5_reckon 63 = .ok (.aload_n 0, 1) := by decide +kernel
theorem dX5_reckon_64 : decode cX5_reckon 64 = .ok (.invokevirtual 65, 3) := by decide +kernel
theorem dX5_reckon_67 : decode cX5_reckon 67 = .ok (.return_, 1) := by decide +kernel
theorem dX5_reckonBefore_0 : decode cX5_reckonBefore 0 = .ok (.iconst 0, 1) := by decide +kernel
theorem dX5_reckonBefore_1 : decode cX5_reckonBefore 1 = .ok (.istore_n 1, 1) := by decide +kernel
theorem dX5_reckonBefore_2 : decode cX5_reckonBefore 2 = .ok (.iload_n 1, 1) := by decide +kernel
theorem dX5_reckonBefore_3 : decode cX5_reckonBefore 3 = .ok (.aload_n 0, 1) := by decide +kernel
theorem dX5_reckonBefore_4 : decode cX5_reckonBefore 4 = .ok (.getfield 59, 3) := by decide +kernel
theorem dX5_reckonBefore_7 : decode cX5_reckonBefore 7 = .ok (.if_icmp .gt 32, 3) := by decide +kernel
theorem dX5_reckonBefore_10 : decode cX5_reckonBefore 10 = .ok (.iconst 0, 1) := by decide +kernel
theorem dX5_reckonBefore_11 : decode cX5_reckonBefore 11 = .ok (.istore_n 2, 1) := by decide +kernel
theorem dX5_reckonBefore_12 : decode cX5_reckonBefore 12 = .ok (.iload_n 2, 1) := by decide +kernel
theorem dX5_reckonBefore_13 : decode cX5_reckonBefore 13 = .ok (.bipush 100, 2) := by decide +kernel
theorem dX5_reckonBefore_15 : decode cX5_reckonBefore 15 = .ok (.if_icmp .ge 18, 3) := by decide +kernel
theorem dX5_reckonBefore_18 : decode cX5_reckonBefore 18 = .ok (.aload_n 0, 1) := by decide +kernel
theorem dX5_reckonBefore_19 : decode cX5_reckonBefore 19 = .ok (.getfield 11, 3) := by decide +kernel
theorem dX5_reckonBefore_22 : decode cX5_reckonBefore 22 = .ok (.iload_n 1, 1) := by decide +kernel
theorem dX5_reckonBefore_23 : decode cX5_reckonBefore 23 = .ok (.aaload, 1) := by decide +kernel
theorem dX5_reckonBefore_24 : decode cX5_reckonBefore 24 = .ok (.iload_n 2, 1) := by decide +kernel
theorem dX5_reckonBefore_25 : decode cX5_reckonBefore 25 = .ok (.iconst (-1), 1) := by decide +kernel
theorem dX5_reckonBefore_26 : decode cX5_reckonBefore 26 = .ok (.iastore, 1) := by decide +kernel
theorem dX5_reckonBefore_27 : decode cX5_reckonBefore 27 = .ok (.iinc 2 1, 3) := by decide +kernel
theorem dX5_reckonBefore_30 : decode cX5_reckonBefore 30 = .ok (.goto (-18), 3) := by decide +kernel
theorem dX5_reckonBefore_33 : decode cX5_reckonBefore 33 = .ok (.iinc 1 1, 3) := by decide +kernel
theorem dX5_reckonBefore_36 : decode cX5_reckonBefore 36 = .ok (.goto (-34), 3) := by decide +kernel
theorem dX5_reckonBefore_39 : decode cX5_reckonBefore 39 = .ok (.aload_n 0, 1) := by decide +kernel
theorem dX5_reckonBefore_40 : decode cX5_reckonBefore 40 = .ok (.getfield 11, 3) := by decide +kernel
theorem dX5_reckonBefore_43 : decode cX5_reckonBefore 43 = .ok (.iconst 0, 1) := by decide +kernel
theorem dX5_reckonBefore_44 : decode cX5_reckonBefore 44 = .ok (.aaload, 1) := by decide +kernel
theorem dX5_reckonBefore_45 : decode cX5_reckonBefore 45 = .ok (.aload_n 0, 1) := by decide +kernel
theorem dX5_reckonBefore_46 : decode cX5_reckonBefore 46 = .ok (.getfield 56, 3) := by decide +kernel
theorem dX5_reckonBefore_49 : decode cX5_reckonBefore 49 = .ok (.iconst 0, 1) := by decide +kernel
theorem dX5_reckonBefore_50 : decode cX5_reckonBefore 50 = .ok (.iastore, 1) := by decide +kernel
theorem dX5_reckonBefore_51 : decode cX5_reckonBefore 51 = .ok (.iconst 0, 1) := by decide +kernel
theorem dX5_reckonBefore_52 : decode cX5_reckonBefore 52 = .ok (.istore_n 1, 1) := by decide +kernel
theorem dX5_reckonBefore_53 : decode cX5_reckonBefore 53 = .ok (.iload_n 1, 1) := by decide +kernel
theorem dX5_reckonBefore_54 : decode cX5_reckonBefore 54 = .ok (.aload_n 0, 1) := by decide +kernel
theorem dX5_reckonBefore_55 : decode cX5_reckonBefore 55 = .ok (.getfield 59, 3) := by decide +kernel
theorem dX5_reckonBefore_58 : decode cX5_reckonBefore 58 = .ok (.if_icmp .ge 41, 3) := by decide +kernel
theorem dX5_reckonBefore_61 : decode cX5_reckonBefore 61 = .ok (.iconst 0, 1) := by decide +kernel
theorem dX5_reckonBefore_62 : decode cX5_reckonBefore 62 = .ok (.istore_n 2, 1) := by decide +kernel
theorem dX5_reckonBefore_63 : decode cX5_reckonBefore 63 = .ok (.iload_n 2, 1) := by decide +kernel
theorem dX5_reckonBefore_64 : decode cX5_reckonBefore 64 = .ok (.bipush 100, 2) := by decide +kernel
theorem dX5_reckonBefore_66 : decode cX5_reckonBefore 66 = .ok (.if_icmp .ge 27, 3) := by decide +kernel
theorem dX5_reckonBefore_69 : decode cX5_reckonBefore 69 = .ok (.aload_n 0, 1) := by decide +kernel
theorem dX5_reckonBefore_70 : decode cX5_reckonBefore 70 = .ok (.getfield 11, 3) := by decide +kernel
theorem dX5_reckonBefore_73 : decode cX5_reckonBefore 73 = .ok (.iload_n 1, 1) := by decide +kernel
theorem dX5_reckonBefore_74 : decode cX5_reckonBefore 74 = .ok (.aaload, 1) := by decide +kernel
theorem dX5_reckonBefore_75 : decode cX5_reckonBefore 75 = .ok (.iload_n 2, 1) := by decide +kernel
theorem dX5_reckonBefore_76 : decode cX5_reckonBefore 76 = .ok (.iaload, 1) := by decide +kernel
theorem dX5_reckonBefore_77 : decode cX5_reckonBefore 77 = .ok (.iconst (-1), 1) := by decide +kernel
theorem dX5_reckonBefore_78 : decode cX5_reckonBefore 78 = .ok (.if_icmp .eq 9, 3) := by decide +kernel
theorem dX5_reckonBefore_81 : decode cX5_reckonBefore 81 = .ok (.aload_n 0, 1) := by decide +kernel
theorem dX5_reckonBefore_82 : decode cX5_reckonBefore 82 = .ok (.iload_n 1, 1) := by decide +kernel
theorem dX5_reckonBefore_83 : decode cX5_reckonBefore 83 = .ok (.iload_n 2, 1) := by decide +kernel
theorem dX5_reckonBefore_84 : decode cX5_reckonBefore 84 = .ok (.invokevirtual 68, 3) := by decide +kernel
theorem dX5_reckonBefore_87 : decode cX5_reckonBefore 87 = .ok (.iinc 2 1, 3) := by decide +kernel
theorem dX5_reckonBefore_90 : decode cX5_reckonBefore 90 = .ok (.goto (-27), 3) := by decide +kernel
theorem dX5_reckonBefore_93 : decode cX5_reckonBefore 93 = .ok (.iinc 1 1, 3) := by decide +kernel
theorem dX5_reckonBefore_96 : decode cX5_reckonBefore 96 = .ok (.goto (-43), 3) := by decide +kernel
theorem dX5_reckonBefore_99 : decode cX5_reckonBefore 99 = .ok (.return_, 1) := by decide +kernel
theorem dX5_spread_0 : decode cX5_spread 0 = .ok (.iconst 0, 1) := by decide +kernel
theorem dX5_spread_1 : decode cX5_spread 1 = .ok (.istore_n 3, 1) := by decide +kernel
theorem dX5_spread_2 : decode cX5_spread 2 = .ok (.iload_n 3, 1) := by decide +kernel
theorem dX5_spread_3 : decode cX5_spread 3 = .ok (.iconst 3, 1) := by decide +kernel
theorem dX5_spread_4 : decode cX5_spread 4 = .ok (.if_icmp .ge 83, 3) := by decide +kernel
theorem dX5_spread_7 : decode cX5_spread 7 = .ok (.aload_n 0, 1) := by decide +kernel
theorem dX5_spread_8 : decode cX5_spread 8 = .ok (.getfield 22, 3) := by decide +kernel
theorem dX5_spread_11 : decode cX5_spread 11 = .ok (.iload_n 3, 1) := by decide +kernel
theorem dX5_spread_12 : decode cX5_spread 12 = .ok (.iload_n 2, 1) := by decide +kernel
theorem dX5_spread_13 : decode cX5_spread 13 = .ok (.invokevirtual 72, 3) := by decide +kernel
theorem dX5_spread_16 : decode cX5_spread 16 = .ok (.istore 4, 2) := by decide +kernel
theorem dX5_spread_18 : decode cX5_spread 18 = .ok (.iload_n 3, 1) := by decide +kernel
theorem dX5_spread_19 : decode cX5_spread 19 = .ok (.ifCond .ne 23, 3) := by decide +kernel
theorem dX5_spread_22 : decode cX5_spread 22 = .ok (.aload_n 0, 1) := by decide +kernel
theorem dX5_spread_23 : decode cX5_spread 23 = .ok (.getfield 22, 3) := by decide +kernel
theorem dX5_spread_26 : decode cX5_spread 26 = .ok (.aload_n 0, 1) := by decide +kernel
theorem dX5_spread_27 : decode cX5_spread 27 = .ok (.getfield 40, 3) := by decide +kernel
theorem dX5_spread_30 : decode cX5_spread 30 = .ok (.iload_n 1, 1) := by decide +kernel
theorem dX5_spread_31 : decode cX5_spread 31 = .ok (.iadd, 1) := by decide +kernel
theorem dX5_spread_32 : decode cX5_spread 32 = .ok (.invokestatic 75, 3) := by decide +kernel
theorem dX5_spread_35 : decode cX5_spread 35 = .ok (.iload_n 2, 1) := by decide +kernel
theorem dX5_spread_36 : decode cX5_spread 36 = .ok (.invokevirtual 79, 3) := by decide +kernel
theorem dX5_spread_39 : decode cX5_spread 39 = .ok (.goto 4, 3) := by decide +kernel
theorem dX5_spread_42 : decode cX5_spread 42 = .ok (.iconst 0, 1) := by decide +kernel
theorem dX5_spread_43 : decode cX5_spread 43 = .ok (.istore 5, 2) := by decide +kernel
theorem dX5_spread_45 : decode cX5_spread 45 = .ok (.aload_n 0, 1) := by decide +kernel
theorem dX5_spread_46 : decode cX5_spread 46 = .ok (.getfield 11, 3) := by decide +kernel
theorem dX5_spread_49 : decode cX5_spread 49 = .ok (.iload_n 1, 1) := by decide +kernel
theorem dX5_spread_50 : decode cX5_spread 50 = .ok (.iconst 1, 1) := by decide +kernel
theorem dX5_spread_51 : decode cX5_spread 51 = .ok (.iadd, 1) := by decide +kernel
theorem dX5_spread_52 : decode cX5_spread 52 = .ok (.aaload, 1) := by decide +kernel
theorem dX5_spread_53 : decode cX5_spread 53 = .ok (.iload 4, 2) := by decide +kernel
theorem dX5_spread_55 : decode cX5_spread 55 = .ok (.aload_n 0, 1) := by decide +kernel
theorem dX5_spread_56 : decode cX5_spread 56 = .ok (.getfield 11, 3) := by decide +kernel
theorem dX5_spread_59 : decode cX5_spread 59 = .ok (.iload_n 1, 1) := by decide +kernel
theorem dX5_spread_60 : decode cX5_spread 60 = .ok (.iconst 1, 1) := by decide +kernel
theorem dX5_spread_61 : decode cX5_spread 61 = .ok (.iadd, 1) := by decide +kernel
theorem dX5_spread_62 : decode cX5_spread 62 = .ok (.aaload, 1) := by decide +kernel
theorem dX5_spread_63 : decode cX5_spread 63 = .ok (.iload 4, 2) := by decide +kernel
theorem dX5_spread_65 : decode cX5_spread 65 = .ok (.iaload, 1) := by decide +kernel
theorem dX5_spread_66 : decode cX5_spread 66 = .ok (.aload_n 0, 1) := by decide +kernel
theorem dX5_spread_67 : decode cX5_spread 67 = .ok (.getfield 11, 3) := by decide +kernel
theorem dX5_spread_70 : decode cX5_spread 70 = .ok (.iload_n 1, 1) := by decide +kernel
theorem dX5_spread_71 : decode cX5_spread 71 = .ok (.aaload, 1) := by decide +kernel
theorem dX5_spread_72 : decode cX5_spread 72 = .ok (.iload_n 2, 1) := by decide +kernel
theorem dX5_spread_73 : decode cX5_spread 73 = .ok (.iaload, 1) := by decide +kernel
theorem dX5_spread_74 : decode cX5_spread 74 = .ok (.iload 5, 2) := by decide +kernel
theorem dX5_spread_76 : decode cX5_spread 76 = .ok (.iadd, 1) := by decide +kernel
theorem dX5_spread_77 : decode cX5_spread 77 = .ok (.invokestatic 53, 3) := by decide +kernel
theorem dX5_spread_80 : decode cX5_spread 80 = .ok (.iastore, 1) := by decide +kernel
theorem dX5_spread_81 : decode cX5_spread 81 = .ok (.iinc 3 1, 3) := by decide +kernel
theorem dX5_spread_84 : decode cX5_spread 84 = .ok (.goto (-82), 3) := by decide +kernel
theorem dX5_spread_87 : decode cX5_spread 87 = .ok (.return_, 1) := by decide +kernel
theorem dX5_reckonAfter_0 : decode cX5_reckonAfter 0 = .ok (.aload_n 0, 1) := by decide +kernel
theorem dX5_reckonAfter_1 : decode cX5_reckonAfter 1 = .ok (.getfield 59, 3) := by decide +kernel
theorem dX5_reckonAfter_4 : decode cX5_reckonAfter 4 = .ok (.istore_n 1, 1) := by decide +kernel
theorem dX5_reckonAfter_5 : decode cX5_reckonAfter 5 = .ok (.iload_n 1, 1) := by decide +kernel
theorem dX5_reckonAfter_6 : decode cX5_reckonAfter 6 = .ok (.ifCond .lt 104, 3) := by decide +kernel
theorem dX5_reckonAfter_9 : decode cX5_reckonAfter 9 = .ok (.iconst 0, 1) := by decide +kernel
theorem dX5_reckonAfter_10 : decode cX5_reckonAfter 10 = .ok (.istore_n 2, 1) := by decide +kernel
theorem dX5_reckonAfter_11 : decode cX5_reckonAfter 11 = .ok (.iload_n 2, 1) := by decide +kernel
theorem dX5_reckonAfter_12 : decode cX5_reckonAfter 12 = .ok (.bipush 100, 2) := by decide +kernel
theorem dX5_reckonAfter_14 : decode cX5_reckonAfter 14 = .ok (.if_icmp .ge 90, 3) := by decide +kernel
theorem dX5_reckonAfter_17 : decode cX5_reckonAfter 17 = .ok (.aload_n 0, 1) := by decide +kernel
theorem dX5_reckonAfter_18 : decode cX5_reckonAfter 18 = .ok (.getfield 16, 3) := by decide +kernel
theorem dX5_reckonAfter_21 : decode cX5_reckonAfter 21 = .ok (.iload_n 1, 1) := by decide +kernel
theorem dX5_reckonAfter_22 : decode cX5_reckonAfter 22 = .ok (.aaload, 1) := by decide +kernel
theorem dX5_reckonAfter_23 : decode cX5_reckonAfter 23 = .ok (.iload_n 2, 1) := by decide +kernel
theorem dX5_reckonAfter_24 : decode cX5_reckonAfter 24 = .ok (.iconst 0, 1) := by decide +kernel
theorem dX5_reckonAfter_25 : decode cX5_reckonAfter 25 = .ok (.iastore, 1) := by decide +kernel
theorem dX5_reckonAfter_26 : decode cX5_reckonAfter 26 = .ok (.iload_n 1, 1) := by decide +kernel
theorem dX5_reckonAfter_27 : decode cX5_reckonAfter 27 = .ok (.aload_n 0, 1) := by decide +kernel
theorem dX5_reckonAfter_28 : decode cX5_reckonAfter 28 = .ok (.getfield 59, 3) := by decide +kernel
theorem dX5_reckonAfter_31 : decode cX5_reckonAfter 31 = .ok (.if_icmp .ge 19, 3) := by decide +kernel
theorem dX5_reckonAfter_34 : decode cX5_reckonAfter 34 = .ok (.aload_n 0, 1) := by decide +kernel
theorem dX5_reckonAfter_35 : decode cX5_reckonAfter 35 = .ok (.getfield 11, 3) := by decide +kernel
theorem dX5_reckonAfter_38 : decode cX5_reckonAfter 38 = .ok (.iload_n 1, 1) := by decide +kernel
theorem dX5_reckonAfter_39 : decode cX5_reckonAfter 39 = .ok (.aaload, 1) := by decide +kernel
theorem dX5_reckonAfter_40 : decode cX5_reckonAfter 40 = .ok (.iload_n 2, 1) := by decide +kernel
theorem dX5_reckonAfter_41 : decode cX5_reckonAfter 41 = .ok (.iaload, 1) := by decide +kernel
theorem dX5_reckonAfter_42 : decode cX5_reckonAfter 42 = .ok (.iconst (-1), 1) := by decide +kernel
theorem dX5_reckonAfter_43 : decode cX5_reckonAfter 43 = .ok (.if_icmp .eq 7, 3) := by decide +kernel
theorem dX5_reckonAfter_46 : decode cX5_reckonAfter 46 = .ok (.iconst 1, 1) := by decide +kernel
theorem dX5_reckonAfter_47 : decode cX5_reckonAfter 47 = .ok (.goto 4, 3) := by decide +kernel
theorem dX5_reckonAfter_50 : decode cX5_reckonAfter 50 = .ok (.iconst 0, 1) := by decide +kernel
theorem dX5_reckonAfter_51 : decode cX5_reckonAfter 51 = .ok (.istore_n 3, 1) := by decide +kernel
theorem dX5_reckonAfter_52 : decode cX5_reckonAfter 52 = .ok (.iconst 0, 1) := by decide +kernel
theorem dX5_reckonAfter_53 : decode cX5_reckonAfter 53 = .ok (.istore 4, 2) := by decide +kernel
theorem dX5_reckonAfter_55 : decode cX5_reckonAfter 55 = .ok (.iload 4, 2) := by decide +kernel
theorem dX5_reckonAfter_57 : decode cX5_reckonAfter 57 = .ok (.iconst 3, 1) := by decide +kernel
theorem dX5_reckonAfter_58 : decode cX5_reckonAfter 58 = .ok (.if_icmp .ge 40, 3) := by decide +kernel
theorem dX5_reckonAfter_61 : decode cX5_reckonAfter 61 = .ok (.iload_n 3, 1) := by decide +kernel
theorem dX5_reckonAfter_62 : decode cX5_reckonAfter 62 = .ok (.ifCond .eq 36, 3) := by decide +kernel
theorem dX5_reckonAfter_65 : decode cX5_reckonAfter 65 = .ok (.aload_n 0, 1) := by decide +kernel
theorem dX5_reckonAfter_66 : decode cX5_reckonAfter 66 = .ok (.getfield 16, 3) := by decide +kernel
theorem dX5_reckonAfter_69 : decode cX5_reckonAfter 69 = .ok (.iload_n 1, 1) := by decide +kernel
theorem dX5_reckonAfter_70 : decode cX5_reckonAfter 70 = .ok (.aaload, 1) := by decide +kernel
theorem dX5_reckonAfter_71 : decode cX5_reckonAfter 71 = .ok (.iload_n 2, 1) := by decide +kernel
theorem dX5_reckonAfter_72 : decode cX5_reckonAfter 72 = .ok (.aload_n 0, 1) := by decide +kernel
theorem dX5_reckonAfter_73 : decode cX5_reckonAfter 73 = .ok (.getfield 16, 3) := by decide +kernel
theorem dX5_reckonAfter_76 : decode cX5_reckonAfter 76 = .ok (.iload_n 1, 1) := by decide +kernel
theorem dX5_reckonAfter_77 : decode cX5_reckonAfter 77 = .ok (.aaload, 1) := by decide +kernel
theorem dX5_reckonAfter_78 : decode cX5_reckonAfter 78 = .ok (.iload_n 2, 1) := by decide +kernel
theorem dX5_reckonAfter_79 : decode cX5_reckonAfter 79 = .ok (.iaload, 1) := by decide +kernel
theorem dX5_reckonAfter_80 : decode cX5_reckonAfter 80 = .ok (.aload_n 0, 1) := by decide +kernel
theorem dX5_reckonAfter_81 : decode cX5_reckonAfter 81 = .ok (.iload_n 1, 1) := by decide +kernel
theorem dX5_reckonAfter_82 : decode cX5_reckonAfter 82 = .ok (.iload_n 2, 1) := by decide +kernel
theorem dX5_reckonAfter_83 : decode cX5_reckonAfter 83 = .ok (.iload 4, 2) := by decide +kernel
theorem dX5_reckonAfter_85 : decode cX5_reckonAfter 85 = .ok (.invokevirtual 82, 3) := by decide +kernel
theorem dX5_reckonAfter_88 : decode cX5_reckonAfter 88 = .ok (.invokestatic 53, 3) := by decide +kernel
theorem dX5_reckonAfter_91 : decode cX5_reckonAfter 91 = .ok (.iastore, 1) := by decide +kernel
theorem dX5_reckonAfter_92 : decode cX5_reckonAfter 92 = .ok (.iinc 4 1, 3) := by decide +kernel
theorem dX5_reckonAfter_95 : decode cX5_reckonAfter 95 = .ok (.goto (-40), 3) := by decide +kernel
theorem dX5_reckonAfter_98 : decode cX5_reckonAfter 98 = .ok (.iinc 2 1, 3) := by decide +kernel
theorem dX5_reckonAfter_101 : decode cX5_reckonAfter 101 = .ok (.goto (-90), 3) := by decide +kernel
theorem dX5_reckonAfter_104 : decode cX5_reckonAfter 104 = .ok (.iinc 1 (-1), 3) := by decide +kernel
theorem dX5_reckonAfter_107 : decode cX5_reckonAfter 107 = .ok (.goto (-102), 3) := by decide +kernel
theorem dX5_reckonAfter_110 : decode cX5_reckonAfter 110 = .ok (.return_, 1) := by decide +kernel
theorem dX5_milesBy_0 : decode cX5_milesBy 0 = .ok (.iload_n 3, 1) := by decide +kernel
theorem dX5_milesBy_1 : decode cX5_milesBy 1 = .ok (.ifCond .ne 23, 3) := by decide +kernel
theorem dX5_milesBy_4 : decode cX5_milesBy 4 = .ok (.aload_n 0, 1) := by decide +kernel
theorem dX5_milesBy_5 : decode cX5_milesBy 5 = .ok (.getfield 22, 3) := by decide +kernel
theorem dX5_milesBy_8 : decode cX5_milesBy 8 = .ok (.aload_n 0, 1) := by decide +kernel
theorem dX5_milesBy_9 : decode cX5_milesBy 9 = .ok (.getfield 40, 3) := by decide +kernel
theorem dX5_milesBy_12 : decode cX5_milesBy 12 = .ok (.iload_n 1, 1) := by decide +kernel
theorem dX5_milesBy_13 : decode cX5_milesBy 13 = .ok (.iadd, 1) := by decide +kernel
theorem dX5_milesBy_14 : decode cX5_milesBy 14 = .ok (.invokestatic 75, 3) := by decide +kernel
theorem dX5_milesBy_17 : decode cX5_milesBy 17 = .ok (.iload_n 2, 1) := by decide +kernel
theorem dX5_milesBy_18 : decode cX5_milesBy 18 = .ok (.invokevirtual 79, 3) := by decide +kernel
theorem dX5_milesBy_21 : decode cX5_milesBy 21 = .ok (.goto 4, 3) := by decide +kernel
theorem dX5_milesBy_24 : decode cX5_milesBy 24 = .ok (.iconst 0, 1) := by decide +kernel
theorem dX5_milesBy_25 : decode cX5_milesBy 25 = .ok (.istore 4, 2) := by decide +kernel
theorem dX5_milesBy_27 : decode cX5_milesBy 27 = .ok (.iload 4, 2) := by decide +kernel
theorem dX5_milesBy_29 : decode cX5_milesBy 29 = .ok (.aload_n 0, 1) := by decide +kernel
theorem dX5_milesBy_30 : decode cX5_milesBy 30 = .ok (.getfield 16, 3) := by decide +kernel
theorem dX5_milesBy_33 : decode cX5_milesBy 33 = .ok (.iload_n 1, 1) := by decide +kernel
theorem dX5_milesBy_34 : decode cX5_milesBy 34 = .ok (.iconst 1, 1) := by decide +kernel
theorem dX5_milesBy_35 : decode cX5_milesBy 35 = .ok (.iadd, 1) := by decide +kernel
theorem dX5_milesBy_36 : decode cX5_milesBy 36 = .ok (.aaload, 1) := by decide +kernel
theorem dX5_milesBy_37 : decode cX5_milesBy 37 = .ok (.aload_n 0, 1) := by decide +kernel
theorem dX5_milesBy_38 : decode cX5_milesBy 38 = .ok (.getfield 22, 3) := by decide +kernel
theorem dX5_milesBy_41 : decode cX5_milesBy 41 = .ok (.iload_n 3, 1) := by decide +kernel
theorem dX5_milesBy_42 : decode cX5_milesBy 42 = .ok (.iload_n 2, 1) := by decide +kernel
theorem dX5_milesBy_43 : decode cX5_milesBy 43 = .ok (.invokevirtual 72, 3) := by decide +kernel
theorem dX5_milesBy_46 : decode cX5_milesBy 46 = .ok (.iaload, 1) := by decide +kernel
theorem dX5_milesBy_47 : decode cX5_milesBy 47 = .ok (.iadd, 1) := by decide +kernel
theorem dX5_milesBy_48 : decode cX5_milesBy 48 = .ok (.ireturn, 1) := by decide +kernel
theorem dX5_mostMiles_0 : decode cX5_mostMiles 0 = .ok (.aload_n 0, 1) := by decide +kernel
theorem dX5_mostMiles_1 : decode cX5_mostMiles 1 = .ok (.getfield 16, 3) := by decide +kernel
theorem dX5_mostMiles_4 : decode cX5_mostMiles 4 = .ok (.iconst 0, 1) := by decide +kernel
theorem dX5_mostMiles_5 : decode cX5_mostMiles 5 = .ok (.aaload, 1) := by decide +kernel
theorem dX5_mostMiles_6 : decode cX5_mostMiles 6 = .ok (.aload_n 0, 1) := by decide +kernel
theorem dX5_mostMiles_7 : decode cX5_mostMiles 7 = .ok (.getfield 56, 3) := by decide +kernel
theorem dX5_mostMiles_10 : decode cX5_mostMiles 10 = .ok (.iaload, 1) := by decide +kernel
theorem dX5_mostMiles_11 : decode cX5_mostMiles 11 = .ok (.ireturn, 1) := by decide +kernel
