theorem dX11_restedAs_9 : decode cX11_restedAs 9 = .ok (.iload_n 1, 1) := by decide +kernel
theorem dX11_restedAs_10 : decode cX11_restedAs 10 = .ok (.goto 15, 3) := by decide +kernel
theorem dX11_restedAs_13 : decode cX11_restedAs 13 = .ok (.iload_n 0, 1) := by decide +kernel
theorem dX11_restedAs_14 : decode cX11_restedAs 14 = .ok (.iconst 4, 1) := by decide +kernel
theorem dX11_restedAs_15 : decode cX11_restedAs 15 = .ok (.if_icmp .ne 9, 3) := by decide +kernel
theorem dX11_restedAs_18 : decode cX11_restedAs 18 = .ok (.iload_n 2, 1) := by decide +kernel
theorem dX11_restedAs_19 : decode cX11_restedAs 19 = .ok (.iconst 2, 1) := by decide +kernel
theorem dX11_restedAs_20 : decode cX11_restedAs 20 = .ok (.isub, 1) := by decide +kernel
theorem dX11_restedAs_21 : decode cX11_restedAs 21 = .ok (.goto 4, 3) := by decide +kernel
theorem dX11_restedAs_24 : decode cX11_restedAs 24 = .ok (.iload_n 2, 1) := by decide +kernel
theorem dX11_restedAs_25 : decode cX11_restedAs 25 = .ok (.ireturn, 1) := by decide +kernel
theorem dX11_leftAs_0 : decode cX11_leftAs 0 = .ok (.iload_n 2, 1) := by decide +kernel
theorem dX11_leftAs_1 : decode cX11_leftAs 1 = .ok (.ifCond .ne 11, 3) := by decide +kernel
theorem dX11_leftAs_4 : decode cX11_leftAs 4 = .ok (.iload_n 0, 1) := by decide +kernel
theorem dX11_leftAs_5 : decode cX11_leftAs 5 = .ok (.iload_n 1, 1) := by decide +kernel
theorem dX11_leftAs_6 : decode cX11_leftAs 6 = .ok (.invokestatic 74, 3) := by decide +kernel
theorem dX11_leftAs_9 : decode cX11_leftAs 9 = .ok (.goto 21, 3) := by decide +kernel
theorem dX11_leftAs_12 : decode cX11_leftAs 12 = .ok (.iload_n 2, 1) := by decide +kernel
theorem dX11_leftAs_13 : decode cX11_leftAs 13 = .ok (.iconst 1, 1) := by decide +kernel
theorem dX11_leftAs_14 : decode cX11_leftAs 14 = .ok (.if_icmp .ne 11, 3) := by decide +kernel
theorem dX11_leftAs_17 : decode cX11_leftAs 17 = .ok (.iload_n 0, 1) := by decide +kernel
theorem dX11_leftAs_18 : decode cX11_leftAs 18 = .ok (.iload_n 1, 1) := by decide +kernel
theorem dX11_leftAs_19 : decode cX11_leftAs 19 = .ok (.invokestatic 78, 3) := by decide +kernel
theorem dX11_leftAs_22 : decode cX11_leftAs 22 = .ok (.goto 8, 3) := by decide +kernel
theorem dX11_leftAs_25 : decode cX11_leftAs 25 = .ok (.iload_n 0, 1) := by decide +kernel
theorem dX11_leftAs_26 : decode cX11_leftAs 26 = .ok (.iload_n 1, 1) := by decide +kernel
theorem dX11_leftAs_27 : decode cX11_leftAs 27 = .ok (.invokestatic 81, 3) := by decide +kernel
theorem dX11_leftAs_30 : decode cX11_leftAs 30 = .ok (.istore_n 3, 1) := by decide +kernel
theorem dX11_leftAs_31 : decode cX11_leftAs 31 = .ok (.iload_n 3, 1) := by decide +kernel
theorem dX11_leftAs_32 : decode cX11_leftAs 32 = .ok (.ifCond .ge 7, 3) := by decide +kernel
theorem dX11_leftAs_35 : decode cX11_leftAs 35 = .ok (.iconst 0, 1) := by decide +kernel
theorem dX11_leftAs_36 : decode cX11_leftAs 36 = .ok (.goto 15, 3) := by decide +kernel
theorem dX11_leftAs_39 : decode cX11_leftAs 39 = .ok (.iload_n 3, 1) := by decide +kernel
theorem dX11_leftAs_40 : decode cX11_leftAs 40 = .ok (.bipush 99, 2) := by decide +kernel
theorem dX11_leftAs_42 : decode cX11_leftAs 42 = .ok (.if_icmp .le 8, 3) := by decide +kernel
theorem dX11_leftAs_45 : decode cX11_leftAs 45 = .ok (.bipush 99, 2) := by decide +kernel
theorem dX11_leftAs_47 : decode cX11_leftAs 47 = .ok (.goto 4, 3) := by decide +kernel
theorem dX11_leftAs_50 : decode cX11_leftAs 50 = .ok (.iload_n 3, 1) := by decide +kernel
theorem dX11_leftAs_51 : decode cX11_leftAs 51 = .ok (.ireturn, 1) := by decide +kernel
theorem dX11_kindOf_0 : decode cX11_kindOf 0 = .ok (.aload_n 0, 1) := by decide +kernel
theorem dX11_kindOf_1 : decode cX11_kindOf 1 = .ok (.getfield 7, 3) := by decide +kernel
theorem dX11_kindOf_4 : decode cX11_kindOf 4 = .ok (.bipush 17, 2) := by decide +kernel
theorem dX11_kindOf_6 : decode cX11_kindOf 6 = .ok (.iload_n 1, 1) := by decide +kernel
theorem dX11_kindOf_7 : decode cX11_kindOf 7 = .ok (.iadd, 1) := by decide +kernel
theorem dX11_kindOf_8 : decode cX11_kindOf 8 = .ok (.iaload, 1) := by decide +kernel
theorem dX11_kindOf_9 : decode cX11_kindOf 9 = .ok (.ireturn, 1) := by decide +kernel
theorem dX11_goDay_0 : decode cX11_goDay 0 = .ok (.aload_n 0, 1) := by decide +kernel
theorem dX11_goDay_1 : decode cX11_goDay 1 = .ok (.dup, 1) := by decide +kernel
theorem dX11_goDay_2 : decode cX11_goDay 2 = .ok (.getfield 84, 3) := by decide +kernel
theorem dX11_goDay_5 : decode cX11_goDay 5 = .ok (.iload_n 3, 1) := by decide +kernel
theorem dX11_goDay_6 : decode cX11_goDay 6 = .ok (.ifCond .ne 18, 3) := by decide +kernel
theorem dX11_goDay_9 : decode cX11_goDay 9 = .ok (.iload_n 1, 1) := by decide +kernel
theorem dX11_goDay_10 : decode cX11_goDay 10 = .ok (.aload_n 0, 1) := by decide +kernel
theorem dX11_goDay_11 : decode cX11_goDay 11 = .ok (.getfield 88, 3) := by decide +kernel
theorem dX11_goDay_14 : decode cX11_goDay 14 = .ok (.iload_n 2, 1) := by decide +kernel
theorem dX11_goDay_15 : decode cX11_goDay 15 = .ok (.invokestatic 91, 3) := by decide +kernel
theorem dX11_goDay_18 : decode cX11_goDay 18 = .ok (.invokestatic 94, 3) := by decide +kernel
theorem dX11_goDay_21 : decode cX11_goDay 21 = .ok (.goto 4, 3) := by decide +kernel
theorem dX11_goDay_24 : decode cX11_goDay 24 = .ok (.iconst 0, 1) := by decide +kernel
theorem dX11_goDay_25 : decode cX11_goDay 25 = .ok (.iadd, 1) := by decide +kernel
theorem dX11_goDay_26 : decode cX11_goDay 26 = .ok (.putfield 84, 3) := by decide +kernel
theorem dX11_goDay_29 : decode cX11_goDay 29 = .ok (.aload_n 0, 1) := by decide +kernel
theorem dX11_goDay_30 : decode cX11_goDay 30 = .ok (.iload_n 1, 1) := by decide +kernel
theorem dX11_goDay_31 : decode cX11_goDay 31 = .ok (.aload_n 0, 1) := by decide +kernel
theorem dX11_goDay_32 : decode cX11_goDay 32 = .ok (.getfield 88, 3) := by decide +kernel
theorem dX11_goDay_35 : decode cX11_goDay 35 = .ok (.iload_n 3, 1) := by decide +kernel
theorem dX11_goDay_36 : decode cX11_goDay 36 = .ok (.invokestatic 98, 3) := by decide +kernel
theorem dX11_goDay_39 : decode cX11_goDay 39 = .ok (.putfield 88, 3) := by decide +kernel
theorem dX11_goDay_42 : decode cX11_goDay 42 = .ok (.return_, 1) := by decide +kernel
theorem dX11_layOne_0 : decode cX11_layOne 0 = .ok (.aload_n 0, 1) := by decide +kernel
theorem dX11_layOne_1 : decode cX11_layOne 1 = .ok (.aload_n 0, 1) := by decide +kernel
theorem dX11_layOne_2 : decode cX11_layOne 2 = .ok (.getfield 7, 3) := by decide +kernel
theorem dX11_layOne_5 : decode cX11_layOne 5 = .ok (.iconst 4, 1) := by decide +kernel
theorem dX11_layOne_6 : decode cX11_layOne 6 = .ok (.iload_n 1, 1) := by decide +kernel
theorem dX11_layOne_7 : decode cX11_layOne 7 = .ok (.iadd, 1) := by decide +kernel
theorem dX11_layOne_8 : decode cX11_layOne 8 = .ok (.iaload, 1) := by decide +kernel
theorem dX11_layOne_9 : decode cX11_layOne 9 = .ok (.putfield 88, 3) := by decide +kernel
theorem dX11_layOne_12 : decode cX11_layOne 12 = .ok (.aload_n 0, 1) := by decide +kernel
theorem dX11_layOne_13 : decode cX11_layOne 13 = .ok (.iconst 0, 1) := by decide +kernel
theorem dX11_layOne_14 : decode cX11_layOne 14 = .ok (.putfield 84, 3) := by decide +kernel
theorem dX11_layOne_17 : decode cX11_layOne 17 = .ok (.return_, 1) := by decide +kernel
theorem dX11_keep_0 : decode cX11_keep 0 = .ok (.aload_n 0, 1) := by decide +kernel
theorem dX11_keep_1 : decode cX11_keep 1 = .ok (.getfield 7, 3) := by decide +kernel
theorem dX11_keep_4 : decode cX11_keep 4 = .ok (.iconst 3, 1) := by decide +kernel
theorem dX11_keep_5 : decode cX11_keep 5 = .ok (.iaload, 1) := by decide +kernel
theorem dX11_keep_6 : decode cX11_keep 6 = .ok (.bipush 8, 2) := by decide +kernel
theorem dX11_keep_8 : decode cX11_keep 8 = .ok (.if_icmp .ne 43, 3) := by decide +kernel
theorem dX11_keep_11 : decode cX11_keep 11 = .ok (.iconst 0, 1) := by decide +kernel
theorem dX11_keep_12 : decode cX11_keep 12 = .ok (.istore_n 1, 1) := by decide +kernel
theorem dX11_keep_13 : decode cX11_keep 13 = .ok (.iload_n 1, 1) := by decide +kernel
theorem dX11_keep_14 : decode cX11_keep 14 = .ok (.bipush 91, 2) := by decide +kernel
theorem dX11_keep_16 : decode cX11_keep 16 = .ok (.if_icmp .ge 27, 3) := by decide +kernel
theorem dX11_keep_19 : decode cX11_keep 19 = .ok (.aload_n 0, 1) := by decide +kernel
theorem dX11_keep_20 : decode cX11_keep 20 = .ok (.getfield 7, 3) := by decide +kernel
theorem dX11_keep_23 : decode cX11_keep 23 = .ok (.bipush 71, 2) := by decide +kernel
theorem dX11_keep_25 : decode cX11_keep 25 = .ok (.iload_n 1, 1) := by decide +kernel
theorem dX11_keep_26 : decode cX11_keep 26 = .ok (.iadd, 1) := by decide +kernel
theorem dX11_keep_27 : decode cX11_keep 27 = .ok (.aload_n 0, 1) := by decide +kernel
theorem dX11_keep_28 : decode cX11_keep 28 = .ok (.getfield 7, 3) := by decide +kernel
theorem dX11_keep_31 : decode cX11_keep 31 = .ok (.bipush 84, 2) := by decide +kernel
theorem dX11_keep_33 : decode cX11_keep 33 = .ok (.iload_n 1, 1) := by decide +kernel
theorem dX11_keep_34 : decode cX11_keep 34 = .ok (.iadd, 1) := by decide +kernel
theorem dX11_keep_35 : decode cX11_keep 35 = .ok (.iaload, 1) := by decide +kernel
theorem dX11_keep_36 : decode cX11_keep 36 = .ok (.iastore, 1) := by decide +kernel
theorem dX11_keep_37 : decode cX11_keep 37 = .ok (.iinc 1 1, 3) := by decide +kernel
theorem dX11_keep_40 : decode cX11_keep 40 = .ok (.goto (-27), 3) := by decide +kernel
theorem dX11_keep_43 : decode cX11_keep 43 = .ok (.aload_n 0, 1) := by decide +kernel
theorem dX11_keep_44 : decode cX11_keep 44 = .ok (.getfield 7, 3) := by decide +kernel
theorem dX11_keep_47 : decode cX11_keep 47 = .ok (.iconst 3, 1) := by decide +kernel
theorem dX11_keep_48 : decode cX11_keep 48 = .ok (.bipush 7, 2) := by decide +kernel
theorem dX11_keep_50 : decode cX11_keep 50 = .ok (.iastore, 1) := by decide +kernel
theorem dX11_keep_51 : decode cX11_keep 51 = .ok (.iconst 0, 1) := by decide +kernel
theorem dX11_keep_52 : decode cX11_keep 52 = .ok (.istore_n 1, 1) := by decide +kernel
theorem dX11_keep_53 : decode cX11_keep 53 = .ok (.iload_n 1, 1) := by decide +kernel
theorem dX11_keep_54 : decode cX11_keep 54 = .ok (.bipush 13, 2) := by decide +kernel
theorem dX11_keep_56 : decode cX11_keep 56 = .ok (.if_icmp .ge 36, 3) := by decide +kernel
theorem dX11_keep_59 : decode cX11_keep 59 = .ok (.aload_n 0, 1) := by decide +kernel
theorem dX11_keep_60 : decode cX11_keep 60 = .ok (.getfield 7, 3) := by decide +kernel
theorem dX11_keep_63 : decode cX11_keep 63 = .ok (.bipush 71, 2) := by decide +kernel
theorem dX11_keep_65 : decode cX11_keep 65 = .ok (.bipush 13, 2) := by decide +kernel
theorem dX11_keep_67 : decode cX11_keep 67 = .ok (.aload_n 0, 1) := by decide +kernel
theorem dX11_keep_68 : decode cX11_keep 68 = .ok (.getfield 7, 3) := by decide +kernel
theorem dX11_keep_71 : decode cX11_keep 71 = .ok (.iconst 3, 1) := by decide +kernel
theorem dX11_keep_72 : decode cX11_keep 72 = .ok (.iaload, 1) := by decide +kernel
theorem dX11_keep_73 : decode cX11_keep 73 = .ok (.imul, 1) := by decide +kernel
theorem dX11_keep_74 : decode cX11_keep 74 = .ok (.iadd, 1) := by decide +kernel
theorem dX11_keep_75 : decode cX11_keep 75 = .ok (.iload_n 1, 1) := by decide +kernel
theorem dX11_keep_76 : decode cX11_keep 76 = .ok (.iadd, 1) := by decide +kernel
theorem dX11_keep_77 : decode cX11_keep 77 = .ok (.aload_n 0, 1) := by decide +kernel
theorem dX11_keep_78 : decode cX11_keep 78 = .ok (.getfield 7, 3) := by decide +kernel
theorem dX11_keep_81 : decode cX11_keep 81 = .ok (.iconst 4, 1) := by decide +kernel
theorem dX11_keep_82 : decode cX11_keep 82 = .ok (.iload_n 1, 1) := by decide +kernel
theorem dX11_keep_83 : decode cX11_keep 83 = .ok (.iadd, 1) := by decide +kernel
theorem dX11_keep_84 : decode cX11_keep 84 = .ok (.iaload, 1) := by decide +kernel
theorem dX11_keep_85 : decode cX11_keep 85 = .ok (.iastore, 1) := by decide +kernel
theorem dX11_keep_86 : decode cX11_keep 86 = .ok (.iinc 1 1, 3) := by decide +kernel
theorem dX11_keep_89 : decode cX11_keep 89 = .ok (.goto (-36), 3) := by decide +kernel
theorem dX11_keep_92 : decode cX11_keep 92 = .ok (.aload_n 0, 1) := by decide +kernel
theorem dX11_keep_93 : decode cX11_keep 93 = .ok (.getfield 7, 3) := by decide +kernel
theorem dX11_keep_96 : decode cX11_keep 96 = .ok (.iconst 3, 1) := by decide +kernel
theorem dX11_keep_97 : decode cX11_keep 97 = .ok (.dup2, 1) := by decide +kernel
theorem dX11_keep_98 : decode cX11_keep 98 = .ok (.iaload, 1) := by decide +kernel
theorem dX11_keep_99 : decode cX11_keep 99 = .ok (.iconst 1, 1) := by decide +kernel
theorem dX11_keep_100 : decode cX11_keep 100 = .ok (.iadd, 1) := by decide +kernel
theorem dX11_keep_101 : decode cX11_keep 101 = .ok (.iastore, 1) := by decide +kernel
theorem dX11_keep_102 : decode cX11_keep 102 = .ok (.return_, 1) := by decide +kernel
theorem dX11_passDay_0 : decode cX11_passDay 0 = .ok (.iconst 0, 1) := by decide +kernel
theorem dX11_passDay_1 : decode cX11_passDay 1 = .ok (.istore 4, 2) := by decide +kernel
theorem dX11_passDay_3 : decode cX11_passDay 3 = .ok (.iconst 0, 1) := by decide +kernel
theorem dX11_passDay_4 : decode cX11_passDay 4 = .ok (.istore 5, 2) := by decide +kernel
theorem dX11_passDay_6 : decode cX11_passDay 6 = .ok (.iload 5, 2) := by decide +kernel
theorem dX11_passDay_8 : decode cX11_passDay 8 = .ok (.aload_n 1, 1) := by decide +kernel
theorem dX11_passDay_9 : decode cX11_passDay 9 = .ok (.iconst 0, 1) := by decide +kernel
theorem dX11_passDay_10 : decode cX11_passDay 10 = .ok (.iaload, 1) := by decide +kernel
theorem dX11_passDay_11 : decode cX11_passDay 11 = .ok (.if_icmp .ge 88, 3) := by decide +kernel
theorem dX11_passDay_14 : decode cX11_passDay 14 = .ok (.aload_n 0, 1) := by decide +kernel
theorem dX11_passDay_15 : decode cX11_passDay 15 = .ok (.aload_n 1, 1) := by decide +kernel
theorem dX11_passDay_16 : decode cX11_passDay 16 = .ok (.iconst 4, 1) := by decide +kernel
theorem dX11_passDay_17 : decode cX11_passDay 17 = .ok (.iload 5, 2) := by decide +kernel
theorem dX11_passDay_19 : decode cX11_passDay 19 = .ok (.iadd, 1) := by decide +kernel
theorem dX11_passDay_20 : decode cX11_passDay 20 = .ok (.iaload, 1) := by decide +kernel
theorem dX11_passDay_21 : decode cX11_passDay 21 = .ok (.putfield 88, 3) := by decide +kernel
theorem dX11_passDay_24 : decode cX11_passDay 24 = .ok (.aload_n 0, 1) := by decide +kernel
theorem dX11_passDay_25 : decode cX11_passDay 25 = .ok (.iconst 0, 1) := by decide +kernel
theorem dX11_passDay_26 : decode cX11_passDay 26 = .ok (.putfield 84, 3) := by decide +kernel
theorem dX11_passDay_29 : decode cX11_passDay 29 = .ok (.aload_n 0, 1) := by decide +kernel
theorem dX11_passDay_30 : decode cX11_passDay 30 = .ok (.aload_n 1, 1) := by decide +kernel
theorem dX11_passDay_31 : decode cX11_passDay 31 = .ok (.bipush 17, 2) := by decide +kernel
theorem dX11_passDay_33 : decode cX11_passDay 33 = .ok (.iload 5, 2) := by decide +kernel
theorem dX11_passDay_35 : decode cX11_passDay 35 = .ok (.iadd, 1) := by decide +kernel
theorem dX11_passDay_36 : decode cX11_passDay 36 = .ok (.iaload, 1) := by decide +kernel
theorem dX11_passDay_37 : decode cX11_passDay 37 = .ok (.aload_n 1, 1) := by decide +kernel
theorem dX11_passDay_38 : decode cX11_passDay 38 = .ok (.bipush 16, 2) := by decide +kernel
theorem dX11_passDay_40 : decode cX11_passDay 40 = .ok (.iaload, 1) := by decide +kernel
theorem dX11_passDay_41 : decode cX11_passDay 41 = .ok (.iload_n 2, 1) := by decide +kernel
theorem dX11_passDay_42 : decode cX11_passDay 42 = .ok (.iconst (-1), 1) := by decide +kernel
theorem dX11_passDay_43 : decode cX11_passDay 43 = .ok (.if_icmp .eq 9, 3) := by decide +kernel
theorem dX11_passDay_46 : decode cX11_passDay 46 = .ok (.iload_n 2, 1) := by decide +kernel
theorem dX11_passDay_47 : decode cX11_passDay 47 = .ok (.iload 5, 2) := by decide +kernel
theorem dX11_passDay_49 : decode cX11_passDay 49 = .ok (.if_icmp .ne 7, 3) := by decide +kernel
theorem dX11_passDay_52 : decode cX11_passDay 52 = .ok (.iload_n 3, 1) := by decide +kernel
theorem dX11_passDay_53 : decode cX11_passDay 53 = .ok (.goto 4, 3) := by decide +kernel
theorem dX11_passDay_56 : decode cX11_passDay 56 = .ok (.iconst 2, 1) := by decide +kernel
theorem dX11_passDay_57 : decode cX11_passDay 57 = .ok (.invokevirtual 101, 3) := by decide +kernel
theorem dX11_passDay_60 : decode cX11_passDay 60 = .ok (.aload_n 1, 1) := by decide +kernel
theorem dX11_passDay_61 : decode cX11_passDay 61 = .ok (.iconst 4, 1) := by decide +kernel
theorem dX11_passDay_62 : decode cX11_passDay 62 = .ok (.iload 5, 2) := by decide +kernel
theorem dX11_passDay_64 : decode cX11_passDay 64 = .ok (.iadd, 1) := by decide +kernel
theorem dX11_passDay_65 : decode cX11_passDay 65 = .ok (.aload_n 0, 1) := by decide +kernel
theorem dX11_passDay_66 : decode cX11_passDay 66 = .ok (.getfield 88, 3) := by decide +kernel
theorem dX11_passDay_69 : decode cX11_passDay 69 = .ok (.iastore, 1) := by decide +kernel
theorem dX11_passDay_70 : decode cX11_passDay 70 = .ok (.aload_n 1, 1) := by decide +kernel
theorem dX11_passDay_71 : decode cX11_passDay 71 = .ok (.bipush 10, 2) := by decide +kernel
theorem dX11_passDay_73 : decode cX11_passDay 73 = .ok (.iload 5, 2) := by decide +kernel
theorem dX11_passDay_75 : decode cX11_passDay 75 = .ok (.iadd, 1) := by decide +kernel
theorem dX11_passDay_76 : decode cX11_passDay 76 = .ok (.dup2, 1) := by decide +kernel
theorem dX11_passDay_77 : decode cX11_passDay 77 = .ok (.iaload, 1) := by decide +kernel
theorem dX11_passDay_78 : decode cX11_passDay 78 = .ok (.aload_n 0, 1) := by decide +kernel
theorem dX11_passDay_79 : decode cX11_passDay 79 = .ok (.getfield 84, 3) := by decide +kernel
theorem dX11_passDay_82 : decode cX11_passDay 82 = .ok (.iadd, 1) := by decide +kernel
theorem dX11_passDay_83 : decode cX11_passDay 83 = .ok (.iastore, 1) := by decide +kernel
theorem dX11_passDay_84 : decode cX11_passDay 84 = .ok (.iload 4, 2) := by decide +kernel
theorem dX11_passDay_86 : decode cX11_passDay 86 = .ok (.aload_n 0, 1) := by decide +kernel
theorem dX11_passDay_87 : decode cX11_passDay 87 = .ok (.getfield 84, 3) := by decide +kernel
theorem dX11_passDay_90 : decode cX11_passDay 90 = .ok (.iadd, 1) := by decide +kernel
theorem dX11_passDay_91 : decode cX11_passDay 91 = .ok (.istore 4, 2) := by decide +kernel
theorem dX11_passDay_93 : decode cX11_passDay 93 = .ok (.iinc 5 1, 3) := by decide +kernel
theorem dX11_passDay_96 : decode cX11_passDay 96 = .ok (.goto (-90), 3) := by decide +kernel
theorem dX11_passDay_99 : decode cX11_passDay 99 = .ok (.aload_n 1, 1) := by decide +kernel
theorem dX11_passDay_100 : decode cX11_passDay 100 = .ok (.bipush 16, 2) := by decide +kernel
theorem dX11_passDay_102 : decode cX11_passDay 102 = .ok (.dup2, 1) := by decide +kernel
theorem dX11_passDay_103 : decode cX11_passDay 103 = .ok (.iaload, 1) := by decide +kernel
theorem dX11_passDay_104 : decode cX11_passDay 104 = .ok (.iconst 1, 1) := by decide +kernel
theorem dX11_passDay_105 : decode cX11_passDay 105 = .ok (.iadd, 1) := by decide +kernel
theorem dX11_passDay_106 : decode cX11_passDay 106 = .ok (.iastore, 1) := by decide +kernel
theorem dX11_passDay_107 : decode cX11_passDay 107 = .ok (.iload 4, 2) := by decide +kernel
theorem dX11_passDay_109 : decode cX11_passDay 109 = .ok (.ireturn, 1) := by decide +kernel
theorem dX11_days_0 : decode cX11_days 0 = .ok (.iload_n 1, 1) := by decide +kernel
theorem dX11_days_1 : decode cX11_days 1 = .ok (.i2l, 1) := by decide +kernel
theorem dX11_days_2 : decode cX11_days 2 = .ok (.lconst 1, 1) := by decide +kernel
theorem dX11_days_3 : decode cX11_days 3 = .ok (.ldc2_w 61, 3) := by decide +kernel
theorem dX11_days_6 : decode cX11_days 6 = .ok (.invokestatic 53, 3) := by decide +kernel
theorem dX11_days_9 : decode cX11_days 9 = .ok (.ifCond .eq 10, 3) := by decide +kernel
theorem dX11_days_12 : decode cX11_days 12 = .ok (.iload_n 2, 1) := by decide +kernel
theorem dX11_days_13 : decode cX11_days 13 = .ok (.invokestatic 105, 3) := by decide +kernel
theorem dX11_days_16 : decode cX11_days 16 = .ok (.ifCond .ne 10, 3) := by decide +kernel
theorem dX11_days_19 : decode cX11_days 19 = .ok (.aload_n 0, 1) := by decide +kernel
theorem dX11_days_20 : decode cX11_days 20 = .ok (.bipush (-2), 2) := by decide +kernel
theorem dX11_days_22 : decode cX11_days 22 = .ok (.invokevirtual 63, 3) := by decide +kernel
theorem dX11_days_25 : decode cX11_days 25 = .ok (.ireturn, 1) := by decide +kernel
theorem dX11_days_26 : decode cX11_days 26 = .ok (.iconst 0, 1) := by decide +kernel
theorem dX11_days_27 : decode cX11_days 27 = .ok (.istore_n 3, 1) := by decide +kernel
theorem dX11_days_28 : decode cX11_days 28 = .ok (.aload_n 0, 1) := by decide +kernel
theorem dX11_days_29 : decode cX11_days 29 = .ok (.invokevirtual 109, 3) := by decide +kernel
theorem dX11_days_32 : decode cX11_days 32 = .ok (.iconst 0, 1) := by decide +kernel
theorem dX11_days_33 : decode cX11_days 33 = .ok (.istore 4, 2) := by decide +kernel
theorem dX11_days_35 : decode cX11_days 35 = .ok (.iload 4, 2) := by decide +kernel
theorem dX11_days_37 : decode cX11_days 37 = .ok (.iload_n 1, 1) := by decide +kernel
theorem dX11_days_38 : decode cX11_days 38 = .ok (.if_icmp .ge 35, 3) := by decide +kernel
theorem dX11_days_41 : decode cX11_days 41 = .ok (.aload_n 0, 1) := by decide +kernel
theorem dX11_days_42 : decode cX11_days 42 = .ok (.getfield 7, 3) := by decide +kernel
theorem dX11_days_45 : decode cX11_days 45 = .ok (.bipush 16, 2) := by decide +kernel
theorem dX11_days_47 : decode cX11_days 47 = .ok (.iaload, 1) := by decide +kernel
theorem dX11_days_48 : decode cX11_days 48 = .ok (.sipush 9999, 3) := by decide +kernel
theorem dX11_days_51 : decode cX11_days 51 = .ok (.if_icmp .ge 22, 3) := by decide +kernel
theorem dX11_days_54 : decode cX11_days 54 = .ok (.iload_n 3, 1) := by decide +kernel
theorem dX11_days_55 : decode cX11_days 55 = .ok (.aload_n 0, 1) := by decide +kernel
theorem dX11_days_56 : decode cX11_days 56 = .ok (.aload_n 0, 1) := by decide +kernel
theorem dX11_days_57 : decode cX11_days 57 = .ok (.getfield 7, 3) := by decide +kernel
theorem dX11_days_60 : decode cX11_days 60 = .ok (.iconst (-1), 1) := by decide +kernel
theorem dX11_days_61 : decode cX11_days 61 = .ok (.iload_n 2, 1) := by decide +kernel
theorem dX11_days_62 : decode cX11_days 62 = .ok (.invokevirtual 112, 3) := by decide +kernel
theorem dX11_days_65 : decode cX11_days 65 = .ok (.iadd, 1) := by decide +kernel
theorem dX11_days_66 : decode cX11_days 66 = .ok (.istore_n 3, 1) := by decide +kernel
theorem dX11_days_67 : decode cX11_days 67 = .ok (.iinc 4 1, 3) := by decide +kernel
theorem dX11_days_70 : decode cX11_days 70 = .ok (.goto (-35), 3) := by decide +kernel
theorem dX11_days_73 : decode cX11_days 73 = .ok (.iload_n 3, 1) := by decide +kernel
theorem dX11_days_74 : decode cX11_days 74 = .ok (.ireturn, 1) := by decide +kernel
theorem dX11_day_0 : decode cX11_day 0 = .ok (.aload_n 0, 1) := by decide +kernel
theorem dX11_day_1 : decode cX11_day 1 = .ok (.iload_n 1, 1) := by decide +kernel
theorem dX11_day_2 : decode cX11_day 2 = .ok (.invokevirtual 116, 3) := by decide +kernel
theorem dX11_day_5 : decode cX11_day 5 = .ok (.ifCond .eq 10, 3) := by decide +kernel
theorem dX11_day_8 : decode cX11_day 8 = .ok (.iload_n 2, 1) := by decide +kernel
theorem dX11_day_9 : decode cX11_day 9 = .ok (.invokestatic 105, 3) := by decide +kernel
theorem dX11_day_12 : decode cX11_day 12 = .ok (.ifCond .ne 10, 3) := by decide +kernel
theorem dX11_day_15 : decode cX11_day 15 = .ok (.aload_n 0, 1) := by decide +kernel
theorem dX11_day_16 : decode cX11_day 16 = .ok (.bipush (-2), 2) := by decide +kernel
theorem dX11_day_18 : decode cX11_day 18 = .ok (.invokevirtual 63, 3) := by decide +kernel
theorem dX11_day_21 : decode cX11_day 21 = .ok (.ireturn, 1) := by decide +kernel
theorem dX11_day_22 : decode cX11_day 22 = .ok (.aload_n 0, 1) := by decide +kernel
theorem dX11_day_23 : decode cX11_day 23 = .ok (.invokevirtual 109, 3) := by decide +kernel
theorem dX11_day_26 : decode cX11_day 26 = .ok (.aload_n 0, 1) := by decide +kernel
theorem dX11_day_27 : decode cX11_day 27 = .ok (.getfield 7, 3) := by decide +kernel
theorem dX11_day_30 : decode cX11_day 30 = .ok (.bipush 16, 2) := by decide +kernel
theorem dX11_day_32 : decode cX11_day 32 = .ok (.iaload, 1) := by decide +kernel
theorem dX11_day_33 : decode cX11_day 33 = .ok (.sipush 9999, 3) := by decide +kernel
theorem dX11_day_36 : decode cX11_day 36 = .ok (.if_icmp .ge 16, 3) := by decide +kernel
theorem dX11_day_39 : decode cX11_day 39 = .ok (.aload_n 0, 1) := by decide +kernel
theorem dX11_day_40 : decode cX11_day 40 = .ok (.aload_n 0, 1) := by decide +kernel
theorem dX11_day_41 : decode cX11_day 41 = .ok (.getfield 7, 3) := by decide +kernel
theorem dX11_day_44 : decode cX11_day 44 = .ok (.iload_n 1, 1) := by decide +kernel
theorem dX11_day_45 : decode cX11_day 45 = .ok (.iload_n 2, 1) := by decide +kernel
theorem dX11_day_46 : decode cX11_day 46 = .ok (.invokevirtual 112, 3) := by decide +kernel
theorem dX11_day_49 : decode cX11_day 49 = .ok (.goto 4, 3) := by decide +kernel
theorem dX11_day_52 : decode cX11_day 52 = .ok (.iconst 0, 1) := by decide +kernel
theorem dX11_day_53 : decode cX11_day 53 = .ok (.ireturn, 1) := by decide +kernel
theorem dX11_undo_0 : decode cX11_undo 0 = .ok (.aload_n 0, 1) := by decide +kernel
theorem dX11_undo_1 : decode cX11_undo 1 = .ok (.getfield 7, 3) := by decide +kernel
theorem dX11_undo_4 : decode cX11_undo 4 = .ok (.iconst 3, 1) := by decide +kernel
theorem dX11_undo_5 : decode cX11_undo 5 = .ok (.iaload, 1) := by decide +kernel
theorem dX11_undo_6 : decode cX11_undo 6 = .ok (.ifCond .ne 8, 3) := by decide +kernel
theorem dX11_undo_9 : decode cX11_undo 9 = .ok (.aload_n 0, 1) := by decide +kernel
theorem dX11_undo_10 : decode cX11_undo 10 = .ok (.invokevirtual 119, 3) := by decide +kernel
theorem dX11_undo_13 : decode cX11_undo 13 = .ok (.ireturn, 1) := by decide +kernel
theorem dX11_undo_14 : decode cX11_undo 14 = .ok (.aload_n 0, 1) := by decide +kernel
theorem dX11_undo_15 : decode cX11_undo 15 = .ok (.getfield 7, 3) := by decide +kernel
theorem dX11_undo_18 : decode cX11_undo 18 = .ok (.iconst 3, 1) := by decide +kernel
theorem dX11_undo_19 : decode cX11_undo 19 = .ok (.dup2, 1) := by decide +kernel
theorem dX11_undo_20 : decode cX11_undo 20 = .ok (.iaload, 1) := by decide +kernel
theorem dX11_undo_21 : decode cX11_undo 21 = .ok (.iconst 1, 1) := by decide +kernel
theorem dX11_undo_22 : decode cX11_undo 22 = .ok (.isub, 1) := by decide +kernel
theorem dX11_undo_23 : decode cX11_undo 23 = .ok (.iastore, 1) := by decide +kernel
theorem dX11_undo_24 : decode cX11_undo 24 = .ok (.iconst 0, 1) := by decide +kernel
theorem dX11_undo_25 : decode cX11_undo 25 = .ok (.istore_n 1, 1) := by decide +kernel
theorem dX11_undo_26 : decode cX11_undo 26 = .ok (.iload_n 1, 1) := by decide +kernel
theorem dX11_undo_27 : decode cX11_undo 27 = .ok (.bipush 13, 2) := by decide +kernel
theorem dX11_undo_29 : decode cX11_undo 29 = .ok (.if_icmp .ge 36, 3) := by decide +kernel
theorem dX11_undo_32 : decode cX11_undo 32 = .ok (.aload_n 0, 1) := by decide +kernel
theorem dX11_undo_33 : decode cX11_undo 33 = .ok (.getfield 7, 3) := by decide +kernel
theorem dX11_undo_36 : decode cX11_undo 36 = .ok (.iconst 4, 1) := by decide +kernel
theorem dX11_undo_37 : decode cX11_undo 37 = .ok (.iload_n 1, 1) := by decide +kernel
theorem dX11_undo_38 : decode cX11_undo 38 = .ok (.iadd, 1) := by decide +kernel
theorem dX11_undo_39 : decode cX11_undo 39 = .ok (.aload_n 0, 1) := by decide +kernel
theorem dX11_undo_40 : decode cX11_undo 40 = .ok (.getfield 7, 3) := by decide +kernel
theorem dX11_undo_43 : decode cX11_undo 43 = .ok (.bipush 71, 2) := by decide +kernel
theorem dX11_undo_45 : decode cX11_undo 45 = .ok (.bipush 13, 2) := by decide +kernel
theorem dX11_undo_47 : decode cX11_undo 47 = .ok (.aload_n 0, 1) := by decide +kernel
theorem dX11_undo_48 : decode cX11_undo 48 = .ok (.getfield 7, 3) := by decide +kernel
theorem dX11_undo_51 : decode cX11_undo 51 = .ok (.iconst 3, 1) := by decide +kernel
theorem dX11_undo_52 : decode cX11_undo 52 = .ok (.iaload, 1) := by decide +kernel
theorem dX11_undo_53 : decode cX11_undo 53 = .ok (.imul, 1) := by decide +kernel
theorem dX11_undo_54 : decode cX11_undo 54 = .ok (.iadd, 1) := by decide +kernel
theorem dX11_undo_55 : decode cX11_undo 55 = .ok (.iload_n 1, 1) := by decide +kernel
theorem dX11_undo_56 : decode cX11_undo 56 = .ok (.iadd, 1) := by decide +kernel
theorem dX11_undo_57 : decode cX11_undo 57 = .ok (.iaload, 1) := by decide +kernel
theorem dX11_undo_58 : decode cX11_undo 58 = .ok (.iastore, 1) := by decide +kernel
theorem dX11_undo_59 : decode cX11_undo 59 = .ok (.iinc 1 1, 3) := by decide +kernel
theorem dX11_undo_62 : decode cX11_undo 62 = .ok (.goto (-36), 3) := by decide +kernel
theorem dX11_undo_65 : decode cX11_undo 65 = .ok (.aload_n 0, 1) := by decide +kernel
theorem dX11_undo_66 : decode cX11_undo 66 = .ok (.getfield 7, 3) := by decide +kernel
theorem dX11_undo_69 : decode cX11_undo 69 = .ok (.bipush 16, 2) := by decide +kernel
theorem dX11_undo_71 : decode cX11_undo 71 = .ok (.iaload, 1) := by decide +kernel
theorem dX11_undo_72 : decode cX11_undo 72 = .ok (.ireturn, 1) := by decide +kernel
theorem dX11_of_0 : decode cX11_of 0 = .ok (.aload_n 0, 1) := by decide +kernel
theorem dX11_of_1 : decode cX11_of 1 = .ok (.iload_n 1, 1) := by decide +kernel
theorem dX11_of_2 : decode cX11_of 2 = .ok (.invokevirtual 116, 3) := by decide +kernel
theorem dX11_of_5 : decode cX11_of 5 = .ok (.ifCond .eq 15, 3) := by decide +kernel
theorem dX11_of_8 : decode cX11_of 8 = .ok (.iload_n 2, 1) := by decide +kernel
theorem dX11_of_9 : decode cX11_of 9 = .ok (.i2l, 1) := by decide +kernel
theorem dX11_of_10 : decode cX11_of 10 = .ok (.lconst 0, 1) := by decide +kernel
theorem dX11_of_11 : decode cX11_of 11 = .ok (.ldc2_w 57, 3) := by decide +kernel
theorem dX11_of_14 : decode cX11_of 14 = .ok (.invokestatic 53, 3) := by decide +kernel
theorem dX11_of_17 : decode cX11_of 17 = .ok (.ifCond .ne 10, 3) := by decide +kernel
theorem dX11_of_20 : decode cX11_of 20 = .ok (.aload_n 0, 1) := by decide +kernel
theorem dX11_of_21 : decode cX11_of 21 = .ok (.bipush (-2), 2) := by decide +kernel
theorem dX11_of_23 : decode cX11_of 23 = .ok (.invokevirtual 63, 3) := by decide +kernel
theorem dX11_of_26 : decode cX11_of 26 = .ok (.ireturn, 1) := by decide +kernel
theorem dX11_of_27 : decode cX11_of 27 = .ok (.aload_n 0, 1) := by decide +kernel
theorem dX11_of_28 : decode cX11_of 28 = .ok (.getfield 7, 3) := by decide +kernel
theorem dX11_of_31 : decode cX11_of 31 = .ok (.iload_n 2, 1) := by decide +kernel
theorem dX11_of_32 : decode cX11_of 32 = .ok (.ifCond .ne 8, 3) := by decide +kernel
theorem dX11_of_35 : decode cX11_of 35 = .ok (.bipush 17, 2) := by decide +kernel
theorem dX11_of_37 : decode cX11_of 37 = .ok (.goto 14, 3) := by decide +kernel
theorem dX11_of_40 : decode cX11_of 40 = .ok (.iload_n 2, 1) := by decide +kernel
theorem dX11_of_41 : decode cX11_of 41 = .ok (.iconst 1, 1) := by decide +kernel
theorem dX11_of_42 : decode cX11_of 42 = .ok (.if_icmp .ne 7, 3) := by decide +kernel
theorem dX11_of_45 : decode cX11_of 45 = .ok (.iconst 4, 1) := by decide +kernel
theorem dX11_of_46 : decode cX11_of 46 = .ok (.goto 5, 3) := by decide +kernel
theorem dX11_of_49 : decode cX11_of 49 = .ok (.bipush 10, 2) := by decide +kernel
theorem dX11_of_51 : decode cX11_of 51 = .ok (.iload_n 1, 1) := by decide +kernel
theorem dX11_of_52 : decode cX11_of 52 = .ok (.iadd, 1) := by decide +kernel
theorem dX11_of_53 : decode cX11_of 53 = .ok (.iaload, 1) := by decide +kernel
theorem dX11_of_54 : decode cX11_of 54 = .ok (.ireturn, 1) := by decide +kernel
theorem dX11_today_0 : decode cX11_today 0 = .ok (.aload_n 0, 1) := by decide +kernel
theorem dX11_today_1 : decode cX11_today 1 = .ok (.iload_n 1, 1) := by decide +kernel
theorem dX11_today_2 : decode cX11_today 2 = .ok (.invokevirtual 116, 3) := by decide +kernel
theorem dX11_today_5 : decode cX11_today 5 = .ok (.ifCond .eq 17, 3) := by decide +kernel
theorem dX11_today_8 : decode cX11_today 8 = .ok (.iload_n 2, 1) := by decide +kernel
theorem dX11_today_9 : decode cX11_today 9 = .ok (.i2l, 1) := by decide +kernel
theorem dX11_today_10 : decode cX11_today 10 = .ok (.ldc2_w 122, 3) := by decide +kernel
theorem dX11_today_13 : decode cX11_today 13 = .ok (.ldc2_w 57, 3) := by decide +kernel
theorem dX11_today_16 : decode cX11_today 16 = .ok (.invokestatic 53, 3) := by decide +kernel
theorem dX11_today_19 : decode cX11_today 19 = .ok (.ifCond .ne 10, 3) := by decide +kernel
theorem dX11_today_22 : decode cX11_today 22 = .ok (.aload_n 0, 1) := by decide +kernel
theorem dX11_today_23 : decode cX11_today 23 = .ok (.bipush (-2), 2) := by decide +kernel
theorem dX11_today_25 : decode cX11_today 25 = .ok (.invokevirtual 63, 3) := by decide +kernel
theorem dX11_today_28 : decode cX11_today 28 = .ok (.ireturn, 1) := by decide +kernel
theorem dX11_today_29 : decode cX11_today 29 = .ok (.aload_n 0, 1) := by decide +kernel
theorem dX11_today_30 : decode cX11_today 30 = .ok (.getfield 7, 3) := by decide +kernel
theorem dX11_today_33 : decode cX11_today 33 = .ok (.iconst 4, 1) := by decide +kernel
theorem dX11_today_34 : decode cX11_today 34 = .ok (.iload_n 1, 1) := by decide +kernel
theorem dX11_today_35 : decode cX11_today 35 = .ok (.iadd, 1) := by decide +kernel
theorem dX11_today_36 : decode cX11_today 36 = .ok (.iaload, 1) := by decide +kernel
theorem dX11_today_37 : decode cX11_today 37 = .ok (.istore_n 3, 1) := by decide +kernel
theorem dX11_today_38 : decode cX11_today 38 = .ok (.iload_n 2, 1) := by decide +kernel
theorem dX11_today_39 : decode cX11_today 39 = .ok (.iconst (-1), 1) := by decide +kernel
theorem dX11_today_40 : decode cX11_today 40 = .ok (.if_icmp .ne 25, 3) := by decide +kernel
theorem dX11_today_43 : decode cX11_today 43 = .ok (.aload_n 0, 1) := by decide +kernel
theorem dX11_today_44 : decode cX11_today 44 = .ok (.iload_n 1, 1) := by decide +kernel
theorem dX11_today_45 : decode cX11_today 45 = .ok (.invokevirtual 124, 3) := by decide +kernel
theorem dX11_today_48 : decode cX11_today 48 = .ok (.iload_n 3, 1) := by decide +kernel
theorem dX11_today_49 : decode cX11_today 49 = .ok (.aload_n 0, 1) := by decide +kernel
theorem dX11_today_50 : decode cX11_today 50 = .ok (.getfield 7, 3) := by decide +kernel
theorem dX11_today_53 : decode cX11_today 53 = .ok (.bipush 16, 2) := by decide +kernel
theorem dX11_today_55 : decode cX11_today 55 = .ok (.iaload, 1) := by decide +kernel
theorem dX11_today_56 : decode cX11_today 56 = .ok (.invokestatic 91, 3) := by decide +kernel
theorem dX11_today_59 : decode cX11_today 59 = .ok (.invokestatic 94, 3) := by decide +kernel
theorem dX11_today_62 : decode cX11_today 62 = .ok (.goto 13, 3) := by decide +kernel
theorem dX11_today_65 : decode cX11_today 65 = .ok (.aload_n 0, 1) := by decide +kernel
theorem dX11_today_66 : decode cX11_today 66 = .ok (.iload_n 1, 1) := by decide +kernel
theorem dX11_today_67 : decode cX11_today 67 = .ok (.invokevirtual 124, 3) := by decide +kernel
theorem dX11_today_70 : decode cX11_today 70 = .ok (.iload_n 3, 1) := by decide +kernel
theorem dX11_today_71 : decode cX11_today 71 = .ok (.iload_n 2, 1) := by decide +kernel
theorem dX11_today_72 : decode cX11_today 72 = .ok (.invokestatic 98, 3) := by decide +kernel
theorem dX11_today_75 : decode cX11_today 75 = .ok (.ireturn, 1) := by decide +kernel
theorem dX11_then_0 : decode cX11_then 0 = .ok (.aload_n 0, 1) := by decide +kernel
theorem dX11_then_1 : decode cX11_then 1 = .ok (.iload_n 1, 1) := by decide +kernel
theorem dX11_then_2 : decode cX11_then 2 = .ok (.invokevirtual 116, 3) := by decide +kernel
theorem dX11_then_5 : decode cX11_then 5 = .ok (.ifCond .eq 33, 3) := by decide +kernel
theorem dX11_then_8 : decode cX11_then 8 = .ok (.iload_n 2, 1) := by decide +kernel
theorem dX11_then_9 : decode cX11_then 9 = .ok (.i2l, 1) := by decide +kernel
theorem dX11_then_10 : decode cX11_then 10 = .ok (.lconst 0, 1) := by decide +kernel
theorem dX11_then_11 : decode cX11_then 11 = .ok (.ldc2_w 61, 3) := by decide +kernel
theorem dX11_then_14 : decode cX11_then 14 = .ok (.invokestatic 53, 3) := by decide +kernel
theorem dX11_then_17 : decode cX11_then 17 = .ok (.ifCond .eq 21, 3) := by decide +kernel
theorem dX11_then_20 : decode cX11_then 20 = .ok (.iload_n 3, 1) := by decide +kernel
theorem dX11_then_21 : decode cX11_then 21 = .ok (.invokestatic 105, 3) := by decide +kernel
theorem dX11_then_24 : decode cX11_then 24 = .ok (.ifCond .eq 14, 3) := by decide +kernel
theorem dX11_then_27 : decode cX11_then 27 = .ok (.iload 4, 2) := by decide +kernel
theorem dX11_then_29 : decode cX11_then 29 = .ok (.i2l, 1) := by decide +kernel
theorem dX11_then_30 : decode cX11_then 30 = .ok (.lconst 0, 1) := by decide +kernel
theorem dX11_then_31 : decode cX11_then 31 = .ok (.lconst 1, 1) := by decide +kernel
theorem dX11_then_32 : decode cX11_then 32 = .ok (.invokestatic 53, 3) := by decide +kernel
theorem dX11_then_35 : decode cX11_then 35 = .ok (.ifCond .ne 10, 3) := by decide +kernel
theorem dX11_then_38 : decode cX11_then 38 = .ok (.aload_n 0, 1) := by decide +kernel
theorem dX11_then_39 : decode cX11_then 39 = .ok (.bipush (-2), 2) := by decide +kernel
theorem dX11_then_41 : decode cX11_then 41 = .ok (.invokevirtual 63, 3) := by decide +kernel
theorem dX11_then_44 : decode cX11_then 44 = .ok (.ireturn, 1) := by decide +kernel
theorem dX11_then_45 : decode cX11_then 45 = .ok (.aload_n 0, 1) := by decide +kernel
theorem dX11_then_46 : decode cX11_then 46 = .ok (.iload_n 1, 1) := by decide +kernel
theorem dX11_then_47 : decode cX11_then 47 = .ok (.invokevirtual 127, 3) := by decide +kernel
theorem dX11_then_50 : decode cX11_then 50 = .ok (.iconst 0, 1) := by decide +kernel
theorem dX11_then_51 : decode cX11_then 51 = .ok (.istore 5, 2) := by decide +kernel
theorem dX11_then_53 : decode cX11_then 53 = .ok (.iload 5, 2) := by decide +kernel
theorem dX11_then_55 : decode cX11_then 55 = .ok (.iload_n 2, 1) := by decide +kernel
theorem dX11_then_56 : decode cX11_then 56 = .ok (.if_icmp .ge 29, 3) := by decide +kernel
theorem dX11_then_59 : decode cX11_then 59 = .ok (.aload_n 0, 1) := by decide +kernel
theorem dX11_then_60 : decode cX11_then 60 = .ok (.aload_n 0, 1) := by decide +kernel
theorem dX11_then_61 : decode cX11_then 61 = .ok (.iload_n 1, 1) := by decide +kernel
theorem dX11_then_62 : decode cX11_then 62 = .ok (.invokevirtual 124, 3) := by decide +kernel
theorem dX11_then_65 : decode cX11_then 65 = .ok (.aload_n 0, 1) := by decide +kernel
theorem dX11_then_66 : decode cX11_then 66 = .ok (.getfield 7, 3) := by decide +kernel
theorem dX11_then_69 : decode cX11_then 69 = .ok (.bipush 16, 2) := by decide +kernel
theorem dX11_then_71 : decode cX11_then 71 = .ok (.iaload, 1) := by decide +kernel
theorem dX11_then_72 : decode cX11_then 72 = .ok (.iload 5, 2) := by decide +kernel
theorem dX11_then_74 : decode cX11_then 74 = .ok (.iadd, 1) := by decide +kernel
theorem dX11_then_75 : decode cX11_then 75 = .ok (.iload_n 3, 1) := by decide +kernel
theorem dX11_then_76 : decode cX11_then 76 = .ok (.invokevirtual 101, 3) := by decide +kernel
theorem dX11_then_79 : decode cX11_then 79 = .ok (.iinc 5 1, 3) := by decide +kernel
theorem dX11_then_82 : decode cX11_then 82 = .ok (.goto (-29), 3) := by decide +kernel
theorem dX11_then_85 : decode cX11_then 85 = .ok (.iload 4, 2) := by decide +kernel
theorem dX11_then_87 : decode cX11_then 87 = .ok (.ifCond .ne 10, 3) := by decide +kernel
theorem dX11_then_90 : decode cX11_then 90 = .ok (.aload_n 0, 1) := by decide +kernel
theorem dX11_then_91 : decode cX11_then 91 = .ok (.getfield 88, 3) := by decide +kernel
theorem dX11_then_94 : decode cX11_then 94 = .ok (.goto 17, 3) := by decide +kernel
theorem dX11_then_97 : decode cX11_then 97 = .ok (.aload_n 0, 1) := by decide +kernel
theorem dX11_then_98 : decode cX11_then 98 = .ok (.getfield 7, 3) := by decide +kernel
theorem dX11_then_101 : decode cX11_then 101 = .ok (.bipush 10, 2) := by decide +kernel
theorem dX11_then_103 : decode cX11_then 103 = .ok (.iload_n 1, 1) := by decide +kernel
theorem dX11_then_104 : decode cX11_then 104 = .ok (.iadd, 1) := by decide +kernel
theorem dX11_then_105 : decode cX11_then 105 = .ok (.iaload, 1) := by decide +kernel
theorem dX11_then_106 : decode cX11_then 106 = .ok (.aload_n 0, 1) := by decide +kernel
theorem dX11_then_107 : decode cX11_then 107 = .ok (.getfield 84, 3) := by decide +kernel
theorem dX11_then_110 : decode cX11_then 110 = .ok (.iadd, 1) := by decide +kernel
theorem dX11_then_111 : decode cX11_then 111 = .ok (.ireturn, 1) := by decide +kernel
theorem dX11_over_0 : decode cX11_over 0 = .ok (.aload_n 0, 1) := by decide +kernel
theorem dX11_over_1 : decode cX11_over 1 = .ok (.iload_n 1, 1) := by decide +kernel
theorem dX11_over_2 : decode cX11_over 2 = .ok (.invokevirtual 116, 3) := by decide +kernel
theorem dX11_over_5 : decode cX11_over 5 = .ok (.ifCond .ne 10, 3) := by decide +kernel
theorem dX11_over_8 : decode cX11_over 8 = .ok (.aload_n 0, 1) := by decide +kernel
theorem dX11_over_9 : decode cX11_over 9 = .ok (.bipush (-2), 2) := by decide +kernel
theorem dX11_over_11 : decode cX11_over 11 = .ok (.invokevirtual 63, 3) := by decide +kernel
theorem dX11_over_14 : decode cX11_over 14 = .ok (.ireturn, 1) := by decide +kernel
theorem dX11_over_15 : decode cX11_over 15 = .ok (.aload_n 0, 1) := by decide +kernel
theorem dX11_over_16 : decode cX11_over 16 = .ok (.iload_n 1, 1) := by decide +kernel
theorem dX11_over_17 : decode cX11_over 17 = .ok (.invokevirtual 127, 3) := by decide +kernel
theorem dX11_over_20 : decode cX11_over 20 = .ok (.iconst 0, 1) := by decide +kernel
theorem dX11_over_21 : decode cX11_over 21 = .ok (.istore_n 2, 1) := by decide +kernel
theorem dX11_over_22 : decode cX11_over 22 = .ok (.iload_n 2, 1) := by decide +kernel
theorem dX11_over_23 : decode cX11_over 23 = .ok (.bipush 100, 2) := by decide +kernel
theorem dX11_over_25 : decode cX11_over 25 = .ok (.if_icmp .ge 37, 3) := by decide +kernel
theorem dX11_over_28 : decode cX11_over 28 = .ok (.aload_n 0, 1) := by decide +kernel
theorem dX11_over_29 : decode cX11_over 29 = .ok (.getfield 88, 3) := by decide +kernel
theorem dX11_over_32 : decode cX11_over 32 = .ok (.ifCond .ne 5, 3) := by decide +kernel
theorem dX11_over_35 : decode cX11_over 35 = .ok (.iload_n 2, 1) := by decide +kernel
theorem dX11_over_36 : decode cX11_over 36 = .ok (.ireturn, 1) := by decide +kernel
theorem dX11_over_37 : decode cX11_over 37 = .ok (.aload_n 0, 1) := by decide +kernel
theorem dX11_over_38 : decode cX11_over 38 = .ok (.aload_n 0, 1) := by decide +kernel
theorem dX11_over_39 : decode cX11_over 39 = .ok (.iload_n 1, 1) := by decide +kernel
theorem dX11_over_40 : decode cX11_over 40 = .ok (.invokevirtual 124, 3) := by decide +kernel
theorem dX11_over_43 : decode cX11_over 43 = .ok (.aload_n 0, 1) := by decide +kernel
theorem dX11_over_44 : decode cX11_over 44 = .ok (.getfield 7, 3) := by decide +kernel
theorem dX11_over_47 : decode cX11_over 47 = .ok (.bipush 16, 2) := by decide +kernel
theorem dX11_over_49 : decode cX11_over 49 = .ok (.iaload, 1) := by decide +kernel
theorem dX11_over_50 : decode cX11_over 50 = .ok (.iload_n 2, 1) := by decide +kernel
theorem dX11_over_51 : decode cX11_over 51 = .ok (.iadd, 1) := by decide +kernel
theorem dX11_over_52 : decode cX11_over 52 = .ok (.iconst 0, 1) := by decide +kernel
theorem dX11_over_53 : decode cX11_over 53 = .ok (.invokevirtual 101, 3) := by decide +kernel
theorem dX11_over_56 : decode cX11_over 56 = .ok (.iinc 2 1, 3) := by decide +kernel
theorem dX11_over_59 : decode cX11_over 59 = .ok (.goto (-37), 3) := by decide +kernel
theorem dX11_over_62 : decode cX11_over 62 = .ok (.iconst (-1), 1) := by decide +kernel
theorem dX11_over_63 : decode cX11_over 63 = .ok (.ireturn, 1) := by decide +kernel
theorem dX11_powerOfThree_0 : decode cX11_powerOfThree 0 = .ok (.iconst 1, 1) := by decide +kernel
theorem dX11_powerOfThree_1 : decode cX11_powerOfThree 1 = .ok (.istore_n 1, 1) := by decide +kernel
theorem dX11_powerOfThree_2 : decode cX11_powerOfThree 2 = .ok (.iconst 0, 1) := by decide +kernel
theorem dX11_powerOfThree_3 : decode cX11_powerOfThree 3 = .ok (.istore_n 2, 1) := by decide +kernel
theorem dX11_powerOfThree_4 : decode cX11_powerOfThree 4 = .ok (.iload_n 2, 1) := by decide +kernel
theorem dX11_powerOfThree_5 : decode cX11_powerOfThree 5 = .ok (.iload_n 0, 1) := by decide +kernel
theorem dX11_powerOfThree_6 : decode cX11_powerOfThree 6 = .ok (.if_icmp .ge 13, 3) := by decide +kernel
theorem dX11_powerOfThree_9 : decode cX11_powerOfThree 9 = .ok (.iload_n 1, 1) := by decide +kernel
theorem dX11_powerOfThree_10 : decode cX11_powerOfThree 10 = .ok (.iconst 3, 1) := by decide +kernel
theorem dX11_powerOfThree_11 : decode cX11_powerOfThree 11 = .ok (.imul, 1) := by decide +kernel
theorem dX11_powerOfThree_12 : decode cX11_powerOfThree 12 = .ok (.istore_n 1, 1) := by decide +kernel
theorem dX11_powerOfThree_13 : decode cX11_powerOfThree 13 = .ok (.iinc 2 1, 3) := by decide +kernel
theorem dX11_powerOfThree_16 : decode cX11_powerOfThree 16 = .ok (.goto (-12), 3) := by decide +kernel
theorem dX11_powerOfThree_19 : decode cX11_powerOfThree 19 = .ok (.iload_n 1, 1) := by decide +kernel
theorem dX11_powerOfThree_20 : decode cX11_powerOfThree 20 = .ok (.ireturn, 1) := by decide +kernel
theorem dX11_milesBy_0 : decode cX11_milesBy 0 = .ok (.aload_n 0, 1) := by decide +kernel
theorem dX11_milesBy_1 : decode cX11_milesBy 1 = .ok (.iload_n 1, 1) := by decide +kernel
theorem dX11_milesBy_2 : decode cX11_milesBy 2 = .ok (.invokevirtual 127, 3) := by decide +kernel
theorem dX11_milesBy_5 : decode cX11_milesBy 5 = .ok (.iconst 0, 1) := by decide +kernel
theorem dX11_milesBy_6 : decode cX11_milesBy 6 = .ok (.istore 6, 2) := by decide +kernel
theorem dX11_milesBy_8 : decode cX11_milesBy 8 = .ok (.iconst 0, 1) := by decide +kernel
theorem dX11_milesBy_9 : decode cX11_milesBy 9 = .ok (.istore 7, 2) := by decide +kernel
theorem dX11_milesBy_11 : decode cX11_milesBy 11 = .ok (.iload 7, 2) := by decide +kernel
theorem dX11_milesBy_13 : decode cX11_milesBy 13 = .ok (.iload 5, 2) := by decide +kernel
theorem dX11_milesBy_15 : decode cX11_milesBy 15 = .ok (.if_icmp .ge 59, 3) := by decide +kernel
theorem dX11_milesBy_18 : decode cX11_milesBy 18 = .ok (.iload 7, 2) := by decide +kernel
theorem dX11_milesBy_20 : decode cX11_milesBy 20 = .ok (.iload 4, 2) := by decide +kernel
theorem dX11_milesBy_22 : decode cX11_milesBy 22 = .ok (.if_icmp .ne 10, 3) := by decide +kernel
theorem dX11_milesBy_25 : decode cX11_milesBy 25 = .ok (.aload_n 0, 1) := by decide +kernel
theorem dX11_milesBy_26 : decode cX11_milesBy 26 = .ok (.getfield 84, 3) := by decide +kernel
theorem dX11_milesBy_29 : decode cX11_milesBy 29 = .ok (.goto 5, 3) := by decide +kernel
theorem dX11_milesBy_32 : decode cX11_milesBy 32 = .ok (.iload 6, 2) := by decide +kernel
theorem dX11_milesBy_34 : decode cX11_milesBy 34 = .ok (.istore 6, 2) := by decide +kernel
theorem dX11_milesBy_36 : decode cX11_milesBy 36 = .ok (.aload_n 0, 1) := by decide +kernel
theorem dX11_milesBy_37 : decode cX11_milesBy 37 = .ok (.aload_n 0, 1) := by decide +kernel
theorem dX11_milesBy_38 : decode cX11_milesBy 38 = .ok (.iload_n 1, 1) := by decide +kernel
theorem dX11_milesBy_39 : decode cX11_milesBy 39 = .ok (.invokevirtual 124, 3) := by decide +kernel
theorem dX11_milesBy_42 : decode cX11_milesBy 42 = .ok (.aload_n 0, 1) := by decide +kernel
theorem dX11_milesBy_43 : decode cX11_milesBy 43 = .ok (.getfield 7, 3) := by decide +kernel
theorem dX11_milesBy_46 : decode cX11_milesBy 46 = .ok (.bipush 16, 2) := by decide +kernel
theorem dX11_milesBy_48 : decode cX11_milesBy 48 = .ok (.iaload, 1) := by decide +kernel
theorem dX11_milesBy_49 : decode cX11_milesBy 49 = .ok (.iload 7, 2) := by decide +kernel
theorem dX11_milesBy_51 : decode cX11_milesBy 51 = .ok (.iadd, 1) := by decide +kernel
theorem dX11_milesBy_52 : decode cX11_milesBy 52 = .ok (.iload_n 3, 1) := by decide +kernel
theorem dX11_milesBy_53 : decode cX11_milesBy 53 = .ok (.iload_n 2, 1) := by decide +kernel
theorem dX11_milesBy_54 : decode cX11_milesBy 54 = .ok (.iconst 1, 1) := by decide +kernel
theorem dX11_milesBy_55 : decode cX11_milesBy 55 = .ok (.isub, 1) := by decide +kernel
theorem dX11_milesBy_56 : decode cX11_milesBy 56 = .ok (.iload 7, 2) := by decide +kernel
theorem dX11_milesBy_58 : decode cX11_milesBy 58 = .ok (.isub, 1) := by decide +kernel
theorem dX11_milesBy_59 : decode cX11_milesBy 59 = .ok (.invokestatic 131, 3) := by decide +kernel
theorem dX11_milesBy_62 : decode cX11_milesBy 62 = .ok (.idiv, 1) := by decide +kernel
theorem dX11_milesBy_63 : decode cX11_milesBy 63 = .ok (.iconst 3, 1) := by decide +kernel
theorem dX11_milesBy_64 : decode cX11_milesBy 64 = .ok (.irem, 1) := by decide +kernel
theorem dX11_milesBy_65 : decode cX11_milesBy 65 = .ok (.invokevirtual 101, 3) := by decide +kernel
theorem dX11_milesBy_68 : decode cX11_milesBy 68 = .ok (.iinc 7 1, 3) := by decide +kernel
theorem dX11_milesBy_71 : decode cX11_milesBy 71 = .ok (.goto (-60), 3) := by decide +kernel
theorem dX11_milesBy_74 : decode cX11_milesBy 74 = .ok (.aload_n 0, 1) := by decide +kernel
theorem dX11_milesBy_75 : decode cX11_milesBy 75 = .ok (.getfield 84, 3) := by decide +kernel
theorem dX11_milesBy_78 : decode cX11_milesBy 78 = .ok (.iload 6, 2) := by decide +kernel
theorem dX11_milesBy_80 : decode cX11_milesBy 80 = .ok (.isub, 1) := by decide +kernel
theorem dX11_milesBy_81 : decode cX11_milesBy 81 = .ok (.ireturn, 1) := by decide +kernel
theorem dX11_mostIn_0 : decode cX11_mostIn 0 = .ok (.iconst (-1), 1) := by decide +kernel
theorem dX11_mostIn_1 : decode cX11_mostIn 1 = .ok (.istore_n 3, 1) := by decide +kernel
theorem dX11_mostIn_2 : decode cX11_mostIn 2 = .ok (.iconst 0, 1) := by decide +kernel
theorem dX11_mostIn_3 : decode cX11_mostIn 3 = .ok (.istore 4, 2) := by decide +kernel
theorem dX11_mostIn_5 : decode cX11_mostIn 5 = .ok (.iload 4, 2) := by decide +kernel
theorem dX11_mostIn_7 : decode cX11_mostIn 7 = .ok (.iload_n 2, 1) := by decide +kernel
theorem dX11_mostIn_8 : decode cX11_mostIn 8 = .ok (.invokestatic 131, 3) := by decide +kernel
theorem dX11_mostIn_11 : decode cX11_mostIn 11 = .ok (.if_icmp .ge 53, 3) := by decide +kernel
theorem dX11_mostIn_14 : decode cX11_mostIn 14 = .ok (.aload_n 0, 1) := by decide +kernel
theorem dX11_mostIn_15 : decode cX11_mostIn 15 = .ok (.iload_n 1, 1) := by decide +kernel
theorem dX11_mostIn_16 : decode cX11_mostIn 16 = .ok (.iload_n 2, 1) := by decide +kernel
theorem dX11_mostIn_17 : decode cX11_mostIn 17 = .ok (.iload 4, 2) := by decide +kernel
theorem dX11_mostIn_19 : decode cX11_mostIn 19 = .ok (.iconst 0, 1) := by decide +kernel
theorem dX11_mostIn_20 : decode cX11_mostIn 20 = .ok (.iload_n 2, 1) := by decide +kernel
theorem dX11_mostIn_21 : decode cX11_mostIn 21 = .ok (.invokevirtual 134, 3) := by decide +kernel
theorem dX11_mostIn_24 : decode cX11_mostIn 24 = .ok (.istore 5, 2) := by decide +kernel
theorem dX11_mostIn_26 : decode cX11_mostIn 26 = .ok (.aload_n 0, 1) := by decide +kernel
theorem dX11_mostIn_27 : decode cX11_mostIn 27 = .ok (.iload 5, 2) := by decide +kernel
theorem dX11_mostIn_29 : decode cX11_mostIn 29 = .ok (.iload_n 3, 1) := by decide +kernel
theorem dX11_mostIn_30 : decode cX11_mostIn 30 = .ok (.if_icmp .le 8, 3) := by decide +kernel
theorem dX11_mostIn_33 : decode cX11_mostIn 33 = .ok (.iload 4, 2) := by decide +kernel
theorem dX11_mostIn_35 : decode cX11_mostIn 35 = .ok (.goto 7, 3) := by decide +kernel
theorem dX11_mostIn_38 : decode cX11_mostIn 38 = .ok (.aload_n 0, 1) := by decide +kernel
theorem dX11_mostIn_39 : decode cX11_mostIn 39 = .ok (.getfield 138, 3) := by decide +kernel
theorem dX11_mostIn_42 : decode cX11_mostIn 42 = .ok (.putfield 138, 3) := by decide +kernel
theorem dX11_mostIn_45 : decode cX11_mostIn 45 = .ok (.iload 5, 2) := by decide +kernel
theorem dX11_mostIn_47 : decode cX11_mostIn 47 = .ok (.iload_n 3, 1) := by decide +kernel
theorem dX11_mostIn_48 : decode cX11_mostIn 48 = .ok (.if_icmp .le 8, 3) := by decide +kernel
theorem dX11_mostIn_51 : decode cX11_mostIn 51 = .ok (.iload 5, 2) := by decide +kernel
theorem dX11_mostIn_53 : decode cX11_mostIn 53 = .ok (.goto 4, 3) := by decide +kernel
theorem dX11_mostIn_56 : decode cX11_mostIn 56 = .ok (.iload_n 3, 1) := by decide +kernel
theorem dX11_mostIn_57 : decode cX11_mostIn 57 = .ok (.istore_n 3, 1) := by decide +kernel
theorem dX11_mostIn_58 : decode cX11_mostIn 58 = .ok (.iinc 4 1, 3) := by decide +kernel
theorem dX11_mostIn_61 : decode cX11_mostIn 61 = .ok (.goto (-56), 3) := by decide +kernel
theorem dX11_mostIn_64 : decode cX11_mostIn 64 = .ok (.iload_n 3, 1) := by decide +kernel
theorem dX11_mostIn_65 : decode cX11_mostIn 65 = .ok (.ireturn, 1) := by decide +kernel
theorem dX11_most_0 : decode cX11_most 0 = .ok (.aload_n 0, 1) := by decide +kernel
theorem dX11_most_1 : decode cX11_most 1 = .ok (.iload_n 1, 1) := by decide +kernel
theorem dX11_most_2 : decode cX11_most 2 = .ok (.invokevirtual 116, 3) := by decide +kernel
theorem dX11_most_5 : decode cX11_most 5 = .ok (.ifCond .eq 20, 3) := by decide +kernel
theorem dX11_most_8 : decode cX11_most 8 = .ok (.iload_n 2, 1) := by decide +kernel
theorem dX11_most_9 : decode cX11_most 9 = .ok (.i2l, 1) := by decide +kernel
theorem dX11_most_10 : decode cX11_most 10 = .ok (.lconst 1, 1) := by decide +kernel
theorem dX11_most_11 : decode cX11_most 11 = .ok (.ldc2_w 141, 3) := by decide +kernel
theorem dX11_most_14 : decode cX11_most 14 = .ok (.invokestatic 53, 3) := by decide +kernel
theorem dX11_most_17 : decode cX11_most 17 = .ok (.ifCond .eq 8, 3) := by decide +kernel
theorem dX11_most_20 : decode cX11_most 20 = .ok (.iload_n 3, 1) := by decide +kernel
theorem dX11_most_21 : decode cX11_most 21 = .ok (.iconst (-1), 1) := by decide +kernel
theorem dX11_most_22 : decode cX11_most 22 = .ok (.if_icmp .ge 10, 3) := by decide +kernel
theorem dX11_most_25 : decode cX11_most 25 = .ok (.aload_n 0, 1) := by decide +kernel
theorem dX11_most_26 : decode cX11_most 26 = .ok (.bipush (-10), 2) := by decide +kernel
theorem dX11_most_28 : decode cX11_most 28 = .ok (.invokevirtual 63, 3) := by decide +kernel
theorem dX11_most_31 : decode cX11_most 31 = .ok (.ireturn, 1) := by decide +kernel
theorem dX11_most_32 : decode cX11_most 32 = .ok (.aload_n 0, 1) := by decide +kernel
theorem dX11_most_33 : decode cX11_most 33 = .ok (.iload_n 1, 1) := by decide +kernel
theorem dX11_most_34 : decode cX11_most 34 = .ok (.iload_n 2, 1) := by decide +kernel
theorem dX11_most_35 : decode cX11_most 35 = .ok (.invokevirtual 143, 3) := by decide +kernel
theorem dX11_most_38 : decode cX11_most 38 = .ok (.istore 4, 2) := by decide +kernel
theorem dX11_most_40 : decode cX11_most 40 = .ok (.iload_n 3, 1) := by decide +kernel
theorem dX11_most_41 : decode cX11_most 41 = .ok (.iconst (-1), 1) := by decide +kernel
theorem dX11_most_42 : decode cX11_most 42 = .ok (.if_icmp .ne 8, 3) := by decide +kernel
theorem dX11_most_45 : decode cX11_most 45 = .ok (.iload 4, 2) := by decide +kernel
theorem dX11_most_47 : decode cX11_most 47 = .ok (.goto 28, 3) := by decide +kernel
theorem dX11_most_50 : decode cX11_most 50 = .ok (.iload_n 3, 1) := by decide +kernel
theorem dX11_most_51 : decode cX11_most 51 = .ok (.iload_n 2, 1) := by decide +kernel
theorem dX11_most_52 : decode cX11_most 52 = .ok (.if_icmp .lt 8, 3) := by decide +kernel
theorem dX11_most_55 : decode cX11_most 55 = .ok (.bipush (-5), 2) := by decide +kernel
theorem dX11_most_57 : decode cX11_most 57 = .ok (.goto 18, 3) := by decide +kernel
theorem dX11_most_60 : decode cX11_most 60 = .ok (.aload_n 0, 1) := by decide +kernel
theorem dX11_most_61 : decode cX11_most 61 = .ok (.getfield 138, 3) := by decide +kernel
theorem dX11_most_64 : decode cX11_most 64 = .ok (.iload_n 2, 1) := by decide +kernel
theorem dX11_most_65 : decode cX11_most 65 = .ok (.iconst 1, 1) := by decide +kernel
theorem dX11_most_66 : decode cX11_most 66 = .ok (.isub, 1) := by decide +kernel
theorem dX11_most_67 : decode cX11_most 67 = .ok (.iload_n 3, 1) := by decide +kernel
theorem dX11_most_68 : decode cX11_most 68 = .ok (.isub, 1) := by decide +kernel
theorem dX11_most_69 : decode cX11_most 69 = .ok (.invokestatic 131, 3) := by decide +kernel
theorem dX11_most_72 : decode cX11_most 72 = .ok (.idiv, 1) := by decide +kernel
theorem dX11_most_73 : decode cX11_most 73 = .ok (.iconst 3, 1) := by decide +kernel
theorem dX11_most_74 : decode cX11_most 74 = .ok (.irem, 1) := by decide +kernel
theorem dX11_most_75 : decode cX11_most 75 = .ok (.ireturn, 1) := by decide +kernel
theorem dX11_soonest_0 : decode cX11_soonest 0 = .ok (.aload_n 0, 1) := by decide +kernel
theorem dX11_soonest_1 : decode cX11_soonest 1 = .ok (.iload_n 1, 1) := by decide +kernel
theorem dX11_soonest_2 : decode cX11_soonest 2 = .ok (.invokevirtual 116, 3) := by decide +kernel
theorem dX11_soonest_5 : decode cX11_soonest 5 = .ok (.ifCond .eq 15, 3) := by decide +kernel
theorem dX11_soonest_8 : decode cX11_soonest 8 = .ok (.iload_n 2, 1) := by decide +kernel
theorem dX11_soonest_9 : decode cX11_soonest 9 = .ok (.i2l, 1) := by decide +kernel
theorem dX11_soonest_10 : decode cX11_soonest 10 = .ok (.lconst 1, 1) := by decide +kernel
theorem dX11_soonest_11 : decode cX11_soonest 11 = .ok (.ldc2_w 146, 3) := by decide +kernel
theorem dX11_soonest_14 : decode cX11_soonest 14 = .ok (.invokestatic 53, 3) := by decide +kernel
theorem dX11_soonest_17 : decode cX11_soonest 17 = .ok (.ifCond .ne 10, 3) := by decide +kernel
theorem dX11_soonest_20 : decode cX11_soonest 20 = .ok (.aload_n 0, 1) := by decide +kernel
theorem dX11_soonest_21 : decode cX11_soonest 21 = .ok (.bipush (-2), 2) := by decide +kernel
theorem dX11_soonest_23 : decode cX11_soonest 23 = .ok (.invokevirtual 63, 3) := by decide +kernel
theorem dX11_soonest_26 : decode cX11_soonest 26 = .ok (.ireturn, 1) := by decide +kernel
theorem dX11_soonest_27 : decode cX11_soonest 27 = .ok (.iconst 1, 1) := by decide +kernel
theorem dX11_soonest_28 : decode cX11_soonest 28 = .ok (.istore_n 3, 1) := by decide +kernel
theorem dX11_soonest_29 : decode cX11_soonest 29 = .ok (.iload_n 3, 1) := by decide +kernel
theorem dX11_soonest_30 : decode cX11_soonest 30 = .ok (.bipush 8, 2) := by decide +kernel
theorem dX11_soonest_32 : decode cX11_soonest 32 = .ok (.if_icmp .ge 21, 3) := by decide +kernel
theorem dX11_soonest_35 : decode cX11_soonest 35 = .ok (.aload_n 0, 1) := by decide +kernel
theorem dX11_soonest_36 : decode cX11_soonest 36 = .ok (.iload_n 1, 1) := by decide +kernel
theorem dX11_soonest_37 : decode cX11_soonest 37 = .ok (.iload_n 3, 1) := by decide +kernel
theorem dX11_soonest_38 : decode cX11_soonest 38 = .ok (.invokevirtual 143, 3) := by decide +kernel
theorem dX11_soonest_41 : decode cX11_soonest 41 = .ok (.iload_n 2, 1) := by decide +kernel
theorem dX11_soonest_42 : decode cX11_soonest 42 = .ok (.if_icmp .lt 5, 3) := by decide +kernel
theorem dX11_soonest_45 : decode cX11_soonest 45 = .ok (.iload_n 3, 1) := by decide +kernel
theorem dX11_soonest_46 : decode cX11_soonest 46 = .ok (.ireturn, 1) := by decide +kernel
theorem dX11_soonest_47 : decode cX11_soonest 47 = .ok (.iinc 3 1, 3) := by decide +kernel
theorem dX11_soonest_50 : decode cX11_soonest 50 = .ok (.goto (-21), 3) := by decide +kernel
theorem dX11_soonest_53 : decode cX11_soonest 53 = .ok (.iconst (-1), 1) := by decide +kernel
theorem dX11_soonest_54 : decode cX11_soonest 54 = .ok (.ireturn, 1) := by decide +kernel
theorem dX11_home_0 : decode cX11_home 0 = .ok (.aload_n 0, 1) := by decide +kernel
theorem dX11_home_1 : decode cX11_home 1 = .ok (.iload_n 1, 1) := by decide +kernel
theorem dX11_home_2 : decode cX11_home 2 = .ok (.invokevirtual 116, 3) := by decide +kernel
theorem dX11_home_5 : decode cX11_home 5 = .ok (.ifCond .eq 27, 3) := by decide +kernel
theorem dX11_home_8 : decode cX11_home 8 = .ok (.iload_n 2, 1) := by decide +kernel
theorem dX11_home_9 : decode cX11_home 9 = .ok (.i2l, 1) := by decide +kernel
theorem dX11_home_10 : decode cX11_home 10 = .ok (.ldc2_w 57, 3) := by decide +kernel
theorem dX11_home_13 : decode cX11_home 13 = .ok (.ldc2_w 141, 3) := by decide +kernel
theorem dX11_home_16 : decode cX11_home 16 = .ok (.invokestatic 53, 3) := by decide +kernel
theorem dX11_home_19 : decode cX11_home 19 = .ok (.ifCond .eq 13, 3) := by decide +kernel
theorem dX11_home_22 : decode cX11_home 22 = .ok (.iload_n 3, 1) := by decide +kernel
theorem dX11_home_23 : decode cX11_home 23 = .ok (.i2l, 1) := by decide +kernel
theorem dX11_home_24 : decode cX11_home 24 = .ok (.lconst 0, 1) := by decide +kernel
theorem dX11_home_25 : decode cX11_home 25 = .ok (.lconst 1, 1) := by decide +kernel
theorem dX11_home_26 : decode cX11_home 26 = .ok (.invokestatic 53, 3) := by decide +kernel
theorem dX11_home_29 : decode cX11_home 29 = .ok (.ifCond .ne 10, 3) := by decide +kernel
theorem dX11_home_32 : decode cX11_home 32 = .ok (.aload_n 0, 1) := by decide +kernel
theorem dX11_home_33 : decode cX11_home 33 = .ok (.bipush (-2), 2) := by decide +kernel
theorem dX11_home_35 : decode cX11_home 35 = .ok (.invokevirtual 63, 3) := by decide +kernel
theorem dX11_home_38 : decode cX11_home 38 = .ok (.ireturn, 1) := by decide +kernel
theorem dX11_home_39 : decode cX11_home 39 = .ok (.iconst (-1), 1) := by decide +kernel
theorem dX11_home_40 : decode cX11_home 40 = .ok (.istore 4, 2) := by decide +kernel
theorem dX11_home_42 : decode cX11_home 42 = .ok (.iconst (-1), 1) := by decide +kernel
theorem dX11_home_43 : decode cX11_home 43 = .ok (.istore 5, 2) := by decide +kernel
theorem dX11_home_45 : decode cX11_home 45 = .ok (.iconst 1, 1) := by decide +kernel
theorem dX11_home_46 : decode cX11_home 46 = .ok (.istore 6, 2) := by decide +kernel
theorem dX11_home_48 : decode cX11_home 48 = .ok (.iload 6, 2) := by decide +kernel
theorem dX11_home_50 : decode cX11_home 50 = .ok (.iload_n 2, 1) := by decide +kernel
theorem dX11_home_51 : decode cX11_home 51 = .ok (.if_icmp .ge 101, 3) := by decide +kernel
theorem dX11_home_54 : decode cX11_home 54 = .ok (.iconst 0, 1) := by decide +kernel
theorem dX11_home_55 : decode cX11_home 55 = .ok (.istore 7, 2) := by decide +kernel
theorem dX11_home_57 : decode cX11_home 57 = .ok (.iload 7, 2) := by decide +kernel
theorem dX11_home_59 : decode cX11_home 59 = .ok (.iload_n 2, 1) := by decide +kernel
theorem dX11_home_60 : decode cX11_home 60 = .ok (.invokestatic 131, 3) := by decide +kernel
theorem dX11_home_63 : decode cX11_home 63 = .ok (.if_icmp .ge 83, 3) := by decide +kernel
theorem dX11_home_66 : decode cX11_home 66 = .ok (.aload_n 0, 1) := by decide +kernel
theorem dX11_home_67 : decode cX11_home 67 = .ok (.iload_n 1, 1) := by decide +kernel
theorem dX11_home_68 : decode cX11_home 68 = .ok (.iload_n 2, 1) := by decide +kernel
theorem dX11_home_69 : decode cX11_home 69 = .ok (.iload 7, 2) := by decide +kernel
theorem dX11_home_71 : decode cX11_home 71 = .ok (.iconst 0, 1) := by decide +kernel
theorem dX11_home_72 : decode cX11_home 72 = .ok (.iload 6, 2) := by decide +kernel
theorem dX11_home_74 : decode cX11_home 74 = .ok (.invokevirtual 134, 3) := by decide +kernel
theorem dX11_home_77 : decode cX11_home 77 = .ok (.istore 8, 2) := by decide +kernel
theorem dX11_home_79 : decode cX11_home 79 = .ok (.aload_n 0, 1) := by decide +kernel
theorem dX11_home_80 : decode cX11_home 80 = .ok (.iload_n 1, 1) := by decide +kernel
theorem dX11_home_81 : decode cX11_home 81 = .ok (.iload_n 2, 1) := by decide +kernel
theorem dX11_home_82 : decode cX11_home 82 = .ok (.iload 7, 2) := by decide +kernel
theorem dX11_home_84 : decode cX11_home 84 = .ok (.iload 6, 2) := by decide +kernel
theorem dX11_home_86 : decode cX11_home 86 = .ok (.iload_n 2, 1) := by decide +kernel
theorem dX11_home_87 : decode cX11_home 87 = .ok (.invokevirtual 134, 3) := by decide +kernel
theorem dX11_home_90 : decode cX11_home 90 = .ok (.istore 9, 2) := by decide +kernel
theorem dX11_home_92 : decode cX11_home 92 = .ok (.iload 8, 2) := by decide +kernel
theorem dX11_home_94 : decode cX11_home 94 = .ok (.iload 9, 2) := by decide +kernel
theorem dX11_home_96 : decode cX11_home 96 = .ok (.if_icmp .ge 8, 3) := by decide +kernel
theorem dX11_home_99 : decode cX11_home 99 = .ok (.iload 8, 2) := by decide +kernel
theorem dX11_home_101 : decode cX11_home 101 = .ok (.goto 5, 3) := by decide +kernel
theorem dX11_home_104 : decode cX11_home 104 = .ok (.iload 9, 2) := by decide +kernel
theorem dX11_home_106 : decode cX11_home 106 = .ok (.istore 10, 2) := by decide +kernel
theorem dX11_home_108 : decode cX11_home 108 = .ok (.iload 10, 2) := by decide +kernel
theorem dX11_home_110 : decode cX11_home 110 = .ok (.iload 4, 2) := by decide +kernel
theorem dX11_home_112 : decode cX11_home 112 = .ok (.if_icmp .le 8, 3) := by decide +kernel
theorem dX11_home_115 : decode cX11_home 115 = .ok (.iload 6, 2) := by decide +kernel
theorem dX11_home_117 : decode cX11_home 117 = .ok (.goto 5, 3) := by decide +kernel
theorem dX11_home_120 : decode cX11_home 120 = .ok (.iload 5, 2) := by decide +kernel
theorem dX11_home_122 : decode cX11_home 122 = .ok (.istore 5, 2) := by decide +kernel
theorem dX11_home_124 : decode cX11_home 124 = .ok (.iload 10, 2) := by decide +kernel
theorem dX11_home_126 : decode cX11_home 126 = .ok (.iload 4, 2) := by decide +kernel
theorem dX11_home_128 : decode cX11_home 128 = .ok (.if_icmp .le 8, 3) := by decide +kernel
theorem dX11_home_131 : decode cX11_home 131 = .ok (.iload 10, 2) := by decide +kernel
theorem dX11_home_133 : decode cX11_home 133 = .ok (.goto 5, 3) := by decide +kernel
theorem dX11_home_136 : decode cX11_home 136 = .ok (.iload 4, 2) := by decide +kernel
theorem dX11_home_138 : decode cX11_home 138 = .ok (.istore 4, 2) := by decide +kernel
theorem dX11_home_140 : decode cX11_home 140 = .ok (.iinc 7 1, 3) := by decide +kernel
theorem dX11_home_143 : decode cX11_home 143 = .ok (.goto (-86), 3) := by decide +kernel
theorem dX11_home_146 : decode cX11_home 146 = .ok (.iinc 6 1, 3) := by decide +kernel
theorem dX11_home_149 : decode cX11_home 149 = .ok (.goto (-101), 3) := by decide +kernel
theorem dX11_home_152 : decode cX11_home 152 = .ok (.iload_n 3, 1) := by decide +kernel
theorem dX11_home_153 : decode cX11_home 153 = .ok (.ifCond .ne 8, 3) := by decide +kernel
theorem dX11_home_156 : decode cX11_home 156 = .ok (.iload 4, 2) := by decide +kernel
theorem dX11_home_158 : decode cX11_home 158 = .ok (.goto 5, 3) := by decide +kernel
theorem dX11_home_161 : decode cX11_home 161 = .ok (.iload 5, 2) := by decide +kernel
theorem dX11_home_163 : decode cX11_home 163 = .ok (.ireturn, 1) := by decide +kernel
theorem dX11_worthOf_0 : decode cX11_worthOf 0 = .ok (.aload_n 0, 1) := by decide +kernel
theorem dX11_worthOf_1 : decode cX11_worthOf 1 = .ok (.getfield 7, 3) := by decide +kernel
theorem dX11_worthOf_4 : decode cX11_worthOf 4 = .ok (.iconst 4, 1) := by decide +kernel
theorem dX11_worthOf_5 : decode cX11_worthOf 5 = .ok (.iload_n 1, 1) := by decide +kernel
theorem dX11_worthOf_6 : decode cX11_worthOf 6 = .ok (.iadd, 1) := by decide +kernel
theorem dX11_worthOf_7 : decode cX11_worthOf 7 = .ok (.iaload, 1) := by decide +kernel
theorem dX11_worthOf_8 : decode cX11_worthOf 8 = .ok (.aload_n 0, 1) := by decide +kernel
theorem dX11_worthOf_9 : decode cX11_worthOf 9 = .ok (.getfield 7, 3) := by decide +kernel
theorem dX11_worthOf_12 : decode cX11_worthOf 12 = .ok (.iconst 4, 1) := by decide +kernel
theorem dX11_worthOf_13 : decode cX11_worthOf 13 = .ok (.iload_n 2, 1) := by decide +kernel
theorem dX11_worthOf_14 : decode cX11_worthOf 14 = .ok (.iadd, 1) := by decide +kernel
theorem dX11_worthOf_15 : decode cX11_worthOf 15 = .ok (.iaload, 1) := by decide +kernel
theorem dX11_worthOf_16 : decode cX11_worthOf 16 = .ok (.if_icmp .ge 14, 3) := by decide +kernel
theorem dX11_worthOf_19 : decode cX11_worthOf 19 = .ok (.aload_n 0, 1) := by decide +kernel
theorem dX11_worthOf_20 : decode cX11_worthOf 20 = .ok (.getfield 7, 3) := by decide +kernel
theorem dX11_worthOf_23 : decode cX11_worthOf 23 = .ok (.iconst 4, 1) := by decide +kernel
theorem dX11_worthOf_24 : decode cX11_worthOf 24 = .ok (.iload_n 1, 1) := by decide +kernel
theorem dX11_worthOf_25 : decode cX11_worthOf 25 = .ok (.iadd, 1) := by decide +kernel
theorem dX11_worthOf_26 : decode cX11_worthOf 26 = .ok (.iaload, 1) := by decide +kernel
theorem dX11_worthOf_27 : decode cX11_worthOf 27 = .ok (.goto 11, 3) := by decide +kernel
theorem dX11_worthOf_30 : decode cX11_worthOf 30 = .ok (.aload_n 0, 1) := by decide +kernel
theorem dX11_worthOf_31 : decode cX11_worthOf 31 = .ok (.getfield 7, 3) := by decide +kernel
theorem dX11_worthOf_34 : decode cX11_worthOf 34 = .ok (.iconst 4, 1) := by decide +kernel
theorem dX11_worthOf_35 : decode cX11_worthOf 35 = .ok (.iload_n 2, 1) := by decide +kernel
theorem dX11_worthOf_36 : decode cX11_worthOf 36 = .ok (.iadd, 1) := by decide +kernel
theorem dX11_worthOf_37 : decode cX11_worthOf 37 = .ok (.iaload, 1) := by decide +kernel
theorem dX11_worthOf_38 : decode cX11_worthOf 38 = .ok (.istore_n 3, 1) := by decide +kernel
theorem dX11_worthOf_39 : decode cX11_worthOf 39 = .ok (.aload_n 0, 1) := by decide +kernel
theorem dX11_worthOf_40 : decode cX11_worthOf 40 = .ok (.iload_n 1, 1) := by decide +kernel
theorem dX11_worthOf_41 : decode cX11_worthOf 41 = .ok (.invokevirtual 124, 3) := by decide +kernel
theorem dX11_worthOf_44 : decode cX11_worthOf 44 = .ok (.aload_n 0, 1) := by decide +kernel
theorem dX11_worthOf_45 : decode cX11_worthOf 45 = .ok (.iload_n 2, 1) := by decide +kernel
theorem dX11_worthOf_46 : decode cX11_worthOf 46 = .ok (.invokevirtual 124, 3) := by decide +kernel
theorem dX11_worthOf_49 : decode cX11_worthOf 49 = .ok (.if_icmp .ne 7, 3) := by decide +kernel
theorem dX11_worthOf_52 : decode cX11_worthOf 52 = .ok (.iload_n 3, 1) := by decide +kernel
theorem dX11_worthOf_53 : decode cX11_worthOf 53 = .ok (.goto 6, 3) := by decide +kernel
theorem dX11_worthOf_56 : decode cX11_worthOf 56 = .ok (.iload_n 3, 1) := by decide +kernel
theorem dX11_worthOf_57 : decode cX11_worthOf 57 = .ok (.iconst 1, 1) := by decide +kernel
theorem dX11_worthOf_58 : decode cX11_worthOf 58 = .ok (.iadd, 1) := by decide +kernel
theorem dX11_worthOf_59 : decode cX11_worthOf 59 = .ok (.ireturn, 1) := by decide +kernel
theorem dX11_pairsBy_0 : decode cX11_pairsBy 0 = .ok (.iload_n 1, 1) := by decide +kernel
theorem dX11_pairsBy_1 : decode cX11_pairsBy 1 = .ok (.istore_n 3, 1) := by decide +kernel
theorem dX11_pairsBy_2 : decode cX11_pairsBy 2 = .ok (.iload_n 2, 1) := by decide +kernel
theorem dX11_pairsBy_3 : decode cX11_pairsBy 3 = .ok (.istore 4, 2) := by decide +kernel
theorem dX11_pairsBy_5 : decode cX11_pairsBy 5 = .ok (.iconst 0, 1) := by decide +kernel
theorem dX11_pairsBy_6 : decode cX11_pairsBy 6 = .ok (.istore 5, 2) := by decide +kernel
theorem dX11_pairsBy_8 : decode cX11_pairsBy 8 = .ok (.iconst 0, 1) := by decide +kernel
theorem dX11_pairsBy_9 : decode cX11_pairsBy 9 = .ok (.istore 6, 2) := by decide +kernel
theorem dX11_pairsBy_11 : decode cX11_pairsBy 11 = .ok (.iload 6, 2) := by decide +kernel
theorem dX11_pairsBy_13 : decode cX11_pairsBy 13 = .ok (.aload_n 0, 1) := by decide +kernel
theorem dX11_pairsBy_14 : decode cX11_pairsBy 14 = .ok (.invokevirtual 49, 3) := by decide +kernel
theorem dX11_pairsBy_17 : decode cX11_pairsBy 17 = .ok (.if_icmp .ge 17, 3) := by decide +kernel
theorem dX11_pairsBy_20 : decode cX11_pairsBy 20 = .ok (.aload_n 0, 1) := by decide +kernel
theorem dX11_pairsBy_21 : decode cX11_pairsBy 21 = .ok (.getfield 27, 3) := by decide +kernel
theorem dX11_pairsBy_24 : decode cX11_pairsBy 24 = .ok (.iload 6, 2) := by decide +kernel
theorem dX11_pairsBy_26 : decode cX11_pairsBy 26 = .ok (.iconst (-1), 1) := by decide +kernel
theorem dX11_pairsBy_27 : decode cX11_pairsBy 27 = .ok (.iastore, 1) := by decide +kernel
theorem dX11_pairsBy_28 : decode cX11_pairsBy 28 = .ok (.iinc 6 1, 3) := by decide +kernel
theorem dX11_pairsBy_31 : decode cX11_pairsBy 31 = .ok (.goto (-20), 3) := by decide +kernel
theorem dX11_pairsBy_34 : decode cX11_pairsBy 34 = .ok (.iconst 0, 1) := by decide +kernel
theorem dX11_pairsBy_35 : decode cX11_pairsBy 35 = .ok (.istore 6, 2) := by decide +kernel
theorem dX11_pairsBy_37 : decode cX11_pairsBy 37 = .ok (.iload 6, 2) := by decide +kernel
theorem dX11_pairsBy_39 : decode cX11_pairsBy 39 = .ok (.aload_n 0, 1) := by decide +kernel
theorem dX11_pairsBy_40 : decode cX11_pairsBy 40 = .ok (.invokevirtual 49, 3) := by decide +kernel
theorem dX11_pairsBy_43 : decode cX11_pairsBy 43 = .ok (.if_icmp .ge 154, 3) := by decide +kernel
theorem dX11_pairsBy_46 : decode cX11_pairsBy 46 = .ok (.iload 4, 2) := by decide +kernel
theorem dX11_pairsBy_48 : decode cX11_pairsBy 48 = .ok (.bipush 7, 2) := by decide +kernel
theorem dX11_pairsBy_50 : decode cX11_pairsBy 50 = .ok (.idiv, 1) := by decide +kernel
theorem dX11_pairsBy_51 : decode cX11_pairsBy 51 = .ok (.istore 4, 2) := by decide +kernel
theorem dX11_pairsBy_53 : decode cX11_pairsBy 53 = .ok (.iload_n 3, 1) := by decide +kernel
theorem dX11_pairsBy_54 : decode cX11_pairsBy 54 = .ok (.iload 4, 2) := by decide +kernel
theorem dX11_pairsBy_56 : decode cX11_pairsBy 56 = .ok (.idiv, 1) := by decide +kernel
theorem dX11_pairsBy_57 : decode cX11_pairsBy 57 = .ok (.istore 7, 2) := by decide +kernel
theorem dX11_pairsBy_59 : decode cX11_pairsBy 59 = .ok (.iload_n 3, 1) := by decide +kernel
theorem dX11_pairsBy_60 : decode cX11_pairsBy 60 = .ok (.iload 4, 2) := by decide +kernel
theorem dX11_pairsBy_62 : decode cX11_pairsBy 62 = .ok (.irem, 1) := by decide +kernel
theorem dX11_pairsBy_63 : decode cX11_pairsBy 63 = .ok (.istore_n 3, 1) := by decide +kernel
theorem dX11_pairsBy_64 : decode cX11_pairsBy 64 = .ok (.aload_n 0, 1) := by decide +kernel
theorem dX11_pairsBy_65 : decode cX11_pairsBy 65 = .ok (.getfield 27, 3) := by decide +kernel
theorem dX11_pairsBy_68 : decode cX11_pairsBy 68 = .ok (.iload 6, 2) := by decide +kernel
theorem dX11_pairsBy_70 : decode cX11_pairsBy 70 = .ok (.iaload, 1) := by decide +kernel
theorem dX11_pairsBy_71 : decode cX11_pairsBy 71 = .ok (.iconst (-1), 1) := by decide +kernel
theorem dX11_pairsBy_72 : decode cX11_pairsBy 72 = .ok (.if_icmp .eq 7, 3) := by decide +kernel
theorem dX11_pairsBy_75 : decode cX11_pairsBy 75 = .ok (.iconst 1, 1) := by decide +kernel
theorem dX11_pairsBy_76 : decode cX11_pairsBy 76 = .ok (.goto 4, 3) := by decide +kernel
theorem dX11_pairsBy_79 : decode cX11_pairsBy 79 = .ok (.iconst 0, 1) := by decide +kernel
theorem dX11_pairsBy_80 : decode cX11_pairsBy 80 = .ok (.istore 8, 2) := by decide +kernel
theorem dX11_pairsBy_82 : decode cX11_pairsBy 82 = .ok (.iload 8, 2) := by decide +kernel
theorem dX11_pairsBy_84 : decode cX11_pairsBy 84 = .ok (.ifCond .eq 16, 3) := by decide +kernel
theorem dX11_pairsBy_87 : decode cX11_pairsBy 87 = .ok (.iload 7, 2) := by decide +kernel
theorem dX11_pairsBy_89 : decode cX11_pairsBy 89 = .ok (.ifCond .ne 7, 3) := by decide +kernel
theorem dX11_pairsBy_92 : decode cX11_pairsBy 92 = .ok (.iconst 1, 1) := by decide +kernel
theorem dX11_pairsBy_93 : decode cX11_pairsBy 93 = .ok (.goto 46, 3) := by decide +kernel
theorem dX11_pairsBy_96 : decode cX11_pairsBy 96 = .ok (.iconst 0, 1) := by decide +kernel
theorem dX11_pairsBy_97 : decode cX11_pairsBy 97 = .ok (.goto 42, 3) := by decide +kernel
theorem dX11_pairsBy_100 : decode cX11_pairsBy 100 = .ok (.iload 7, 2) := by decide +kernel
theorem dX11_pairsBy_102 : decode cX11_pairsBy 102 = .ok (.bipush 6, 2) := by decide +kernel
theorem dX11_pairsBy_104 : decode cX11_pairsBy 104 = .ok (.if_icmp .eq 30, 3) := by decide +kernel
theorem dX11_pairsBy_107 : decode cX11_pairsBy 107 = .ok (.iload 7, 2) := by decide +kernel
theorem dX11_pairsBy_109 : decode cX11_pairsBy 109 = .ok (.iload 6, 2) := by decide +kernel
theorem dX11_pairsBy_111 : decode cX11_pairsBy 111 = .ok (.if_icmp .le 27, 3) := by decide +kernel
theorem dX11_pairsBy_114 : decode cX11_pairsBy 114 = .ok (.iload 7, 2) := by decide +kernel
theorem dX11_pairsBy_116 : decode cX11_pairsBy 116 = .ok (.aload_n 0, 1) := by decide +kernel
theorem dX11_pairsBy_117 : decode cX11_pairsBy 117 = .ok (.invokevirtual 49, 3) := by decide +kernel
theorem dX11_pairsBy_120 : decode cX11_pairsBy 120 = .ok (.if_icmp .ge 18, 3) := by decide +kernel
theorem dX11_pairsBy_123 : decode cX11_pairsBy 123 = .ok (.aload_n 0, 1) := by decide +kernel
theorem dX11_pairsBy_124 : decode cX11_pairsBy 124 = .ok (.getfield 27, 3) := by decide +kernel
theorem dX11_pairsBy_127 : decode cX11_pairsBy 127 = .ok (.iload 7, 2) := by decide +kernel
theorem dX11_pairsBy_129 : decode cX11_pairsBy 129 = .ok (.iaload, 1) := by decide +kernel
theorem dX11_pairsBy_130 : decode cX11_pairsBy 130 = .ok (.iconst (-1), 1) := by decide +kernel
theorem dX11_pairsBy_131 : decode cX11_pairsBy 131 = .ok (.if_icmp .ne 7, 3) := by decide +kernel
theorem dX11_pairsBy_134 : decode cX11_pairsBy 134 = .ok (.iconst 1, 1) := by decide +kernel
theorem dX11_pairsBy_135 : decode cX11_pairsBy 135 = .ok (.goto 4, 3) := by decide +kernel
theorem dX11_pairsBy_138 : decode cX11_pairsBy 138 = .ok (.iconst 0, 1) := by decide +kernel
theorem dX11_pairsBy_139 : decode cX11_pairsBy 139 = .ok (.istore 9, 2) := by decide +kernel
theorem dX11_pairsBy_141 : decode cX11_pairsBy 141 = .ok (.iload 9, 2) := by decide +kernel
theorem dX11_pairsBy_143 : decode cX11_pairsBy 143 = .ok (.ifCond .ne 5, 3) := by decide +kernel
theorem dX11_pairsBy_146 : decode cX11_pairsBy 146 = .ok (.iconst (-1), 1) := by decide +kernel
theorem dX11_pairsBy_147 : decode cX11_pairsBy 147 = .ok (.ireturn, 1) := by decide +kernel
theorem dX11_pairsBy_148 : decode cX11_pairsBy 148 = .ok (.iload 8, 2) := by decide +kernel
theorem dX11_pairsBy_150 : decode cX11_pairsBy 150 = .ok (.ifCond .ne 41, 3) := by decide +kernel
theorem dX11_pairsBy_153 : decode cX11_pairsBy 153 = .ok (.iload 7, 2) := by decide +kernel
theorem dX11_pairsBy_155 : decode cX11_pairsBy 155 = .ok (.bipush 6, 2) := by decide +kernel
theorem dX11_pairsBy_157 : decode cX11_pairsBy 157 = .ok (.if_icmp .eq 34, 3) := by decide +kernel
theorem dX11_pairsBy_160 : decode cX11_pairsBy 160 = .ok (.aload_n 0, 1) := by decide +kernel
theorem dX11_pairsBy_161 : decode cX11_pairsBy 161 = .ok (.getfield 27, 3) := by decide +kernel
theorem dX11_pairsBy_164 : decode cX11_pairsBy 164 = .ok (.iload 6, 2) := by decide +kernel
theorem dX11_pairsBy_166 : decode cX11_pairsBy 166 = .ok (.iload 7, 2) := by decide +kernel
theorem dX11_pairsBy_168 : decode cX11_pairsBy 168 = .ok (.iastore, 1) := by decide +kernel
theorem dX11_pairsBy_169 : decode cX11_pairsBy 169 = .ok (.aload_n 0, 1) := by decide +kernel
theorem dX11_pairsBy_170 : decode cX11_pairsBy 170 = .ok (.getfield 27, 3) := by decide +kernel
theorem dX11_pairsBy_173 : decode cX11_pairsBy 173 = .ok (.iload 7, 2) := by decide +kernel
theorem dX11_pairsBy_175 : decode cX11_pairsBy 175 = .ok (.iload 6, 2) := by decide +kernel
theorem dX11_pairsBy_177 : decode cX11_pairsBy 177 = .ok (.iastore, 1) := by decide +kernel
theorem dX11_pairsBy_178 : decode cX11_pairsBy 178 = .ok (.iload 5, 2) := by decide +kernel
theorem dX11_pairsBy_180 : decode cX11_pairsBy 180 = .ok (.aload_n 0, 1) := by decide +kernel
theorem dX11_pairsBy_181 : decode cX11_pairsBy 181 = .ok (.iload 6, 2) := by decide +kernel
theorem dX11_pairsBy_183 : decode cX11_pairsBy 183 = .ok (.iload 7, 2) := by decide +kernel
theorem dX11_pairsBy_185 : decode cX11_pairsBy 185 = .ok (.invokevirtual 148, 3) := by decide +kernel
theorem dX11_pairsBy_188 : decode cX11_pairsBy 188 = .ok (.iadd, 1) := by decide +kernel
theorem dX11_pairsBy_189 : decode cX11_pairsBy 189 = .ok (.istore 5, 2) := by decide +kernel
theorem dX11_pairsBy_191 : decode cX11_pairsBy 191 = .ok (.iinc 6 1, 3) := by decide +kernel
theorem dX11_pairsBy_194 : decode cX11_pairsBy 194 = .ok (.goto (-157), 3) := by decide +kernel
theorem dX11_pairsBy_197 : decode cX11_pairsBy 197 = .ok (.iload 5, 2) := by decide +kernel
theorem dX11_pairsBy_199 : decode cX11_pairsBy 199 = .ok (.ireturn, 1) := by decide +kernel
theorem dX11_tell_0 : decode cX11_tell 0 = .ok (.iload_n 1, 1) := by decide +kernel
theorem dX11_tell_1 : decode cX11_tell 1 = .ok (.i2l, 1) := by decide +kernel
theorem dX11_tell_2 : decode cX11_tell 2 = .ok (.ldc2_w 122, 3) := by decide +kernel
theorem dX11_tell_5 : decode cX11_tell 5 = .ok (.aload_n 0, 1) := by decide +kernel
theorem dX11_tell_6 : decode cX11_tell 6 = .ok (.invokevirtual 49, 3) := by decide +kernel
theorem dX11_tell_9 : decode cX11_tell 9 = .ok (.iconst 1, 1) := by decide +kernel
theorem dX11_tell_10 : decode cX11_tell 10 = .ok (.isub, 1) := by decide +kernel
theorem dX11_tell_11 : decode cX11_tell 11 = .ok (.i2l, 1) := by decide +kernel
theorem dX11_tell_12 : decode cX11_tell 12 = .ok (.invokestatic 53, 3) := by decide +kernel
theorem dX11_tell_15 : decode cX11_tell 15 = .ok (.ifCond .ne 10, 3) := by decide +kernel
theorem dX11_tell_18 : decode cX11_tell 18 = .ok (.aload_n 0, 1) := by decide +kernel
theorem dX11_tell_19 : decode cX11_tell 19 = .ok (.bipush (-10), 2) := by decide +kernel
theorem dX11_tell_21 : decode cX11_tell 21 = .ok (.invokevirtual 63, 3) := by decide +kernel
theorem dX11_tell_24 : decode cX11_tell 24 = .ok (.ireturn, 1) := by decide +kernel
theorem dX11_tell_25 : decode cX11_tell 25 = .ok (.iconst 1, 1) := by decide +kernel
theorem dX11_tell_26 : decode cX11_tell 26 = .ok (.istore_n 2, 1) := by decide +kernel
theorem dX11_tell_27 : decode cX11_tell 27 = .ok (.iconst (-1), 1) := by decide +kernel
theorem dX11_tell_28 : decode cX11_tell 28 = .ok (.istore_n 3, 1) := by decide +kernel
theorem dX11_tell_29 : decode cX11_tell 29 = .ok (.iconst 0, 1) := by decide +kernel
theorem dX11_tell_30 : decode cX11_tell 30 = .ok (.istore 4, 2) := by decide +kernel
theorem dX11_tell_32 : decode cX11_tell 32 = .ok (.iload 4, 2) := by decide +kernel
theorem dX11_tell_34 : decode cX11_tell 34 = .ok (.aload_n 0, 1) := by decide +kernel
theorem dX11_tell_35 : decode cX11_tell 35 = .ok (.invokevirtual 49, 3) := by decide +kernel
theorem dX11_tell_38 : decode cX11_tell 38 = .ok (.if_icmp .ge 14, 3) := by decide +kernel
theorem dX11_tell_41 : decode cX11_tell 41 = .ok (.iload_n 2, 1) := by decide +kernel
theorem dX11_tell_42 : decode cX11_tell 42 = .ok (.bipush 7, 2) := by decide +kernel
theorem dX11_tell_44 : decode cX11_tell 44 = .ok (.imul, 1) := by decide +kernel
theorem dX11_tell_45 : decode cX11_tell 45 = .ok (.istore_n 2, 1) := by decide +kernel
theorem dX11_tell_46 : decode cX11_tell 46 = .ok (.iinc 4 1, 3) := by decide +kernel
theorem dX11_tell_49 : decode cX11_tell 49 = .ok (.goto (-17), 3) := by decide +kernel
theorem dX11_tell_52 : decode cX11_tell 52 = .ok (.iconst 0, 1) := by decide +kernel
theorem dX11_tell_53 : decode cX11_tell 53 = .ok (.istore 4, 2) := by decide +kernel
theorem dX11_tell_55 : decode cX11_tell 55 = .ok (.iload 4, 2) := by decide +kernel
theorem dX11_tell_57 : decode cX11_tell 57 = .ok (.iload_n 2, 1) := by decide +kernel
theorem dX11_tell_58 : decode cX11_tell 58 = .ok (.if_icmp .ge 69, 3) := by decide +kernel
theorem dX11_tell_61 : decode cX11_tell 61 = .ok (.aload_n 0, 1) := by decide +kernel
theorem dX11_tell_62 : decode cX11_tell 62 = .ok (.iload 4, 2) := by decide +kernel
theorem dX11_tell_64 : decode cX11_tell 64 = .ok (.iload_n 2, 1) := by decide +kernel
theorem dX11_tell_65 : decode cX11_tell 65 = .ok (.invokevirtual 151, 3) := by decide +kernel
theorem dX11_tell_68 : decode cX11_tell 68 = .ok (.istore 5, 2) := by decide +kernel
theorem dX11_tell_70 : decode cX11_tell 70 = .ok (.iconst 0, 1) := by decide +kernel
theorem dX11_tell_71 : decode cX11_tell 71 = .ok (.istore 6, 2) := by decide +kernel
theorem dX11_tell_73 : decode cX11_tell 73 = .ok (.iload 6, 2) := by decide +kernel
theorem dX11_tell_75 : decode cX11_tell 75 = .ok (.aload_n 0, 1) := by decide +kernel
theorem dX11_tell_76 : decode cX11_tell 76 = .ok (.invokevirtual 49, 3) := by decide +kernel
theorem dX11_tell_79 : decode cX11_tell 79 = .ok (.if_icmp .ge 29, 3) := by decide +kernel
theorem dX11_tell_82 : decode cX11_tell 82 = .ok (.iload 5, 2) := by decide +kernel
theorem dX11_tell_84 : decode cX11_tell 84 = .ok (.iload_n 3, 1) := by decide +kernel
theorem dX11_tell_85 : decode cX11_tell 85 = .ok (.if_icmp .le 23, 3) := by decide +kernel
theorem dX11_tell_88 : decode cX11_tell 88 = .ok (.aload_n 0, 1) := by decide +kernel
theorem dX11_tell_89 : decode cX11_tell 89 = .ok (.getfield 30, 3) := by decide +kernel
theorem dX11_tell_92 : decode cX11_tell 92 = .ok (.iload 6, 2) := by decide +kernel
theorem dX11_tell_94 : decode cX11_tell 94 = .ok (.aload_n 0, 1) := by decide +kernel
theorem dX11_tell_95 : decode cX11_tell 95 = .ok (.getfield 27, 3) := by decide +kernel
theorem dX11_tell_98 : decode cX11_tell 98 = .ok (.iload 6, 2) := by decide +kernel
theorem dX11_tell_100 : decode cX11_tell 100 = .ok (.iaload, 1) := by decide +kernel
theorem dX11_tell_101 : decode cX11_tell 101 = .ok (.iastore, 1) := by decide +kernel
theorem dX11_tell_102 : decode cX11_tell 102 = .ok (.iinc 6 1, 3) := by decide +kernel
theorem dX11_tell_105 : decode cX11_tell 105 = .ok (.goto (-32), 3) := by decide +kernel
theorem dX11_tell_108 : decode cX11_tell 108 = .ok (.iload 5, 2) := by decide +kernel
theorem dX11_tell_110 : decode cX11_tell 110 = .ok (.iload_n 3, 1) := by decide +kernel
theorem dX11_tell_111 : decode cX11_tell 111 = .ok (.if_icmp .le 8, 3) := by decide +kernel
theorem dX11_tell_114 : decode cX11_tell 114 = .ok (.iload 5, 2) := by decide +kernel
theorem dX11_tell_116 : decode cX11_tell 116 = .ok (.goto 4, 3) := by decide +kernel
theorem dX11_tell_119 : decode cX11_tell 119 = .ok (.iload_n 3, 1) := by decide +kernel
theorem dX11_tell_120 : decode cX11_tell 120 = .ok (.istore_n 3, 1) := by decide +kernel
theorem dX11_tell_121 : decode cX11_tell 121 = .ok (.iinc 4 1, 3) := by decide +kernel
theorem dX11_tell_124 : decode cX11_tell 124 = .ok (.goto (-69), 3) := by decide +kernel
theorem dX11_tell_127 : decode cX11_tell 127 = .ok (.iload_n 1, 1) := by decide +kernel
theorem dX11_tell_128 : decode cX11_tell 128 = .ok (.iconst (-1), 1) := by decide +kernel
theorem dX11_tell_129 : decode cX11_tell 129 = .ok (.if_icmp .ne 7, 3) := by decide +kernel
theorem dX11_tell_132 : decode cX11_tell 132 = .ok (.iload_n 3, 1) := by decide +kernel
theorem dX11_tell_133 : decode cX11_tell 133 = .ok (.goto 9, 3) := by decide +kernel
theorem dX11_tell_136 : decode cX11_tell 136 = .ok (.aload_n 0, 1) := by decide +kernel
theorem dX11_tell_137 : decode cX11_tell 137 = .ok (.getfield 30, 3) := by decide +kernel
theorem dX11_tell_140 : decode cX11_tell 140 = .ok (.iload_n 1, 1) := by decide +kernel
theorem dX11_tell_141 : decode cX11_tell 141 = .ok (.iaload, 1) := by decide +kernel
theorem dX11_tell_142 : decode cX11_tell 142 = .ok (.ireturn, 1) := by decide +kernel
theorem dX11_note_0 : decode cX11_note 0 = .ok (.aload_n 0, 1) := by decide +kernel
theorem dX11_note_1 : decode cX11_note 1 = .ok (.iload_n 1, 1) := by decide +kernel
theorem dX11_note_2 : decode cX11_note 2 = .ok (.invokevirtual 116, 3) := by decide +kernel
theorem dX11_note_5 : decode cX11_note 5 = .ok (.ifCond .eq 61, 3) := by decide +kernel
theorem dX11_note_8 : decode cX11_note 8 = .ok (.iload_n 2, 1) := by decide +kernel
theorem dX11_note_9 : decode cX11_note 9 = .ok (.i2l, 1) := by decide +kernel
theorem dX11_note_10 : decode cX11_note 10 = .ok (.lconst 0, 1) := by decide +kernel
theorem dX11_note_11 : decode cX11_note 11 = .ok (.ldc2_w 61, 3) := by decide +kernel
theorem dX11_note_14 : decode cX11_note 14 = .ok (.invokestatic 53, 3) := by decide +kernel
theorem dX11_note_17 : decode cX11_note 17 = .ok (.ifCond .eq 49, 3) := by decide +kernel
theorem dX11_note_20 : decode cX11_note 20 = .ok (.iload_n 3, 1) := by decide +kernel
theorem dX11_note_21 : decode cX11_note 21 = .ok (.i2l, 1) := by decide +kernel
theorem dX11_note_22 : decode cX11_note 22 = .ok (.lconst 0, 1) := by decide +kernel
theorem dX11_note_23 : decode cX11_note 23 = .ok (.ldc2_w 154, 3) := by decide +kernel
theorem dX11_note_26 : decode cX11_note 26 = .ok (.invokestatic 53, 3) := by decide +kernel
theorem dX11_note_29 : decode cX11_note 29 = .ok (.ifCond .eq 37, 3) := by decide +kernel
theorem dX11_note_32 : decode cX11_note 32 = .ok (.iload 4, 2) := by decide +kernel
theorem dX11_note_34 : decode cX11_note 34 = .ok (.i2l, 1) := by decide +kernel
theorem dX11_note_35 : decode cX11_note 35 = .ok (.lconst 0, 1) := by decide +kernel
theorem dX11_note_36 : decode cX11_note 36 = .ok (.ldc2_w 156, 3) := by decide +kernel
theorem dX11_note_39 : decode cX11_note 39 = .ok (.invokestatic 53, 3) := by decide +kernel
theorem dX11_note_42 : decode cX11_note 42 = .ok (.ifCond .eq 24, 3) := by decide +kernel
theorem dX11_note_45 : decode cX11_note 45 = .ok (.iload 5, 2) := by decide +kernel
theorem dX11_note_47 : decode cX11_note 47 = .ok (.invokestatic 105, 3) := by decide +kernel
theorem dX11_note_50 : decode cX11_note 50 = .ok (.ifCond .eq 16, 3) := by decide +kernel
theorem dX11_note_53 : decode cX11_note 53 = .ok (.iload 6, 2) := by decide +kernel
theorem dX11_note_55 : decode cX11_note 55 = .ok (.i2l, 1) := by decide +kernel
theorem dX11_note_56 : decode cX11_note 56 = .ok (.lconst 0, 1) := by decide +kernel
theorem dX11_note_57 : decode cX11_note 57 = .ok (.ldc2_w 61, 3) := by decide +kernel
theorem dX11_note_60 : decode cX11_note 60 = .ok (.invokestatic 53, 3) := by decide +kernel
theorem dX11_note_63 : decode cX11_note 63 = .ok (.ifCond .ne 10, 3) := by decide +kernel
theorem dX11_note_66 : decode cX11_note 66 = .ok (.aload_n 0, 1) := by decide +kernel
theorem dX11_note_67 : decode cX11_note 67 = .ok (.bipush (-2), 2) := by decide +kernel
theorem dX11_note_69 : decode cX11_note 69 = .ok (.invokevirtual 63, 3) := by decide +kernel
theorem dX11_note_72 : decode cX11_note 72 = .ok (.ireturn, 1) := by decide +kernel
theorem dX11_note_73 : decode cX11_note 73 = .ok (.aload_n 0, 1) := by decide +kernel
theorem dX11_note_74 : decode cX11_note 74 = .ok (.getfield 7, 3) := by decide +kernel
theorem dX11_note_77 : decode cX11_note 77 = .ok (.iconst 1, 1) := by decide +kernel
theorem dX11_note_78 : decode cX11_note 78 = .ok (.iaload, 1) := by decide +kernel
theorem dX11_note_79 : decode cX11_note 79 = .ok (.bipush 6, 2) := by decide +kernel
theorem dX11_note_81 : decode cX11_note 81 = .ok (.if_icmp .ne 8, 3) := by decide +kernel
theorem dX11_note_84 : decode cX11_note 84 = .ok (.aload_n 0, 1) := by decide +kernel
theorem dX11_note_85 : decode cX11_note 85 = .ok (.invokevirtual 67, 3) := by decide +kernel
theorem dX11_note_88 : decode cX11_note 88 = .ok (.ireturn, 1) := by decide +kernel
theorem dX11_note_89 : decode cX11_note 89 = .ok (.bipush 23, 2) := by decide +kernel
theorem dX11_note_91 : decode cX11_note 91 = .ok (.bipush 6, 2) := by decide +kernel
theorem dX11_note_93 : decode cX11_note 93 = .ok (.aload_n 0, 1) := by decide +kernel
theorem dX11_note_94 : decode cX11_note 94 = .ok (.getfield 7, 3) := by decide +kernel
theorem dX11_note_97 : decode cX11_note 97 = .ok (.iconst 1, 1) := by decide +kernel
theorem dX11_note_98 : decode cX11_note 98 = .ok (.iaload, 1) := by decide +kernel
theorem dX11_note_99 : decode cX11_note 99 = .ok (.imul, 1) := by decide +kernel
theorem dX11_note_100 : decode cX11_note 100 = .ok (.iadd, 1) := by decide +kernel
theorem dX11_note_101 : decode cX11_note 101 = .ok (.istore 7, 2) := by decide +kernel
theorem dX11_note_103 : decode cX11_note 103 = .ok (.aload_n 0, 1) := by decide +kernel
theorem dX11_note_104 : decode cX11_note 104 = .ok (.getfield 7, 3) := by decide +kernel
theorem dX11_note_107 : decode cX11_note 107 = .ok (.iload 7, 2) := by decide +kernel
theorem dX11_note_109 : decode cX11_note 109 = .ok (.iload_n 1, 1) := by decide +kernel
theorem dX11_note_110 : decode cX11_note 110 = .ok (.iastore, 1) := by decide +kernel
theorem dX11_note_111 : decode cX11_note 111 = .ok (.aload_n 0, 1) := by decide +kernel
theorem dX11_note_112 : decode cX11_note 112 = .ok (.getfield 7, 3) := by decide +kernel
theorem dX11_note_115 : decode cX11_note 115 = .ok (.iload 7, 2) := by decide +kernel
theorem dX11_note_117 : decode cX11_note 117 = .ok (.iconst 1, 1) := by decide +kernel
theorem dX11_note_118 : decode cX11_note 118 = .ok (.iadd, 1) := by decide +kernel
theorem dX11_note_119 : decode cX11_note 119 = .ok (.iload_n 2, 1) := by decide +kernel
theorem dX11_note_120 : decode cX11_note 120 = .ok (.iastore, 1) := by decide +kernel
theorem dX11_note_121 : decode cX11_note 121 = .ok (.aload_n 0, 1) := by decide +kernel
theorem dX11_note_122 : decode cX11_note 122 = .ok (.getfield 7, 3) := by decide +kernel
theorem dX11_note_125 : decode cX11_note 125 = .ok (.iload 7, 2) := by decide +kernel
theorem dX11_note_127 : decode cX11_note 127 = .ok (.iconst 2, 1) := by decide +kernel
theorem dX11_note_128 : decode cX11_note 128 = .ok (.iadd, 1) := by decide +kernel
theorem dX11_note_129 : decode cX11_note 129 = .ok (.iload_n 3, 1) := by decide +kernel
theorem dX11_note_130 : decode cX11_note 130 = .ok (.iastore, 1) := by decide +kernel
theorem dX11_note_131 : decode cX11_note 131 = .ok (.aload_n 0, 1) := by decide +kernel
theorem dX11_note_132 : decode cX11_note 132 = .ok (.getfield 7, 3) := by decide +kernel
theorem dX11_note_135 : decode cX11_note 135 = .ok (.iload 7, 2) := by decide +kernel
theorem dX11_note_137 : decode cX11_note 137 = .ok (.iconst 3, 1) := by decide +kernel
theorem dX11_note_138 : decode cX11_note 138 = .ok (.iadd, 1) := by decide +kernel
theorem dX11_note_139 : decode cX11_note 139 = .ok (.iload 4, 2) := by decide +kernel
theorem dX11_note_141 : decode cX11_note 141 = .ok (.iastore, 1) := by decide +kernel
theorem dX11_note_142 : decode cX11_note 142 = .ok (.aload_n 0, 1) := by decide +kernel
theorem dX11_note_143 : decode cX11_note 143 = .ok (.getfield 7, 3) := by decide +kernel
theorem dX11_note_146 : decode cX11_note 146 = .ok (.iload 7, 2) := by decide +kernel
theorem dX11_note_148 : decode cX11_note 148 = .ok (.iconst 4, 1) := by decide +kernel
theorem dX11_note_149 : decode cX11_note 149 = .ok (.iadd, 1) := by decide +kernel
theorem dX11_note_150 : decode cX11_note 150 = .ok (.iload 5, 2) := by decide +kernel
theorem dX11_note_152 : decode cX11_note 152 = .ok (.iastore, 1) := by decide +kernel
theorem dX11_note_153 : decode cX11_note 153 = .ok (.aload_n 0, 1) := by decide +kernel
theorem dX11_note_154 : decode cX11_note 154 = .ok (.getfield 7, 3) := by decide +kernel
theorem dX11_note_157 : decode cX11_note 157 = .ok (.iload 7, 2) := by decide +kernel
theorem dX11_note_159 : decode cX11_note 159 = .ok (.iconst 5, 1) := by decide +kernel
theorem dX11_note_160 : decode cX11_note 160 = .ok (.iadd, 1) := by decide +kernel
theorem dX11_note_161 : decode cX11_note 161 = .ok (.iload 6, 2) := by decide +kernel
theorem dX11_note_163 : decode cX11_note 163 = .ok (.iastore, 1) := by decide +kernel
theorem dX11_note_164 : decode cX11_note 164 = .ok (.aload_n 0, 1) := by decide +kernel
theorem dX11_note_165 : decode cX11_note 165 = .ok (.getfield 7, 3) := by decide +kernel
theorem dX11_note_168 : decode cX11_note 168 = .ok (.iconst 1, 1) := by decide +kernel
theorem dX11_note_169 : decode cX11_note 169 = .ok (.dup2, 1) := by decide +kernel
theorem dX11_note_170 : decode cX11_note 170 = .ok (.iaload, 1) := by decide +kernel
theorem dX11_note_171 : decode cX11_note 171 = .ok (.iconst 1, 1) := by decide +kernel
theorem dX11_note_172 : decode cX11_note 172 = .ok (.iadd, 1) := by decide +kernel
theorem dX11_note_173 : decode cX11_note 173 = .ok (.iastore, 1) := by decide +kernel
theorem dX11_note_174 : decode cX11_note 174 = .ok (.aload_n 0, 1) := by decide +kernel
theorem dX11_note_175 : decode cX11_note 175 = .ok (.getfield 7, 3) := by decide +kernel
theorem dX11_note_178 : decode cX11_note 178 = .ok (.iconst 1, 1) := by decide +kernel
theorem dX11_note_179 : decode cX11_note 179 = .ok (.iaload, 1) := by decide +kernel
theorem dX11_note_180 : decode cX11_note 180 = .ok (.ireturn, 1) := by decide +kernel
theorem dX11_gone_0 : decode cX11_gone 0 = .ok (.aload_n 0, 1) := by decide +kernel
theorem dX11_gone_1 : decode cX11_gone 1 = .ok (.iload_n 1, 1) := by decide +kernel
theorem dX11_gone_2 : decode cX11_gone 2 = .ok (.invokevirtual 116, 3) := by decide +kernel
theorem dX11_gone_5 : decode cX11_gone 5 = .ok (.ifCond .eq 27, 3) := by decide +kernel
theorem dX11_gone_8 : decode cX11_gone 8 = .ok (.iload_n 2, 1) := by decide +kernel
theorem dX11_gone_9 : decode cX11_gone 9 = .ok (.i2l, 1) := by decide +kernel
theorem dX11_gone_10 : decode cX11_gone 10 = .ok (.lconst 1, 1) := by decide +kernel
theorem dX11_gone_11 : decode cX11_gone 11 = .ok (.ldc2_w 158, 3) := by decide +kernel
theorem dX11_gone_14 : decode cX11_gone 14 = .ok (.invokestatic 53, 3) := by decide +kernel
theorem dX11_gone_17 : decode cX11_gone 17 = .ok (.ifCond .eq 15, 3) := by decide +kernel
theorem dX11_gone_20 : decode cX11_gone 20 = .ok (.iload_n 3, 1) := by decide +kernel
theorem dX11_gone_21 : decode cX11_gone 21 = .ok (.i2l, 1) := by decide +kernel
theorem dX11_gone_22 : decode cX11_gone 22 = .ok (.lconst 0, 1) := by decide +kernel
theorem dX11_gone_23 : decode cX11_gone 23 = .ok (.ldc2_w 160, 3) := by decide +kernel
theorem dX11_gone_26 : decode cX11_gone 26 = .ok (.invokestatic 53, 3) := by decide +kernel
theorem dX11_gone_29 : decode cX11_gone 29 = .ok (.ifCond .ne 10, 3) := by decide +kernel
theorem dX11_gone_32 : decode cX11_gone 32 = .ok (.aload_n 0, 1) := by decide +kernel
theorem dX11_gone_33 : decode cX11_gone 33 = .ok (.bipush (-2), 2) := by decide +kernel
theorem dX11_gone_35 : decode cX11_gone 35 = .ok (.invokevirtual 63, 3) := by decide +kernel
theorem dX11_gone_38 : decode cX11_gone 38 = .ok (.ireturn, 1) := by decide +kernel
theorem dX11_gone_39 : decode cX11_gone 39 = .ok (.aload_n 0, 1) := by decide +kernel
theorem dX11_gone_40 : decode cX11_gone 40 = .ok (.getfield 7, 3) := by decide +kernel
theorem dX11_gone_43 : decode cX11_gone 43 = .ok (.iconst 2, 1) := by decide +kernel
theorem dX11_gone_44 : decode cX11_gone 44 = .ok (.iaload, 1) := by decide +kernel
theorem dX11_gone_45 : decode cX11_gone 45 = .ok (.iconst 4, 1) := by decide +kernel
theorem dX11_gone_46 : decode cX11_gone 46 = .ok (.if_icmp .ne 8, 3) := by decide +kernel
theorem dX11_gone_49 : decode cX11_gone 49 = .ok (.aload_n 0, 1) := by decide +kernel
theorem dX11_gone_50 : decode cX11_gone 50 = .ok (.invokevirtual 67, 3) := by decide +kernel
theorem dX11_gone_53 : decode cX11_gone 53 = .ok (.ireturn, 1) := by decide +kernel
theorem dX11_gone_54 : decode cX11_gone 54 = .ok (.bipush 59, 2) := by decide +kernel
theorem dX11_gone_56 : decode cX11_gone 56 = .ok (.iconst 3, 1) := by decide +kernel
theorem dX11_gone_57 : decode cX11_gone 57 = .ok (.aload_n 0, 1) := by decide +kernel
theorem dX11_gone_58 : decode cX11_gone 58 = .ok (.getfield 7, 3) := by decide +kernel
theorem dX11_gone_61 : decode cX11_gone 61 = .ok (.iconst 2, 1) := by decide +kernel
theorem dX11_gone_62 : decode cX11_gone 62 = .ok (.iaload, 1) := by decide +kernel
theorem dX11_gone_63 : decode cX11_gone 63 = .ok (.imul, 1) := by decide +kernel
theorem dX11_gone_64 : decode cX11_gone 64 = .ok (.iadd, 1) := by decide +kernel
theorem dX11_gone_65 : decode cX11_gone 65 = .ok (.istore 4, 2) := by decide +kernel
theorem dX11_gone_67 : decode cX11_gone 67 = .ok (.aload_n 0, 1) := by decide +kernel
theorem dX11_gone_68 : decode cX11_gone 68 = .ok (.getfield 7, 3) := by decide +kernel
theorem dX11_gone_71 : decode cX11_gone 71 = .ok (.iload 4, 2) := by decide +kernel
theorem dX11_gone_73 : decode cX11_gone 73 = .ok (.iload_n 1, 1) := by decide +kernel
theorem dX11_gone_74 : decode cX11_gone 74 = .ok (.iastore, 1) := by decide +kernel
theorem dX11_gone_75 : decode cX11_gone 75 = .ok (.aload_n 0, 1) := by decide +kernel
theorem dX11_gone_76 : decode cX11_gone 76 = .ok (.getfield 7, 3) := by decide +kernel
theorem dX11_gone_79 : decode cX11_gone 79 = .ok (.iload 4, 2) := by decide +kernel
theorem dX11_gone_81 : decode cX11_gone 81 = .ok (.iconst 1, 1) := by decide +kernel
theorem dX11_gone_82 : decode cX11_gone 82 = .ok (.iadd, 1) := by decide +kernel
theorem dX11_gone_83 : decode cX11_gone 83 = .ok (.iload_n 2, 1) := by decide +kernel
theorem dX11_gone_84 : decode cX11_gone 84 = .ok (.iastore, 1) := by decide +kernel
theorem dX11_gone_85 : decode cX11_gone 85 = .ok (.aload_n 0, 1) := by decide +kernel
theorem dX11_gone_86 : decode cX11_gone 86 = .ok (.getfield 7, 3) := by decide +kernel
theorem dX11_gone_89 : decode cX11_gone 89 = .ok (.iload 4, 2) := by decide +kernel
theorem dX11_gone_91 : decode cX11_gone 91 = .ok (.iconst 2, 1) := by decide +kernel
theorem dX11_gone_92 : decode cX11_gone 92 = .ok (.iadd, 1) := by decide +kernel
theorem dX11_gone_93 : decode cX11_gone 93 = .ok (.iload_n 3, 1) := by decide +kernel
theorem dX11_gone_94 : decode cX11_gone 94 = .ok (.iastore, 1) := by decide +kernel
theorem dX11_gone_95 : decode cX11_gone 95 = .ok (.aload_n 0, 1) := by decide +kernel
theorem dX11_gone_96 : decode cX11_gone 96 = .ok (.getfield 7, 3) := by decide +kernel
theorem dX11_gone_99 : decode cX11_gone 99 = .ok (.iconst 2, 1) := by decide +kernel
theorem dX11_gone_100 : decode cX11_gone 100 = .ok (.dup2, 1) := by decide +kernel
theorem dX11_gone_101 : decode cX11_gone 101 = .ok (.iaload, 1) := by decide +kernel
theorem dX11_gone_102 : decode cX11_gone 102 = .ok (.iconst 1, 1) := by decide +kernel
theorem dX11_gone_103 : decode cX11_gone 103 = .ok (.iadd, 1) := by decide +kernel
theorem dX11_gone_104 : decode cX11_gone 104 = .ok (.iastore, 1) := by decide +kernel
theorem dX11_gone_105 : decode cX11_gone 105 = .ok (.aload_n 0, 1) := by decide +kernel
theorem dX11_gone_106 : decode cX11_gone 106 = .ok (.getfield 7, 3) := by decide +kernel
theorem dX11_gone_109 : decode cX11_gone 109 = .ok (.iconst 2, 1) := by decide +kernel
theorem dX11_gone_110 : decode cX11_gone 110 = .ok (.iaload, 1) := by decide +kernel
theorem dX11_gone_111 : decode cX11_gone 111 = .ok (.ireturn, 1) := by decide +kernel
theorem dX11_forget_0 : decode cX11_forget 0 = .ok (.iload_n 1, 1) := by decide +kernel
theorem dX11_forget_1 : decode cX11_forget 1 = .ok (.i2l, 1) := by decide +kernel
theorem dX11_forget_2 : decode cX11_forget 2 = .ok (.lconst 0, 1) := by decide +kernel
theorem dX11_forget_3 : decode cX11_forget 3 = .ok (.lconst 1, 1) := by decide +kernel
theorem dX11_forget_4 : decode cX11_forget 4 = .ok (.invokestatic 53, 3) := by decide +kernel
theorem dX11_forget_7 : decode cX11_forget 7 = .ok (.ifCond .ne 10, 3) := by decide +kernel
theorem dX11_forget_10 : decode cX11_forget 10 = .ok (.aload_n 0, 1) := by decide +kernel
theorem dX11_forget_11 : decode cX11_forget 11 = .ok (.bipush (-2), 2) := by decide +kernel
theorem dX11_forget_13 : decode cX11_forget 13 = .ok (.invokevirtual 63, 3) := by decide +kernel
theorem dX11_forget_16 : decode cX11_forget 16 = .ok (.ireturn, 1) := by decide +kernel
theorem dX11_forget_17 : decode cX11_forget 17 = .ok (.aload_n 0, 1) := by decide +kernel
theorem dX11_forget_18 : decode cX11_forget 18 = .ok (.getfield 7, 3) := by decide +kernel
theorem dX11_forget_21 : decode cX11_forget 21 = .ok (.iconst 1, 1) := by decide +kernel
theorem dX11_forget_22 : decode cX11_forget 22 = .ok (.iload_n 1, 1) := by decide +kernel
theorem dX11_forget_23 : decode cX11_forget 23 = .ok (.iadd, 1) := by decide +kernel
theorem dX11_forget_24 : decode cX11_forget 24 = .ok (.iaload, 1) := by decide +kernel
theorem dX11_forget_25 : decode cX11_forget 25 = .ok (.istore_n 2, 1) := by decide +kernel
theorem dX11_forget_26 : decode cX11_forget 26 = .ok (.aload_n 0, 1) := by decide +kernel
theorem dX11_forget_27 : decode cX11_forget 27 = .ok (.getfield 7, 3) := by decide +kernel
theorem dX11_forget_30 : decode cX11_forget 30 = .ok (.iconst 1, 1) := by decide +kernel
theorem dX11_forget_31 : decode cX11_forget 31 = .ok (.iload_n 1, 1) := by decide +kernel
theorem dX11_forget_32 : decode cX11_forget 32 = .ok (.iadd, 1) := by decide +kernel
theorem dX11_forget_33 : decode cX11_forget 33 = .ok (.iconst 0, 1) := by decide +kernel
theorem dX11_forget_34 : decode cX11_forget 34 = .ok (.iastore, 1) := by decide +kernel
theorem dX11_forget_35 : decode cX11_forget 35 = .ok (.iload_n 2, 1) := by decide +kernel
theorem dX11_forget_36 : decode cX11_forget 36 = .ok (.ireturn, 1) := by decide +kernel
theorem dX11_kindsOf_0 : decode cX11_kindsOf 0 = .ok (.iconst 0, 1) := by decide +kernel
theorem dX11_kindsOf_1 : decode cX11_kindsOf 1 = .ok (.istore_n 2, 1) := by decide +kernel
theorem dX11_kindsOf_2 : decode cX11_kindsOf 2 = .ok (.iconst 0, 1) := by decide +kernel
theorem dX11_kindsOf_3 : decode cX11_kindsOf 3 = .ok (.istore_n 3, 1) := by decide +kernel
theorem dX11_kindsOf_4 : decode cX11_kindsOf 4 = .ok (.iload_n 3, 1) := by decide +kernel
theorem dX11_kindsOf_5 : decode cX11_kindsOf 5 = .ok (.bipush 6, 2) := by decide +kernel
theorem dX11_kindsOf_7 : decode cX11_kindsOf 7 = .ok (.if_icmp .ge 160, 3) := by decide +kernel
theorem dX11_kindsOf_10 : decode cX11_kindsOf 10 = .ok (.iconst 1, 1) := by decide +kernel
theorem dX11_kindsOf_11 : decode cX11_kindsOf 11 = .ok (.istore 4, 2) := by decide +kernel
theorem dX11_kindsOf_13 : decode cX11_kindsOf 13 = .ok (.iconst 0, 1) := by decide +kernel
theorem dX11_kindsOf_14 : decode cX11_kindsOf 14 = .ok (.istore 5, 2) := by decide +kernel
theorem dX11_kindsOf_16 : decode cX11_kindsOf 16 = .ok (.iload 5, 2) := by decide +kernel
theorem dX11_kindsOf_18 : decode cX11_kindsOf 18 = .ok (.aload_n 0, 1) := by decide +kernel
theorem dX11_kindsOf_19 : decode cX11_kindsOf 19 = .ok (.getfield 7, 3) := by decide +kernel
theorem dX11_kindsOf_22 : decode cX11_kindsOf 22 = .ok (.iconst 1, 1) := by decide +kernel
theorem dX11_kindsOf_23 : decode cX11_kindsOf 23 = .ok (.iaload, 1) := by decide +kernel
theorem dX11_kindsOf_24 : decode cX11_kindsOf 24 = .ok (.if_icmp .ge 122, 3) := by decide +kernel
theorem dX11_kindsOf_27 : decode cX11_kindsOf 27 = .ok (.bipush 23, 2) := by decide +kernel
theorem dX11_kindsOf_29 : decode cX11_kindsOf 29 = .ok (.bipush 6, 2) := by decide +kernel
